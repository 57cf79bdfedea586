/-! the law's table, in stretches -/
theorem ckl_240 : ((ct_L_law.drop 240).take 60).all (fun e => mj_ck mi_L_law e.1 e.2.1 e.2.2) = true := by decide +kernel
theorem ckl_300 : ((ct_L_law.drop 300).take 60).all (fun e => mj_ck mi_L_law e.1 e.2.1 e.2.2) = true := by decide +kernel
theorem ckl_360 : ((ct_L_law.drop 360).take 60).all (fun e => mj_ck mi_L_law e.1 e.2.1 e.2.2) = true := by decide +kernel
theorem ckl_420 : ((ct_L_law.drop 420).take 60).all (fun e => mj_ck mi_L_law e.1 e.2.1 e.2.2) = true := by decide +kernel
