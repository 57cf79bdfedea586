/-! the law's table, in stretches -/
theorem ckl_0 : ((ct_L_law.drop 0).take 60).all (fun e => mj_ck mi_L_law e.1 e.2.1 e.2.2) = true := by decide +kernel
theorem ckl_60 : ((ct_L_law.drop 60).take 60).all (fun e => mj_ck mi_L_law e.1 e.2.1 e.2.2) = true := by decide +kernel
theorem ckl_120 : ((ct_L_law.drop 120).take 60).all (fun e => mj_ck mi_L_law e.1 e.2.1 e.2.2) = true := by decide +kernel
theorem ckl_180 : ((ct_L_law.drop 180).take 60).all (fun e => mj_ck mi_L_law e.1 e.2.1 e.2.2) = true := by decide +kernel
