/-! the law's table, in stretches -/
theorem ckl_480 : ((ct_L_law.drop 480).take 60).all (fun e => mj_ck mi_L_law e.1 e.2.1 e.2.2) = true := by decide +kernel
theorem ckl_540 : ((ct_L_law.drop 540).take 60).all (fun e => mj_ck mi_L_law e.1 e.2.1 e.2.2) = true := by decide +kernel
theorem ckl_600 : ((ct_L_law.drop 600).take 60).all (fun e => mj_ck mi_L_law e.1 e.2.1 e.2.2) = true := by decide +kernel
theorem ckl_660 : ((ct_L_law.drop 660).take 60).all (fun e => mj_ck mi_L_law e.1 e.2.1 e.2.2) = true := by decide +kernel
