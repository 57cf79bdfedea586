/-! the law's table, in stretches -/
theorem ckl_720 : ((ct_L_law.drop 720).take 60).all (fun e => mj_ck mi_L_law e.1 e.2.1 e.2.2) = true := by decide +kernel
theorem ckl_780 : ((ct_L_law.drop 780).take 60).all (fun e => mj_ck mi_L_law e.1 e.2.1 e.2.2) = true := by decide +kernel
theorem ckl_840 : ((ct_L_law.drop 840).take 60).all (fun e => mj_ck mi_L_law e.1 e.2.1 e.2.2) = true := by decide +kernel
theorem ckl_900 : ((ct_L_law.drop 900).take 60).all (fun e => mj_ck mi_L_law e.1 e.2.1 e.2.2) = true := by decide +kernel
