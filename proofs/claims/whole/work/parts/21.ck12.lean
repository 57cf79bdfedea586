/-! every row of the tables, looked through -/
theorem ck_X12_load : mj_cks mi_X12_load = true := by decide +kernel
theorem ck_X12_fault : mj_cks mi_X12_fault = true := by decide +kernel
theorem ck_J6_numberOfLeadingZeros_0f7a4 : mj_cks mi_J6_numberOfLeadingZeros_0f7a4 = true := by decide +kernel
theorem ck_J13_numberOfLeadingZeros_95d88 : mj_cks mi_J13_numberOfLeadingZeros_95d88 = true := by decide +kernel
theorem ck_J9_abs_067f4 : mj_cks mi_J9_abs_067f4 = true := by decide +kernel
theorem ck_J9_max_7cf53 : mj_cks mi_J9_max_7cf53 = true := by decide +kernel
theorem ck_J9_max_f86c9 : mj_cks mi_J9_max_f86c9 = true := by decide +kernel
theorem ck_J9_min_7cf53 : mj_cks mi_J9_min_7cf53 = true := by decide +kernel
theorem ck_J9_min_f86c9 : mj_cks mi_J9_min_f86c9 = true := by decide +kernel
