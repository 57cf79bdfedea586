/-! every row of the tables, looked through -/
theorem ck_X12_feed : mj_cks mi_X12_feed = true := by decide +kernel
theorem ck_X12_end : mj_cks mi_X12_end = true := by decide +kernel
theorem ck_X12_turned : mj_cks mi_X12_turned = true := by decide +kernel
theorem ck_X12_varint : mj_cks mi_X12_varint = true := by decide +kernel
theorem ck_X12_bits : mj_cks mi_X12_bits = true := by decide +kernel
theorem ck_X12_laying : mj_cks mi_X12_laying = true := by decide +kernel
theorem ck_X12_at : mj_cks mi_X12_at = true := by decide +kernel
theorem ck_X12_turns : mj_cks mi_X12_turns = true := by decide +kernel
theorem ck_X12_sorted : mj_cks mi_X12_sorted = true := by decide +kernel
theorem ck_X12_divides : mj_cks mi_X12_divides = true := by decide +kernel
theorem ck_X12_beside : mj_cks mi_X12_beside = true := by decide +kernel
theorem ck_X12_work : mj_cks mi_X12_work = true := by decide +kernel
theorem ck_X12_isIn : mj_cks mi_X12_isIn = true := by decide +kernel
theorem ck_X12_patches : mj_cks mi_X12_patches = true := by decide +kernel
theorem ck_X12_least : mj_cks mi_X12_least = true := by decide +kernel
