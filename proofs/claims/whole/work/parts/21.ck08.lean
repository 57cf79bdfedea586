/-! every row of the tables, looked through -/
theorem ck_X12_wideOf : mj_cks mi_X12_wideOf = true := by decide +kernel
theorem ck_X12_leaf : mj_cks mi_X12_leaf = true := by decide +kernel
theorem ck_X12_way : mj_cks mi_X12_way = true := by decide +kernel
theorem ck_X12_leaves : mj_cks mi_X12_leaves = true := by decide +kernel
theorem ck_X12_all : mj_cks mi_X12_all = true := by decide +kernel
theorem ck_X12_best : mj_cks mi_X12_best = true := by decide +kernel
theorem ck_X12_write : mj_cks mi_X12_write = true := by decide +kernel
theorem ck_X12_writeVarint : mj_cks mi_X12_writeVarint = true := by decide +kernel
theorem ck_X12_lay : mj_cks mi_X12_lay = true := by decide +kernel
theorem ck_X12_ends : mj_cks mi_X12_ends = true := by decide +kernel
theorem ck_X12_before : mj_cks mi_X12_before = true := by decide +kernel
theorem ck_X12_behind : mj_cks mi_X12_behind = true := by decide +kernel
theorem ck_X12_writeLeaf : mj_cks mi_X12_writeLeaf = true := by decide +kernel
