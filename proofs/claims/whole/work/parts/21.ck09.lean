/-! every row of the tables, looked through -/
theorem ck_X12_rowsOf : mj_cks mi_X12_rowsOf = true := by decide +kernel
theorem ck_X12_gathers : mj_cks mi_X12_gathers = true := by decide +kernel
theorem ck_X12_head : mj_cks mi_X12_head = true := by decide +kernel
theorem ck_X12_packs : mj_cks mi_X12_packs = true := by decide +kernel
theorem ck_X12_keeps : mj_cks mi_X12_keeps = true := by decide +kernel
theorem ck_X12_isColumn : mj_cks mi_X12_isColumn = true := by decide +kernel
theorem ck_X12_pieces : mj_cks mi_X12_pieces = true := by decide +kernel
theorem ck_X12_way_ : mj_cks mi_X12_way_ = true := by decide +kernel
theorem ck_X12_more : mj_cks mi_X12_more = true := by decide +kernel
theorem ck_X12_value : mj_cks mi_X12_value = true := by decide +kernel
theorem ck_X12_missing : mj_cks mi_X12_missing = true := by decide +kernel
theorem ck_X12_sow : mj_cks mi_X12_sow = true := by decide +kernel
theorem ck_X12_isRow : mj_cks mi_X12_isRow = true := by decide +kernel
theorem ck_X12_changes : mj_cks mi_X12_changes = true := by decide +kernel
theorem ck_X12_set : mj_cks mi_X12_set = true := by decide +kernel
theorem ck_X12_pack : mj_cks mi_X12_pack = true := by decide +kernel
theorem ck_X12_clear : mj_cks mi_X12_clear = true := by decide +kernel
