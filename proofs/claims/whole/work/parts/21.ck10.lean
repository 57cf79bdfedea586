/-! every row of the tables, looked through -/
theorem ck_X12_count : mj_cks mi_X12_count = true := by decide +kernel
theorem ck_X12_has : mj_cks mi_X12_has = true := by decide +kernel
theorem ck_X12_get : mj_cks mi_X12_get = true := by decide +kernel
theorem ck_X12_isPiece : mj_cks mi_X12_isPiece = true := by decide +kernel
theorem ck_X12_isPacked : mj_cks mi_X12_isPacked = true := by decide +kernel
theorem ck_X12_unpacks : mj_cks mi_X12_unpacks = true := by decide +kernel
theorem ck_X12_piece : mj_cks mi_X12_piece = true := by decide +kernel
theorem ck_X12_at_ : mj_cks mi_X12_at_ = true := by decide +kernel
theorem ck_X12_code : mj_cks mi_X12_code = true := by decide +kernel
theorem ck_X12_front : mj_cks mi_X12_front = true := by decide +kernel
theorem ck_X12_pair : mj_cks mi_X12_pair = true := by decide +kernel
theorem ck_X12_isLooked : mj_cks mi_X12_isLooked = true := by decide +kernel
theorem ck_X12_looks : mj_cks mi_X12_looks = true := by decide +kernel
theorem ck_X12_among : mj_cks mi_X12_among = true := by decide +kernel
theorem ck_X12_sum : mj_cks mi_X12_sum = true := by decide +kernel
theorem ck_X12_looked : mj_cks mi_X12_looked = true := by decide +kernel
theorem ck_X12_take : mj_cks mi_X12_take = true := by decide +kernel
