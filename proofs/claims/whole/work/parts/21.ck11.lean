/-! every row of the tables, looked through -/
theorem ck_X12_fails : mj_cks mi_X12_fails = true := by decide +kernel
theorem ck_X12_readByte : mj_cks mi_X12_readByte = true := by decide +kernel
theorem ck_X12_readVarint : mj_cks mi_X12_readVarint = true := by decide +kernel
theorem ck_X12_readTurned : mj_cks mi_X12_readTurned = true := by decide +kernel
theorem ck_X12_readLaying : mj_cks mi_X12_readLaying = true := by decide +kernel
theorem ck_X12_readWide : mj_cks mi_X12_readWide = true := by decide +kernel
theorem ck_X12_readLeaf : mj_cks mi_X12_readLeaf = true := by decide +kernel
theorem ck_X12_readBehind : mj_cks mi_X12_readBehind = true := by decide +kernel
theorem ck_X12_readBefore : mj_cks mi_X12_readBefore = true := by decide +kernel
theorem ck_X12_reads : mj_cks mi_X12_reads = true := by decide +kernel
