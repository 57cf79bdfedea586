/-! every row of the tables, looked through -/
theorem ck_X7_passLaying : mj_cks mi_X7_passLaying = true := by decide +kernel
theorem ck_X7_readFrame : mj_cks mi_X7_readFrame = true := by decide +kernel
theorem ck_X7_readHeads : mj_cks mi_X7_readHeads = true := by decide +kernel
theorem ck_X7_readHead : mj_cks mi_X7_readHead = true := by decide +kernel
theorem ck_X7_readInnermost : mj_cks mi_X7_readInnermost = true := by decide +kernel
theorem ck_X7_readPlain : mj_cks mi_X7_readPlain = true := by decide +kernel
theorem ck_X7_readNarrow : mj_cks mi_X7_readNarrow = true := by decide +kernel
theorem ck_X7_readPatched : mj_cks mi_X7_readPatched = true := by decide +kernel
theorem ck_X7_undo : mj_cks mi_X7_undo = true := by decide +kernel
theorem ck_X7_addSteps : mj_cks mi_X7_addSteps = true := by decide +kernel
theorem ck_X7_multiply : mj_cks mi_X7_multiply = true := by decide +kernel
theorem ck_X7_spreadRuns : mj_cks mi_X7_spreadRuns = true := by decide +kernel
theorem ck_X7_lookUp : mj_cks mi_X7_lookUp = true := by decide +kernel
