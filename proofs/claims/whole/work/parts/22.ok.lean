/-! The link tables are right. -/
set_option maxRecDepth 1000000 in
theorem pg_okF_t : pg_okF = true := by decide +kernel
set_option maxRecDepth 1000000 in
theorem pg_okM_t : pg_okM = true := by decide +kernel
set_option maxRecDepth 1000000 in
theorem pg_okN_t : pg_okN = true := by decide +kernel
set_option maxRecDepth 1000000 in
theorem pg_okC_t : pg_okC = true := by decide +kernel
set_option maxRecDepth 1000000 in
theorem pg_okA_t : pg_okA = true := by decide +kernel
set_option maxRecDepth 1000000 in
theorem pg_okU_t : pg_okU = true := by decide +kernel
set_option maxRecDepth 1000000 in
theorem pg_okY_t : pg_okY = true := by decide +kernel
set_option maxRecDepth 1000000 in
theorem pg_okO_t : pg_okO = true := by decide +kernel
set_option maxRecDepth 1000000 in
theorem pg_okK_t : pg_okK = true := by decide +kernel
set_option maxRecDepth 1000000 in
theorem pg_okW_t : pg_okW = true := by decide +kernel
set_option maxRecDepth 1000000 in
theorem pg_okX_t : pg_okX = true := by decide +kernel
set_option maxRecDepth 1000000 in
theorem pg_okXW_t : pg_okXW = true := by decide +kernel
set_option maxRecDepth 1000000 in
theorem pg_okJ_t : pg_okJ = true := by decide +kernel
