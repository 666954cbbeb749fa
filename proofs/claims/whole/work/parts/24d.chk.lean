/-! Codes are what the tables say. -/
set_option maxRecDepth 1000000 in
theorem pg_chk_0_q9 : (((pg_code 0).drop 360).take 40).all (pg_ck1 0) = true := by decide +kernel
theorem pg_chk_0_9 : ((pg_code 0).take 400).all (pg_ck1 0) = true := pg_glue (a := 360) (b := 40) pg_chk_0_8 pg_chk_0_q9
set_option maxRecDepth 1000000 in
theorem pg_chk_0_q10 : (((pg_code 0).drop 400).take 40).all (pg_ck1 0) = true := by decide +kernel
theorem pg_chk_0_10 : ((pg_code 0).take 440).all (pg_ck1 0) = true := pg_glue (a := 400) (b := 40) pg_chk_0_9 pg_chk_0_q10
set_option maxRecDepth 1000000 in
theorem pg_chk_0_q11 : (((pg_code 0).drop 440).take 40).all (pg_ck1 0) = true := by decide +kernel
theorem pg_chk_0_11 : ((pg_code 0).take 480).all (pg_ck1 0) = true := pg_glue (a := 440) (b := 40) pg_chk_0_10 pg_chk_0_q11
