/-! Codes are what the tables say. -/
set_option maxRecDepth 1000000 in
theorem pg_chk_0_q6 : (((pg_code 0).drop 240).take 40).all (pg_ck1 0) = true := by decide +kernel
theorem pg_chk_0_6 : ((pg_code 0).take 280).all (pg_ck1 0) = true := pg_glue (a := 240) (b := 40) pg_chk_0_5 pg_chk_0_q6
set_option maxRecDepth 1000000 in
theorem pg_chk_0_q7 : (((pg_code 0).drop 280).take 40).all (pg_ck1 0) = true := by decide +kernel
theorem pg_chk_0_7 : ((pg_code 0).take 320).all (pg_ck1 0) = true := pg_glue (a := 280) (b := 40) pg_chk_0_6 pg_chk_0_q7
set_option maxRecDepth 1000000 in
theorem pg_chk_0_q8 : (((pg_code 0).drop 320).take 40).all (pg_ck1 0) = true := by decide +kernel
theorem pg_chk_0_8 : ((pg_code 0).take 360).all (pg_ck1 0) = true := pg_glue (a := 320) (b := 40) pg_chk_0_7 pg_chk_0_q8
