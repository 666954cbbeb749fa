/-! Codes are what the tables say. -/
set_option maxRecDepth 1000000 in
theorem pg_chk_0_q3 : (((pg_code 0).drop 120).take 40).all (pg_ck1 0) = true := by decide +kernel
theorem pg_chk_0_3 : ((pg_code 0).take 160).all (pg_ck1 0) = true := pg_glue (a := 120) (b := 40) pg_chk_0_2 pg_chk_0_q3
set_option maxRecDepth 1000000 in
theorem pg_chk_0_q4 : (((pg_code 0).drop 160).take 40).all (pg_ck1 0) = true := by decide +kernel
theorem pg_chk_0_4 : ((pg_code 0).take 200).all (pg_ck1 0) = true := pg_glue (a := 160) (b := 40) pg_chk_0_3 pg_chk_0_q4
set_option maxRecDepth 1000000 in
theorem pg_chk_0_q5 : (((pg_code 0).drop 200).take 40).all (pg_ck1 0) = true := by decide +kernel
theorem pg_chk_0_5 : ((pg_code 0).take 240).all (pg_ck1 0) = true := pg_glue (a := 200) (b := 40) pg_chk_0_4 pg_chk_0_q5
