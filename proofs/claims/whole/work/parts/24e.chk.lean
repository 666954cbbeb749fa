/-! Codes are what the tables say. -/
set_option maxRecDepth 1000000 in
theorem pg_chk_0_q12 : (((pg_code 0).drop 480).take 40).all (pg_ck1 0) = true := by decide +kernel
theorem pg_chk_0_12 : ((pg_code 0).take 520).all (pg_ck1 0) = true := pg_glue (a := 480) (b := 40) pg_chk_0_11 pg_chk_0_q12
set_option maxRecDepth 1000000 in
theorem pg_chk_0_q13 : (((pg_code 0).drop 520).take 35).all (pg_ck1 0) = true := by decide +kernel
theorem pg_chk_0_13 : ((pg_code 0).take 555).all (pg_ck1 0) = true := pg_glue (a := 520) (b := 35) pg_chk_0_12 pg_chk_0_q13
set_option maxRecDepth 1000000 in
theorem pg_chk_0 : pg_chk 0 = true := by
  have h := pg_chk_0_13
  rw [List.take_of_length_le (show (pg_code 0).length ≤ 555 by decide +kernel)] at h
  exact h
set_option maxRecDepth 1000000 in
theorem pg_chk_1 : pg_chk 1 = true := by decide +kernel
set_option maxRecDepth 1000000 in
theorem pg_chk_2 : pg_chk 2 = true := by decide +kernel
set_option maxRecDepth 1000000 in
theorem pg_chk_3 : pg_chk 3 = true := by decide +kernel
set_option maxRecDepth 1000000 in
theorem pg_chk_4 : pg_chk 4 = true := by decide +kernel
set_option maxRecDepth 1000000 in
theorem pg_chk_5 : pg_chk 5 = true := by decide +kernel
set_option maxRecDepth 1000000 in
theorem pg_chk_6 : pg_chk 6 = true := by decide +kernel
set_option maxRecDepth 1000000 in
theorem pg_chk_7 : pg_chk 7 = true := by decide +kernel
set_option maxRecDepth 1000000 in
theorem pg_chk_8 : pg_chk 8 = true := by decide +kernel
set_option maxRecDepth 1000000 in
theorem pg_chk_9 : pg_chk 9 = true := by decide +kernel
set_option maxRecDepth 1000000 in
theorem pg_chk_10 : pg_chk 10 = true := by decide +kernel
set_option maxRecDepth 1000000 in
theorem pg_chk_11 : pg_chk 11 = true := by decide +kernel
set_option maxRecDepth 1000000 in
theorem pg_chk_12 : pg_chk 12 = true := by decide +kernel
set_option maxRecDepth 1000000 in
theorem pg_chk_13 : pg_chk 13 = true := by decide +kernel
set_option maxRecDepth 1000000 in
theorem pg_chk_14 : pg_chk 14 = true := by decide +kernel
set_option maxRecDepth 1000000 in
theorem pg_chk_15 : pg_chk 15 = true := by decide +kernel
set_option maxRecDepth 1000000 in
theorem pg_chk_16 : pg_chk 16 = true := by decide +kernel
set_option maxRecDepth 1000000 in
theorem pg_chk_17 : pg_chk 17 = true := by decide +kernel
set_option maxRecDepth 1000000 in
theorem pg_chk_18 : pg_chk 18 = true := by decide +kernel
set_option maxRecDepth 1000000 in
theorem pg_chk_19 : pg_chk 19 = true := by decide +kernel
set_option maxRecDepth 1000000 in
theorem pg_chk_20 : pg_chk 20 = true := by decide +kernel
set_option maxRecDepth 1000000 in
theorem pg_chk_21 : pg_chk 21 = true := by decide +kernel
set_option maxRecDepth 1000000 in
theorem pg_chk_22 : pg_chk 22 = true := by decide +kernel
set_option maxRecDepth 1000000 in
theorem pg_chk_23 : pg_chk 23 = true := by decide +kernel
set_option maxRecDepth 1000000 in
theorem pg_chk_24 : pg_chk 24 = true := by decide +kernel
set_option maxRecDepth 1000000 in
theorem pg_chk_25 : pg_chk 25 = true := by decide +kernel
set_option maxRecDepth 1000000 in
theorem pg_chk_26 : pg_chk 26 = true := by decide +kernel
