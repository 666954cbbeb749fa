/-! Codes are what the tables say. -/
set_option maxRecDepth 1000000 in
theorem pg_chk_235_q1 : (((pg_code 235).drop 60).take 40).all (pg_ck1 235) = true := by decide +kernel
theorem pg_chk_235_1 : ((pg_code 235).take 100).all (pg_ck1 235) = true := pg_glue (a := 60) (b := 40) pg_chk_235_0 pg_chk_235_q1
set_option maxRecDepth 1000000 in
theorem pg_chk_235 : pg_chk 235 = true := by
  have h := pg_chk_235_1
  rw [List.take_of_length_le (show (pg_code 235).length ≤ 100 by decide +kernel)] at h
  exact h
set_option maxRecDepth 1000000 in
theorem pg_chk_236 : pg_chk 236 = true := by decide +kernel
set_option maxRecDepth 1000000 in
theorem pg_chk_237 : pg_chk 237 = true := by decide +kernel
set_option maxRecDepth 1000000 in
theorem pg_chk_238_0 : ((pg_code 238).take 60).all (pg_ck1 238) = true := by decide +kernel
set_option maxRecDepth 1000000 in
theorem pg_chk_238_q1 : (((pg_code 238).drop 60).take 51).all (pg_ck1 238) = true := by decide +kernel
theorem pg_chk_238_1 : ((pg_code 238).take 111).all (pg_ck1 238) = true := pg_glue (a := 60) (b := 51) pg_chk_238_0 pg_chk_238_q1
set_option maxRecDepth 1000000 in
theorem pg_chk_238 : pg_chk 238 = true := by
  have h := pg_chk_238_1
  rw [List.take_of_length_le (show (pg_code 238).length ≤ 111 by decide +kernel)] at h
  exact h
set_option maxRecDepth 1000000 in
theorem pg_chk_239 : pg_chk 239 = true := by decide +kernel
set_option maxRecDepth 1000000 in
theorem pg_chk_240 : pg_chk 240 = true := by decide +kernel
set_option maxRecDepth 1000000 in
theorem pg_chk_241 : pg_chk 241 = true := by decide +kernel
set_option maxRecDepth 1000000 in
theorem pg_chk_242 : pg_chk 242 = true := by decide +kernel
set_option maxRecDepth 1000000 in
theorem pg_chk_243 : pg_chk 243 = true := by decide +kernel
