/-! Codes are what the tables say. -/
set_option maxRecDepth 1000000 in
theorem pg_chk_201 : pg_chk 201 = true := by decide +kernel
set_option maxRecDepth 1000000 in
theorem pg_chk_202 : pg_chk 202 = true := by decide +kernel
set_option maxRecDepth 1000000 in
theorem pg_chk_203 : pg_chk 203 = true := by decide +kernel
set_option maxRecDepth 1000000 in
theorem pg_chk_204 : pg_chk 204 = true := by decide +kernel
set_option maxRecDepth 1000000 in
theorem pg_chk_205 : pg_chk 205 = true := by decide +kernel
set_option maxRecDepth 1000000 in
theorem pg_chk_206 : pg_chk 206 = true := by decide +kernel
set_option maxRecDepth 1000000 in
theorem pg_chk_207_0 : ((pg_code 207).take 60).all (pg_ck1 207) = true := by decide +kernel
set_option maxRecDepth 1000000 in
theorem pg_chk_207_q1 : (((pg_code 207).drop 60).take 41).all (pg_ck1 207) = true := by decide +kernel
theorem pg_chk_207_1 : ((pg_code 207).take 101).all (pg_ck1 207) = true := pg_glue (a := 60) (b := 41) pg_chk_207_0 pg_chk_207_q1
set_option maxRecDepth 1000000 in
theorem pg_chk_207 : pg_chk 207 = true := by
  have h := pg_chk_207_1
  rw [List.take_of_length_le (show (pg_code 207).length ≤ 101 by decide +kernel)] at h
  exact h
set_option maxRecDepth 1000000 in
theorem pg_chk_208_0 : ((pg_code 208).take 60).all (pg_ck1 208) = true := by decide +kernel
set_option maxRecDepth 1000000 in
theorem pg_chk_208_q1 : (((pg_code 208).drop 60).take 60).all (pg_ck1 208) = true := by decide +kernel
theorem pg_chk_208_1 : ((pg_code 208).take 120).all (pg_ck1 208) = true := pg_glue (a := 60) (b := 60) pg_chk_208_0 pg_chk_208_q1
set_option maxRecDepth 1000000 in
theorem pg_chk_208_q2 : (((pg_code 208).drop 120).take 13).all (pg_ck1 208) = true := by decide +kernel
theorem pg_chk_208_2 : ((pg_code 208).take 133).all (pg_ck1 208) = true := pg_glue (a := 120) (b := 13) pg_chk_208_1 pg_chk_208_q2
set_option maxRecDepth 1000000 in
theorem pg_chk_208 : pg_chk 208 = true := by
  have h := pg_chk_208_2
  rw [List.take_of_length_le (show (pg_code 208).length ≤ 133 by decide +kernel)] at h
  exact h
set_option maxRecDepth 1000000 in
theorem pg_chk_209 : pg_chk 209 = true := by decide +kernel
set_option maxRecDepth 1000000 in
theorem pg_chk_210_0 : ((pg_code 210).take 60).all (pg_ck1 210) = true := by decide +kernel
set_option maxRecDepth 1000000 in
theorem pg_chk_210_q1 : (((pg_code 210).drop 60).take 50).all (pg_ck1 210) = true := by decide +kernel
theorem pg_chk_210_1 : ((pg_code 210).take 110).all (pg_ck1 210) = true := pg_glue (a := 60) (b := 50) pg_chk_210_0 pg_chk_210_q1
set_option maxRecDepth 1000000 in
theorem pg_chk_210 : pg_chk 210 = true := by
  have h := pg_chk_210_1
  rw [List.take_of_length_le (show (pg_code 210).length ≤ 110 by decide +kernel)] at h
  exact h
set_option maxRecDepth 1000000 in
theorem pg_chk_211 : pg_chk 211 = true := by decide +kernel
set_option maxRecDepth 1000000 in
theorem pg_chk_212 : pg_chk 212 = true := by decide +kernel
