/-! Codes are what the tables say. -/
set_option maxRecDepth 1000000 in
theorem pg_chk_213_0 : ((pg_code 213).take 60).all (pg_ck1 213) = true := by decide +kernel
set_option maxRecDepth 1000000 in
theorem pg_chk_213_q1 : (((pg_code 213).drop 60).take 33).all (pg_ck1 213) = true := by decide +kernel
theorem pg_chk_213_1 : ((pg_code 213).take 93).all (pg_ck1 213) = true := pg_glue (a := 60) (b := 33) pg_chk_213_0 pg_chk_213_q1
set_option maxRecDepth 1000000 in
theorem pg_chk_213 : pg_chk 213 = true := by
  have h := pg_chk_213_1
  rw [List.take_of_length_le (show (pg_code 213).length ≤ 93 by decide +kernel)] at h
  exact h
set_option maxRecDepth 1000000 in
theorem pg_chk_214_0 : ((pg_code 214).take 60).all (pg_ck1 214) = true := by decide +kernel
set_option maxRecDepth 1000000 in
theorem pg_chk_214_q1 : (((pg_code 214).drop 60).take 60).all (pg_ck1 214) = true := by decide +kernel
theorem pg_chk_214_1 : ((pg_code 214).take 120).all (pg_ck1 214) = true := pg_glue (a := 60) (b := 60) pg_chk_214_0 pg_chk_214_q1
set_option maxRecDepth 1000000 in
theorem pg_chk_214_q2 : (((pg_code 214).drop 120).take 60).all (pg_ck1 214) = true := by decide +kernel
theorem pg_chk_214_2 : ((pg_code 214).take 180).all (pg_ck1 214) = true := pg_glue (a := 120) (b := 60) pg_chk_214_1 pg_chk_214_q2
set_option maxRecDepth 1000000 in
theorem pg_chk_214_q3 : (((pg_code 214).drop 180).take 32).all (pg_ck1 214) = true := by decide +kernel
theorem pg_chk_214_3 : ((pg_code 214).take 212).all (pg_ck1 214) = true := pg_glue (a := 180) (b := 32) pg_chk_214_2 pg_chk_214_q3
set_option maxRecDepth 1000000 in
theorem pg_chk_214 : pg_chk 214 = true := by
  have h := pg_chk_214_3
  rw [List.take_of_length_le (show (pg_code 214).length ≤ 212 by decide +kernel)] at h
  exact h
set_option maxRecDepth 1000000 in
theorem pg_chk_215 : pg_chk 215 = true := by decide +kernel
set_option maxRecDepth 1000000 in
theorem pg_chk_216 : pg_chk 216 = true := by decide +kernel
set_option maxRecDepth 1000000 in
theorem pg_chk_217 : pg_chk 217 = true := by decide +kernel
set_option maxRecDepth 1000000 in
theorem pg_chk_218_0 : ((pg_code 218).take 60).all (pg_ck1 218) = true := by decide +kernel
