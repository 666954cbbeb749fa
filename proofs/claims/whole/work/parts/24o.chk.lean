/-! Codes are what the tables say. -/
set_option maxRecDepth 1000000 in
theorem pg_chk_218_q1 : (((pg_code 218).drop 60).take 60).all (pg_ck1 218) = true := by decide +kernel
theorem pg_chk_218_1 : ((pg_code 218).take 120).all (pg_ck1 218) = true := pg_glue (a := 60) (b := 60) pg_chk_218_0 pg_chk_218_q1
set_option maxRecDepth 1000000 in
theorem pg_chk_218 : pg_chk 218 = true := by
  have h := pg_chk_218_1
  rw [List.take_of_length_le (show (pg_code 218).length ≤ 120 by decide +kernel)] at h
  exact h
set_option maxRecDepth 1000000 in
theorem pg_chk_219 : pg_chk 219 = true := by decide +kernel
set_option maxRecDepth 1000000 in
theorem pg_chk_220 : pg_chk 220 = true := by decide +kernel
set_option maxRecDepth 1000000 in
theorem pg_chk_221 : pg_chk 221 = true := by decide +kernel
set_option maxRecDepth 1000000 in
theorem pg_chk_222 : pg_chk 222 = true := by decide +kernel
set_option maxRecDepth 1000000 in
theorem pg_chk_223 : pg_chk 223 = true := by decide +kernel
set_option maxRecDepth 1000000 in
theorem pg_chk_224 : pg_chk 224 = true := by decide +kernel
set_option maxRecDepth 1000000 in
theorem pg_chk_225 : pg_chk 225 = true := by decide +kernel
set_option maxRecDepth 1000000 in
theorem pg_chk_226 : pg_chk 226 = true := by decide +kernel
set_option maxRecDepth 1000000 in
theorem pg_chk_227 : pg_chk 227 = true := by decide +kernel
set_option maxRecDepth 1000000 in
theorem pg_chk_228_0 : ((pg_code 228).take 60).all (pg_ck1 228) = true := by decide +kernel
set_option maxRecDepth 1000000 in
theorem pg_chk_228_q1 : (((pg_code 228).drop 60).take 60).all (pg_ck1 228) = true := by decide +kernel
theorem pg_chk_228_1 : ((pg_code 228).take 120).all (pg_ck1 228) = true := pg_glue (a := 60) (b := 60) pg_chk_228_0 pg_chk_228_q1
set_option maxRecDepth 1000000 in
theorem pg_chk_228_q2 : (((pg_code 228).drop 120).take 10).all (pg_ck1 228) = true := by decide +kernel
theorem pg_chk_228_2 : ((pg_code 228).take 130).all (pg_ck1 228) = true := pg_glue (a := 120) (b := 10) pg_chk_228_1 pg_chk_228_q2
set_option maxRecDepth 1000000 in
theorem pg_chk_228 : pg_chk 228 = true := by
  have h := pg_chk_228_2
  rw [List.take_of_length_le (show (pg_code 228).length ≤ 130 by decide +kernel)] at h
  exact h
set_option maxRecDepth 1000000 in
theorem pg_chk_229 : pg_chk 229 = true := by decide +kernel
set_option maxRecDepth 1000000 in
theorem pg_chk_230 : pg_chk 230 = true := by decide +kernel
set_option maxRecDepth 1000000 in
theorem pg_chk_231 : pg_chk 231 = true := by decide +kernel
set_option maxRecDepth 1000000 in
theorem pg_chk_232 : pg_chk 232 = true := by decide +kernel
set_option maxRecDepth 1000000 in
theorem pg_chk_233 : pg_chk 233 = true := by decide +kernel
set_option maxRecDepth 1000000 in
theorem pg_chk_234 : pg_chk 234 = true := by decide +kernel
set_option maxRecDepth 1000000 in
theorem pg_chk_235_0 : ((pg_code 235).take 60).all (pg_ck1 235) = true := by decide +kernel
