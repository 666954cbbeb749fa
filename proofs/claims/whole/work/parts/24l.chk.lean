/-! Codes are what the tables say. -/
set_option maxRecDepth 1000000 in
theorem pg_chk_192 : pg_chk 192 = true := by decide +kernel
set_option maxRecDepth 1000000 in
theorem pg_chk_193 : pg_chk 193 = true := by decide +kernel
set_option maxRecDepth 1000000 in
theorem pg_chk_194_0 : ((pg_code 194).take 60).all (pg_ck1 194) = true := by decide +kernel
set_option maxRecDepth 1000000 in
theorem pg_chk_194_q1 : (((pg_code 194).drop 60).take 60).all (pg_ck1 194) = true := by decide +kernel
theorem pg_chk_194_1 : ((pg_code 194).take 120).all (pg_ck1 194) = true := pg_glue (a := 60) (b := 60) pg_chk_194_0 pg_chk_194_q1
set_option maxRecDepth 1000000 in
theorem pg_chk_194_q2 : (((pg_code 194).drop 120).take 60).all (pg_ck1 194) = true := by decide +kernel
theorem pg_chk_194_2 : ((pg_code 194).take 180).all (pg_ck1 194) = true := pg_glue (a := 120) (b := 60) pg_chk_194_1 pg_chk_194_q2
set_option maxRecDepth 1000000 in
theorem pg_chk_194_q3 : (((pg_code 194).drop 180).take 24).all (pg_ck1 194) = true := by decide +kernel
theorem pg_chk_194_3 : ((pg_code 194).take 204).all (pg_ck1 194) = true := pg_glue (a := 180) (b := 24) pg_chk_194_2 pg_chk_194_q3
set_option maxRecDepth 1000000 in
theorem pg_chk_194 : pg_chk 194 = true := by
  have h := pg_chk_194_3
  rw [List.take_of_length_le (show (pg_code 194).length ≤ 204 by decide +kernel)] at h
  exact h
set_option maxRecDepth 1000000 in
theorem pg_chk_195 : pg_chk 195 = true := by decide +kernel
set_option maxRecDepth 1000000 in
theorem pg_chk_196 : pg_chk 196 = true := by decide +kernel
set_option maxRecDepth 1000000 in
theorem pg_chk_197 : pg_chk 197 = true := by decide +kernel
set_option maxRecDepth 1000000 in
theorem pg_chk_198_0 : ((pg_code 198).take 60).all (pg_ck1 198) = true := by decide +kernel
set_option maxRecDepth 1000000 in
theorem pg_chk_198_q1 : (((pg_code 198).drop 60).take 45).all (pg_ck1 198) = true := by decide +kernel
theorem pg_chk_198_1 : ((pg_code 198).take 105).all (pg_ck1 198) = true := pg_glue (a := 60) (b := 45) pg_chk_198_0 pg_chk_198_q1
set_option maxRecDepth 1000000 in
theorem pg_chk_198 : pg_chk 198 = true := by
  have h := pg_chk_198_1
  rw [List.take_of_length_le (show (pg_code 198).length ≤ 105 by decide +kernel)] at h
  exact h
set_option maxRecDepth 1000000 in
theorem pg_chk_199 : pg_chk 199 = true := by decide +kernel
set_option maxRecDepth 1000000 in
theorem pg_chk_200 : pg_chk 200 = true := by decide +kernel
