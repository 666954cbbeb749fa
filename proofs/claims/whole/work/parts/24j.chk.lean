/-! Codes are what the tables say. -/
set_option maxRecDepth 1000000 in
theorem pg_chk_162_0 : ((pg_code 162).take 60).all (pg_ck1 162) = true := by decide +kernel
set_option maxRecDepth 1000000 in
theorem pg_chk_162_q1 : (((pg_code 162).drop 60).take 60).all (pg_ck1 162) = true := by decide +kernel
theorem pg_chk_162_1 : ((pg_code 162).take 120).all (pg_ck1 162) = true := pg_glue (a := 60) (b := 60) pg_chk_162_0 pg_chk_162_q1
set_option maxRecDepth 1000000 in
theorem pg_chk_162_q2 : (((pg_code 162).drop 120).take 36).all (pg_ck1 162) = true := by decide +kernel
theorem pg_chk_162_2 : ((pg_code 162).take 156).all (pg_ck1 162) = true := pg_glue (a := 120) (b := 36) pg_chk_162_1 pg_chk_162_q2
set_option maxRecDepth 1000000 in
theorem pg_chk_162 : pg_chk 162 = true := by
  have h := pg_chk_162_2
  rw [List.take_of_length_le (show (pg_code 162).length ≤ 156 by decide +kernel)] at h
  exact h
set_option maxRecDepth 1000000 in
theorem pg_chk_163 : pg_chk 163 = true := by decide +kernel
set_option maxRecDepth 1000000 in
theorem pg_chk_164 : pg_chk 164 = true := by decide +kernel
set_option maxRecDepth 1000000 in
theorem pg_chk_165 : pg_chk 165 = true := by decide +kernel
set_option maxRecDepth 1000000 in
theorem pg_chk_166 : pg_chk 166 = true := by decide +kernel
set_option maxRecDepth 1000000 in
theorem pg_chk_167 : pg_chk 167 = true := by decide +kernel
set_option maxRecDepth 1000000 in
theorem pg_chk_168 : pg_chk 168 = true := by decide +kernel
set_option maxRecDepth 1000000 in
theorem pg_chk_169_0 : ((pg_code 169).take 60).all (pg_ck1 169) = true := by decide +kernel
set_option maxRecDepth 1000000 in
theorem pg_chk_169_q1 : (((pg_code 169).drop 60).take 60).all (pg_ck1 169) = true := by decide +kernel
theorem pg_chk_169_1 : ((pg_code 169).take 120).all (pg_ck1 169) = true := pg_glue (a := 60) (b := 60) pg_chk_169_0 pg_chk_169_q1
set_option maxRecDepth 1000000 in
theorem pg_chk_169_q2 : (((pg_code 169).drop 120).take 15).all (pg_ck1 169) = true := by decide +kernel
theorem pg_chk_169_2 : ((pg_code 169).take 135).all (pg_ck1 169) = true := pg_glue (a := 120) (b := 15) pg_chk_169_1 pg_chk_169_q2
set_option maxRecDepth 1000000 in
theorem pg_chk_169 : pg_chk 169 = true := by
  have h := pg_chk_169_2
  rw [List.take_of_length_le (show (pg_code 169).length ≤ 135 by decide +kernel)] at h
  exact h
set_option maxRecDepth 1000000 in
theorem pg_chk_170 : pg_chk 170 = true := by decide +kernel
set_option maxRecDepth 1000000 in
theorem pg_chk_171 : pg_chk 171 = true := by decide +kernel
set_option maxRecDepth 1000000 in
theorem pg_chk_172 : pg_chk 172 = true := by decide +kernel
set_option maxRecDepth 1000000 in
theorem pg_chk_173 : pg_chk 173 = true := by decide +kernel
set_option maxRecDepth 1000000 in
theorem pg_chk_174_0 : ((pg_code 174).take 60).all (pg_ck1 174) = true := by decide +kernel
