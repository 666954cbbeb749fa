/-! Codes are what the tables say. -/
set_option maxRecDepth 1000000 in
theorem pg_chk_174_q1 : (((pg_code 174).drop 60).take 60).all (pg_ck1 174) = true := by decide +kernel
theorem pg_chk_174_1 : ((pg_code 174).take 120).all (pg_ck1 174) = true := pg_glue (a := 60) (b := 60) pg_chk_174_0 pg_chk_174_q1
set_option maxRecDepth 1000000 in
theorem pg_chk_174_q2 : (((pg_code 174).drop 120).take 49).all (pg_ck1 174) = true := by decide +kernel
theorem pg_chk_174_2 : ((pg_code 174).take 169).all (pg_ck1 174) = true := pg_glue (a := 120) (b := 49) pg_chk_174_1 pg_chk_174_q2
set_option maxRecDepth 1000000 in
theorem pg_chk_174 : pg_chk 174 = true := by
  have h := pg_chk_174_2
  rw [List.take_of_length_le (show (pg_code 174).length ≤ 169 by decide +kernel)] at h
  exact h
set_option maxRecDepth 1000000 in
theorem pg_chk_175 : pg_chk 175 = true := by decide +kernel
set_option maxRecDepth 1000000 in
theorem pg_chk_176 : pg_chk 176 = true := by decide +kernel
set_option maxRecDepth 1000000 in
theorem pg_chk_177 : pg_chk 177 = true := by decide +kernel
set_option maxRecDepth 1000000 in
theorem pg_chk_178 : pg_chk 178 = true := by decide +kernel
set_option maxRecDepth 1000000 in
theorem pg_chk_179 : pg_chk 179 = true := by decide +kernel
set_option maxRecDepth 1000000 in
theorem pg_chk_180 : pg_chk 180 = true := by decide +kernel
set_option maxRecDepth 1000000 in
theorem pg_chk_181 : pg_chk 181 = true := by decide +kernel
set_option maxRecDepth 1000000 in
theorem pg_chk_182 : pg_chk 182 = true := by decide +kernel
set_option maxRecDepth 1000000 in
theorem pg_chk_183 : pg_chk 183 = true := by decide +kernel
set_option maxRecDepth 1000000 in
theorem pg_chk_184 : pg_chk 184 = true := by decide +kernel
set_option maxRecDepth 1000000 in
theorem pg_chk_185 : pg_chk 185 = true := by decide +kernel
set_option maxRecDepth 1000000 in
theorem pg_chk_186 : pg_chk 186 = true := by decide +kernel
set_option maxRecDepth 1000000 in
theorem pg_chk_187_0 : ((pg_code 187).take 60).all (pg_ck1 187) = true := by decide +kernel
set_option maxRecDepth 1000000 in
theorem pg_chk_187_q1 : (((pg_code 187).drop 60).take 51).all (pg_ck1 187) = true := by decide +kernel
theorem pg_chk_187_1 : ((pg_code 187).take 111).all (pg_ck1 187) = true := pg_glue (a := 60) (b := 51) pg_chk_187_0 pg_chk_187_q1
set_option maxRecDepth 1000000 in
theorem pg_chk_187 : pg_chk 187 = true := by
  have h := pg_chk_187_1
  rw [List.take_of_length_le (show (pg_code 187).length ≤ 111 by decide +kernel)] at h
  exact h
set_option maxRecDepth 1000000 in
theorem pg_chk_188 : pg_chk 188 = true := by decide +kernel
set_option maxRecDepth 1000000 in
theorem pg_chk_189 : pg_chk 189 = true := by decide +kernel
set_option maxRecDepth 1000000 in
theorem pg_chk_190 : pg_chk 190 = true := by decide +kernel
set_option maxRecDepth 1000000 in
theorem pg_chk_191 : pg_chk 191 = true := by decide +kernel
