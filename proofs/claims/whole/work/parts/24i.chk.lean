/-! Codes are what the tables say. -/
set_option maxRecDepth 1000000 in
theorem pg_chk_147 : pg_chk 147 = true := by decide +kernel
set_option maxRecDepth 1000000 in
theorem pg_chk_148 : pg_chk 148 = true := by decide +kernel
set_option maxRecDepth 1000000 in
theorem pg_chk_149 : pg_chk 149 = true := by decide +kernel
set_option maxRecDepth 1000000 in
theorem pg_chk_150 : pg_chk 150 = true := by decide +kernel
set_option maxRecDepth 1000000 in
theorem pg_chk_151_0 : ((pg_code 151).take 60).all (pg_ck1 151) = true := by decide +kernel
set_option maxRecDepth 1000000 in
theorem pg_chk_151_q1 : (((pg_code 151).drop 60).take 60).all (pg_ck1 151) = true := by decide +kernel
theorem pg_chk_151_1 : ((pg_code 151).take 120).all (pg_ck1 151) = true := pg_glue (a := 60) (b := 60) pg_chk_151_0 pg_chk_151_q1
set_option maxRecDepth 1000000 in
theorem pg_chk_151_q2 : (((pg_code 151).drop 120).take 60).all (pg_ck1 151) = true := by decide +kernel
theorem pg_chk_151_2 : ((pg_code 151).take 180).all (pg_ck1 151) = true := pg_glue (a := 120) (b := 60) pg_chk_151_1 pg_chk_151_q2
set_option maxRecDepth 1000000 in
theorem pg_chk_151_q3 : (((pg_code 151).drop 180).take 35).all (pg_ck1 151) = true := by decide +kernel
theorem pg_chk_151_3 : ((pg_code 151).take 215).all (pg_ck1 151) = true := pg_glue (a := 180) (b := 35) pg_chk_151_2 pg_chk_151_q3
set_option maxRecDepth 1000000 in
theorem pg_chk_151 : pg_chk 151 = true := by
  have h := pg_chk_151_3
  rw [List.take_of_length_le (show (pg_code 151).length ≤ 215 by decide +kernel)] at h
  exact h
set_option maxRecDepth 1000000 in
theorem pg_chk_152 : pg_chk 152 = true := by decide +kernel
set_option maxRecDepth 1000000 in
theorem pg_chk_153 : pg_chk 153 = true := by decide +kernel
set_option maxRecDepth 1000000 in
theorem pg_chk_154 : pg_chk 154 = true := by decide +kernel
set_option maxRecDepth 1000000 in
theorem pg_chk_155 : pg_chk 155 = true := by decide +kernel
set_option maxRecDepth 1000000 in
theorem pg_chk_156 : pg_chk 156 = true := by decide +kernel
set_option maxRecDepth 1000000 in
theorem pg_chk_157 : pg_chk 157 = true := by decide +kernel
set_option maxRecDepth 1000000 in
theorem pg_chk_158 : pg_chk 158 = true := by decide +kernel
set_option maxRecDepth 1000000 in
theorem pg_chk_159 : pg_chk 159 = true := by decide +kernel
set_option maxRecDepth 1000000 in
theorem pg_chk_160 : pg_chk 160 = true := by decide +kernel
set_option maxRecDepth 1000000 in
theorem pg_chk_161 : pg_chk 161 = true := by decide +kernel
