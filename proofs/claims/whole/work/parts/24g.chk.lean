/-! Codes are what the tables say. -/
set_option maxRecDepth 1000000 in
theorem pg_chk_79 : pg_chk 79 = true := by decide +kernel
set_option maxRecDepth 1000000 in
theorem pg_chk_80 : pg_chk 80 = true := by decide +kernel
set_option maxRecDepth 1000000 in
theorem pg_chk_81 : pg_chk 81 = true := by decide +kernel
set_option maxRecDepth 1000000 in
theorem pg_chk_82 : pg_chk 82 = true := by decide +kernel
set_option maxRecDepth 1000000 in
theorem pg_chk_83 : pg_chk 83 = true := by decide +kernel
set_option maxRecDepth 1000000 in
theorem pg_chk_84 : pg_chk 84 = true := by decide +kernel
set_option maxRecDepth 1000000 in
theorem pg_chk_85 : pg_chk 85 = true := by decide +kernel
set_option maxRecDepth 1000000 in
theorem pg_chk_86 : pg_chk 86 = true := by decide +kernel
set_option maxRecDepth 1000000 in
theorem pg_chk_87 : pg_chk 87 = true := by decide +kernel
set_option maxRecDepth 1000000 in
theorem pg_chk_88 : pg_chk 88 = true := by decide +kernel
set_option maxRecDepth 1000000 in
theorem pg_chk_89 : pg_chk 89 = true := by decide +kernel
set_option maxRecDepth 1000000 in
theorem pg_chk_90 : pg_chk 90 = true := by decide +kernel
set_option maxRecDepth 1000000 in
theorem pg_chk_91 : pg_chk 91 = true := by decide +kernel
set_option maxRecDepth 1000000 in
theorem pg_chk_92 : pg_chk 92 = true := by decide +kernel
set_option maxRecDepth 1000000 in
theorem pg_chk_93 : pg_chk 93 = true := by decide +kernel
set_option maxRecDepth 1000000 in
theorem pg_chk_94 : pg_chk 94 = true := by decide +kernel
set_option maxRecDepth 1000000 in
theorem pg_chk_95 : pg_chk 95 = true := by decide +kernel
set_option maxRecDepth 1000000 in
theorem pg_chk_96 : pg_chk 96 = true := by decide +kernel
set_option maxRecDepth 1000000 in
theorem pg_chk_97 : pg_chk 97 = true := by decide +kernel
set_option maxRecDepth 1000000 in
theorem pg_chk_98 : pg_chk 98 = true := by decide +kernel
set_option maxRecDepth 1000000 in
theorem pg_chk_99 : pg_chk 99 = true := by decide +kernel
set_option maxRecDepth 1000000 in
theorem pg_chk_100_0 : ((pg_code 100).take 60).all (pg_ck1 100) = true := by decide +kernel
set_option maxRecDepth 1000000 in
theorem pg_chk_100_q1 : (((pg_code 100).drop 60).take 51).all (pg_ck1 100) = true := by decide +kernel
theorem pg_chk_100_1 : ((pg_code 100).take 111).all (pg_ck1 100) = true := pg_glue (a := 60) (b := 51) pg_chk_100_0 pg_chk_100_q1
set_option maxRecDepth 1000000 in
theorem pg_chk_100 : pg_chk 100 = true := by
  have h := pg_chk_100_1
  rw [List.take_of_length_le (show (pg_code 100).length ≤ 111 by decide +kernel)] at h
  exact h
set_option maxRecDepth 1000000 in
theorem pg_chk_101 : pg_chk 101 = true := by decide +kernel
set_option maxRecDepth 1000000 in
theorem pg_chk_102 : pg_chk 102 = true := by decide +kernel
set_option maxRecDepth 1000000 in
theorem pg_chk_103 : pg_chk 103 = true := by decide +kernel
set_option maxRecDepth 1000000 in
theorem pg_chk_104 : pg_chk 104 = true := by decide +kernel
set_option maxRecDepth 1000000 in
theorem pg_chk_105 : pg_chk 105 = true := by decide +kernel
