/-! Codes are what the tables say. -/
set_option maxRecDepth 1000000 in
theorem pg_chk_106 : pg_chk 106 = true := by decide +kernel
set_option maxRecDepth 1000000 in
theorem pg_chk_107 : pg_chk 107 = true := by decide +kernel
set_option maxRecDepth 1000000 in
theorem pg_chk_108 : pg_chk 108 = true := by decide +kernel
set_option maxRecDepth 1000000 in
theorem pg_chk_109 : pg_chk 109 = true := by decide +kernel
set_option maxRecDepth 1000000 in
theorem pg_chk_110 : pg_chk 110 = true := by decide +kernel
set_option maxRecDepth 1000000 in
theorem pg_chk_111 : pg_chk 111 = true := by decide +kernel
set_option maxRecDepth 1000000 in
theorem pg_chk_112 : pg_chk 112 = true := by decide +kernel
set_option maxRecDepth 1000000 in
theorem pg_chk_113 : pg_chk 113 = true := by decide +kernel
set_option maxRecDepth 1000000 in
theorem pg_chk_114 : pg_chk 114 = true := by decide +kernel
set_option maxRecDepth 1000000 in
theorem pg_chk_115 : pg_chk 115 = true := by decide +kernel
set_option maxRecDepth 1000000 in
theorem pg_chk_116 : pg_chk 116 = true := by decide +kernel
set_option maxRecDepth 1000000 in
theorem pg_chk_117 : pg_chk 117 = true := by decide +kernel
set_option maxRecDepth 1000000 in
theorem pg_chk_118 : pg_chk 118 = true := by decide +kernel
set_option maxRecDepth 1000000 in
theorem pg_chk_119 : pg_chk 119 = true := by decide +kernel
set_option maxRecDepth 1000000 in
theorem pg_chk_120 : pg_chk 120 = true := by decide +kernel
set_option maxRecDepth 1000000 in
theorem pg_chk_121 : pg_chk 121 = true := by decide +kernel
set_option maxRecDepth 1000000 in
theorem pg_chk_122 : pg_chk 122 = true := by decide +kernel
set_option maxRecDepth 1000000 in
theorem pg_chk_123 : pg_chk 123 = true := by decide +kernel
set_option maxRecDepth 1000000 in
theorem pg_chk_124 : pg_chk 124 = true := by decide +kernel
set_option maxRecDepth 1000000 in
theorem pg_chk_125 : pg_chk 125 = true := by decide +kernel
set_option maxRecDepth 1000000 in
theorem pg_chk_126 : pg_chk 126 = true := by decide +kernel
set_option maxRecDepth 1000000 in
theorem pg_chk_127 : pg_chk 127 = true := by decide +kernel
set_option maxRecDepth 1000000 in
theorem pg_chk_128 : pg_chk 128 = true := by decide +kernel
set_option maxRecDepth 1000000 in
theorem pg_chk_129 : pg_chk 129 = true := by decide +kernel
set_option maxRecDepth 1000000 in
theorem pg_chk_130 : pg_chk 130 = true := by decide +kernel
set_option maxRecDepth 1000000 in
theorem pg_chk_131 : pg_chk 131 = true := by decide +kernel
set_option maxRecDepth 1000000 in
theorem pg_chk_132 : pg_chk 132 = true := by decide +kernel
set_option maxRecDepth 1000000 in
theorem pg_chk_133 : pg_chk 133 = true := by decide +kernel
set_option maxRecDepth 1000000 in
theorem pg_chk_134 : pg_chk 134 = true := by decide +kernel
set_option maxRecDepth 1000000 in
theorem pg_chk_135 : pg_chk 135 = true := by decide +kernel
set_option maxRecDepth 1000000 in
theorem pg_chk_136 : pg_chk 136 = true := by decide +kernel
set_option maxRecDepth 1000000 in
theorem pg_chk_137 : pg_chk 137 = true := by decide +kernel
set_option maxRecDepth 1000000 in
theorem pg_chk_138 : pg_chk 138 = true := by decide +kernel
set_option maxRecDepth 1000000 in
theorem pg_chk_139 : pg_chk 139 = true := by decide +kernel
set_option maxRecDepth 1000000 in
theorem pg_chk_140 : pg_chk 140 = true := by decide +kernel
set_option maxRecDepth 1000000 in
theorem pg_chk_141 : pg_chk 141 = true := by decide +kernel
set_option maxRecDepth 1000000 in
theorem pg_chk_142 : pg_chk 142 = true := by decide +kernel
set_option maxRecDepth 1000000 in
theorem pg_chk_143 : pg_chk 143 = true := by decide +kernel
set_option maxRecDepth 1000000 in
theorem pg_chk_144 : pg_chk 144 = true := by decide +kernel
set_option maxRecDepth 1000000 in
theorem pg_chk_145 : pg_chk 145 = true := by decide +kernel
set_option maxRecDepth 1000000 in
theorem pg_chk_146 : pg_chk 146 = true := by decide +kernel
