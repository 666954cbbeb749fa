/-! Codes are what the tables say. -/
set_option maxRecDepth 1000000 in
theorem pg_chk_27 : pg_chk 27 = true := by decide +kernel
set_option maxRecDepth 1000000 in
theorem pg_chk_28 : pg_chk 28 = true := by decide +kernel
set_option maxRecDepth 1000000 in
theorem pg_chk_29 : pg_chk 29 = true := by decide +kernel
set_option maxRecDepth 1000000 in
theorem pg_chk_30 : pg_chk 30 = true := by decide +kernel
set_option maxRecDepth 1000000 in
theorem pg_chk_31 : pg_chk 31 = true := by decide +kernel
set_option maxRecDepth 1000000 in
theorem pg_chk_32 : pg_chk 32 = true := by decide +kernel
set_option maxRecDepth 1000000 in
theorem pg_chk_33 : pg_chk 33 = true := by decide +kernel
set_option maxRecDepth 1000000 in
theorem pg_chk_34 : pg_chk 34 = true := by decide +kernel
set_option maxRecDepth 1000000 in
theorem pg_chk_35 : pg_chk 35 = true := by decide +kernel
set_option maxRecDepth 1000000 in
theorem pg_chk_36 : pg_chk 36 = true := by decide +kernel
set_option maxRecDepth 1000000 in
theorem pg_chk_37 : pg_chk 37 = true := by decide +kernel
set_option maxRecDepth 1000000 in
theorem pg_chk_38 : pg_chk 38 = true := by decide +kernel
set_option maxRecDepth 1000000 in
theorem pg_chk_39 : pg_chk 39 = true := by decide +kernel
set_option maxRecDepth 1000000 in
theorem pg_chk_40 : pg_chk 40 = true := by decide +kernel
set_option maxRecDepth 1000000 in
theorem pg_chk_41 : pg_chk 41 = true := by decide +kernel
set_option maxRecDepth 1000000 in
theorem pg_chk_42 : pg_chk 42 = true := by decide +kernel
set_option maxRecDepth 1000000 in
theorem pg_chk_43 : pg_chk 43 = true := by decide +kernel
set_option maxRecDepth 1000000 in
theorem pg_chk_44 : pg_chk 44 = true := by decide +kernel
set_option maxRecDepth 1000000 in
theorem pg_chk_45 : pg_chk 45 = true := by decide +kernel
set_option maxRecDepth 1000000 in
theorem pg_chk_46 : pg_chk 46 = true := by decide +kernel
set_option maxRecDepth 1000000 in
theorem pg_chk_47 : pg_chk 47 = true := by decide +kernel
set_option maxRecDepth 1000000 in
theorem pg_chk_48 : pg_chk 48 = true := by decide +kernel
set_option maxRecDepth 1000000 in
theorem pg_chk_49 : pg_chk 49 = true := by decide +kernel
set_option maxRecDepth 1000000 in
theorem pg_chk_50 : pg_chk 50 = true := by decide +kernel
set_option maxRecDepth 1000000 in
theorem pg_chk_51 : pg_chk 51 = true := by decide +kernel
set_option maxRecDepth 1000000 in
theorem pg_chk_52 : pg_chk 52 = true := by decide +kernel
set_option maxRecDepth 1000000 in
theorem pg_chk_53 : pg_chk 53 = true := by decide +kernel
set_option maxRecDepth 1000000 in
theorem pg_chk_54 : pg_chk 54 = true := by decide +kernel
set_option maxRecDepth 1000000 in
theorem pg_chk_55 : pg_chk 55 = true := by decide +kernel
set_option maxRecDepth 1000000 in
theorem pg_chk_56 : pg_chk 56 = true := by decide +kernel
set_option maxRecDepth 1000000 in
theorem pg_chk_57 : pg_chk 57 = true := by decide +kernel
set_option maxRecDepth 1000000 in
theorem pg_chk_58 : pg_chk 58 = true := by decide +kernel
set_option maxRecDepth 1000000 in
theorem pg_chk_59 : pg_chk 59 = true := by decide +kernel
set_option maxRecDepth 1000000 in
theorem pg_chk_60 : pg_chk 60 = true := by decide +kernel
set_option maxRecDepth 1000000 in
theorem pg_chk_61 : pg_chk 61 = true := by decide +kernel
set_option maxRecDepth 1000000 in
theorem pg_chk_62 : pg_chk 62 = true := by decide +kernel
set_option maxRecDepth 1000000 in
theorem pg_chk_63 : pg_chk 63 = true := by decide +kernel
set_option maxRecDepth 1000000 in
theorem pg_chk_64 : pg_chk 64 = true := by decide +kernel
set_option maxRecDepth 1000000 in
theorem pg_chk_65 : pg_chk 65 = true := by decide +kernel
set_option maxRecDepth 1000000 in
theorem pg_chk_66 : pg_chk 66 = true := by decide +kernel
set_option maxRecDepth 1000000 in
theorem pg_chk_67 : pg_chk 67 = true := by decide +kernel
set_option maxRecDepth 1000000 in
theorem pg_chk_68 : pg_chk 68 = true := by decide +kernel
set_option maxRecDepth 1000000 in
theorem pg_chk_69 : pg_chk 69 = true := by decide +kernel
set_option maxRecDepth 1000000 in
theorem pg_chk_70 : pg_chk 70 = true := by decide +kernel
set_option maxRecDepth 1000000 in
theorem pg_chk_71 : pg_chk 71 = true := by decide +kernel
set_option maxRecDepth 1000000 in
theorem pg_chk_72 : pg_chk 72 = true := by decide +kernel
set_option maxRecDepth 1000000 in
theorem pg_chk_73 : pg_chk 73 = true := by decide +kernel
set_option maxRecDepth 1000000 in
theorem pg_chk_74 : pg_chk 74 = true := by decide +kernel
set_option maxRecDepth 1000000 in
theorem pg_chk_75 : pg_chk 75 = true := by decide +kernel
set_option maxRecDepth 1000000 in
theorem pg_chk_76 : pg_chk 76 = true := by decide +kernel
set_option maxRecDepth 1000000 in
theorem pg_chk_77 : pg_chk 77 = true := by decide +kernel
set_option maxRecDepth 1000000 in
theorem pg_chk_78 : pg_chk 78 = true := by decide +kernel
