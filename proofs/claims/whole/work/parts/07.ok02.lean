set_option maxRecDepth 100000 in
theorem ok_62 : okM mi_62 = true := by decide +kernel
set_option maxRecDepth 100000 in
theorem ok_63 : okM mi_63 = true := by decide +kernel
set_option maxRecDepth 100000 in
theorem ok_64 : okM mi_64 = true := by decide +kernel
set_option maxRecDepth 100000 in
theorem ok_65 : okM mi_65 = true := by decide +kernel
set_option maxRecDepth 100000 in
theorem ok_66 : okM mi_66 = true := by decide +kernel
set_option maxRecDepth 100000 in
theorem ok_67 : okM mi_67 = true := by decide +kernel
set_option maxRecDepth 100000 in
theorem ok_68 : okM mi_68 = true := by decide +kernel
set_option maxRecDepth 100000 in
theorem ok_69 : okM mi_69 = true := by decide +kernel
set_option maxRecDepth 100000 in
theorem ok_70 : okM mi_70 = true := by decide +kernel
set_option maxRecDepth 100000 in
theorem ok_71 : okM mi_71 = true := by decide +kernel
set_option maxRecDepth 100000 in
theorem ok_72 : okM mi_72 = true := by decide +kernel
set_option maxRecDepth 100000 in
theorem ok_73 : okM mi_73 = true := by decide +kernel
set_option maxRecDepth 100000 in
theorem ok_74 : okM mi_74 = true := by decide +kernel
set_option maxRecDepth 100000 in
theorem ok_75 : okM mi_75 = true := by decide +kernel
set_option maxRecDepth 100000 in
theorem ok_76 : okM mi_76 = true := by decide +kernel
set_option maxRecDepth 100000 in
theorem ok_77 : okM mi_77 = true := by decide +kernel
set_option maxRecDepth 100000 in
theorem ok_78 : okM mi_78 = true := by decide +kernel
set_option maxRecDepth 100000 in
theorem ok_79 : okM mi_79 = true := by decide +kernel
set_option maxRecDepth 100000 in
theorem ok_80 : okM mi_80 = true := by decide +kernel
set_option maxRecDepth 100000 in
theorem ok_81 : okM mi_81 = true := by decide +kernel
set_option maxRecDepth 100000 in
theorem ok_82 : okM mi_82 = true := by decide +kernel
set_option maxRecDepth 100000 in
theorem ok_83 : okM mi_83 = true := by decide +kernel
set_option maxRecDepth 100000 in
theorem ok_84 : okM mi_84 = true := by decide +kernel
set_option maxRecDepth 100000 in
theorem ok_85 : okM mi_85 = true := by decide +kernel
set_option maxRecDepth 100000 in
theorem ok_86 : okM mi_86 = true := by decide +kernel
set_option maxRecDepth 100000 in
theorem ok_87 : okM mi_87 = true := by decide +kernel
