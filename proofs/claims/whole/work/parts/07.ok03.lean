set_option maxRecDepth 100000 in
theorem ok_88 : okM mi_88 = true := by decide +kernel
set_option maxRecDepth 100000 in
theorem ok_89 : okM mi_89 = true := by decide +kernel
set_option maxRecDepth 100000 in
theorem ok_90 : okM mi_90 = true := by decide +kernel
set_option maxRecDepth 100000 in
theorem ok_91 : okM mi_91 = true := by decide +kernel
set_option maxRecDepth 100000 in
theorem ok_92 : okM mi_92 = true := by decide +kernel
set_option maxRecDepth 100000 in
theorem ok_93 : okM mi_93 = true := by decide +kernel
set_option maxRecDepth 100000 in
theorem ok_94 : okM mi_94 = true := by decide +kernel
set_option maxRecDepth 100000 in
theorem ok_95 : okM mi_95 = true := by decide +kernel
set_option maxRecDepth 100000 in
theorem ok_96 : okM mi_96 = true := by decide +kernel
set_option maxRecDepth 100000 in
theorem ok_97 : okM mi_97 = true := by decide +kernel
set_option maxRecDepth 100000 in
theorem ok_98 : okM mi_98 = true := by decide +kernel
set_option maxRecDepth 100000 in
theorem ok_99 : okM mi_99 = true := by decide +kernel
set_option maxRecDepth 100000 in
theorem ok_100 : okM mi_100 = true := by decide +kernel
set_option maxRecDepth 100000 in
theorem ok_101 : okM mi_101 = true := by decide +kernel
set_option maxRecDepth 100000 in
theorem ok_102 : okM mi_102 = true := by decide +kernel
set_option maxRecDepth 100000 in
theorem ok_103 : okM mi_103 = true := by decide +kernel
set_option maxRecDepth 100000 in
theorem ok_104 : okM mi_104 = true := by decide +kernel
set_option maxRecDepth 100000 in
theorem ok_105 : okM mi_105 = true := by decide +kernel
set_option maxRecDepth 100000 in
theorem ok_106 : okM mi_106 = true := by decide +kernel
set_option maxRecDepth 100000 in
theorem ok_107 : okM mi_107 = true := by decide +kernel
set_option maxRecDepth 100000 in
theorem ok_108 : okM mi_108 = true := by decide +kernel
set_option maxRecDepth 100000 in
theorem ok_109 : okM mi_109 = true := by decide +kernel
set_option maxRecDepth 100000 in
theorem ok_110 : okM mi_110 = true := by decide +kernel
set_option maxRecDepth 100000 in
theorem ok_111 : okM mi_111 = true := by decide +kernel
set_option maxRecDepth 100000 in
theorem ok_112 : okM mi_112 = true := by decide +kernel
set_option maxRecDepth 100000 in
theorem ok_113 : okM mi_113 = true := by decide +kernel
set_option maxRecDepth 100000 in
theorem ok_114 : okM mi_114 = true := by decide +kernel
set_option maxRecDepth 100000 in
theorem ok_115 : okM mi_115 = true := by decide +kernel
set_option maxRecDepth 100000 in
theorem ok_116 : okM mi_116 = true := by decide +kernel
set_option maxRecDepth 100000 in
theorem ok_117 : okM mi_117 = true := by decide +kernel
set_option maxRecDepth 100000 in
theorem ok_118 : okM mi_118 = true := by decide +kernel
set_option maxRecDepth 100000 in
theorem ok_119 : okM mi_119 = true := by decide +kernel
set_option maxRecDepth 100000 in
theorem ok_120 : okM mi_120 = true := by decide +kernel
set_option maxRecDepth 100000 in
theorem ok_121 : okM mi_121 = true := by decide +kernel
set_option maxRecDepth 100000 in
theorem ok_122 : okM mi_122 = true := by decide +kernel
set_option maxRecDepth 100000 in
theorem ok_123 : okM mi_123 = true := by decide +kernel
