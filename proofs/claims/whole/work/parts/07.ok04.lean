set_option maxRecDepth 100000 in
theorem ok_124 : okM mi_124 = true := by decide +kernel
set_option maxRecDepth 100000 in
theorem ok_125 : okM mi_125 = true := by decide +kernel
set_option maxRecDepth 100000 in
theorem ok_126 : okM mi_126 = true := by decide +kernel
set_option maxRecDepth 100000 in
theorem ok_127 : okM mi_127 = true := by decide +kernel
set_option maxRecDepth 100000 in
theorem ok_128 : okM mi_128 = true := by decide +kernel
set_option maxRecDepth 100000 in
theorem ok_129 : okM mi_129 = true := by decide +kernel
set_option maxRecDepth 100000 in
theorem ok_130 : okM mi_130 = true := by decide +kernel
set_option maxRecDepth 100000 in
theorem ok_131 : okM mi_131 = true := by decide +kernel
set_option maxRecDepth 100000 in
theorem ok_132 : okM mi_132 = true := by decide +kernel
set_option maxRecDepth 100000 in
theorem ok_133 : okM mi_133 = true := by decide +kernel
set_option maxRecDepth 100000 in
theorem ok_134 : okM mi_134 = true := by decide +kernel
set_option maxRecDepth 100000 in
theorem ok_135 : okM mi_135 = true := by decide +kernel
set_option maxRecDepth 100000 in
theorem ok_136 : okM mi_136 = true := by decide +kernel
set_option maxRecDepth 100000 in
theorem ok_137 : okM mi_137 = true := by decide +kernel
set_option maxRecDepth 100000 in
theorem ok_138 : okM mi_138 = true := by decide +kernel
set_option maxRecDepth 100000 in
theorem ok_139 : okM mi_139 = true := by decide +kernel
set_option maxRecDepth 100000 in
theorem ok_140 : okM mi_140 = true := by decide +kernel
set_option maxRecDepth 100000 in
theorem ok_141 : okM mi_141 = true := by decide +kernel
set_option maxRecDepth 100000 in
theorem ok_142 : okM mi_142 = true := by decide +kernel
set_option maxRecDepth 100000 in
theorem ok_143 : okM mi_143 = true := by decide +kernel
set_option maxRecDepth 100000 in
theorem ok_144 : okM mi_144 = true := by decide +kernel
set_option maxRecDepth 100000 in
theorem ok_145 : okM mi_145 = true := by decide +kernel
set_option maxRecDepth 100000 in
theorem ok_146 : okM mi_146 = true := by decide +kernel
set_option maxRecDepth 100000 in
theorem ok_147 : okM mi_147 = true := by decide +kernel
set_option maxRecDepth 100000 in
theorem ok_148 : okM mi_148 = true := by decide +kernel
