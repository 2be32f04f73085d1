set_option maxRecDepth 100000 in
theorem ok_149 : okM mi_149 = true := by decide +kernel
set_option maxRecDepth 100000 in
theorem ok_150 : okM mi_150 = true := by decide +kernel
set_option maxRecDepth 100000 in
theorem ok_151 : okM mi_151 = true := by decide +kernel
set_option maxRecDepth 100000 in
theorem ok_152 : okM mi_152 = true := by decide +kernel
set_option maxRecDepth 100000 in
theorem ok_153 : okM mi_153 = true := by decide +kernel
set_option maxRecDepth 100000 in
theorem ok_154 : okM mi_154 = true := by decide +kernel
set_option maxRecDepth 100000 in
theorem ok_155 : okM mi_155 = true := by decide +kernel
set_option maxRecDepth 100000 in
theorem ok_156 : okM mi_156 = true := by decide +kernel
set_option maxRecDepth 100000 in
theorem ok_157 : okM mi_157 = true := by decide +kernel
set_option maxRecDepth 100000 in
theorem ok_158 : okM mi_158 = true := by decide +kernel
set_option maxRecDepth 100000 in
theorem ok_159 : okM mi_159 = true := by decide +kernel
set_option maxRecDepth 100000 in
theorem ok_160 : okM mi_160 = true := by decide +kernel
set_option maxRecDepth 100000 in
theorem ok_161 : okM mi_161 = true := by decide +kernel
set_option maxRecDepth 100000 in
theorem ok_162 : okM mi_162 = true := by decide +kernel
set_option maxRecDepth 100000 in
theorem ok_163 : okM mi_163 = true := by decide +kernel
set_option maxRecDepth 100000 in
theorem ok_164 : okM mi_164 = true := by decide +kernel
set_option maxRecDepth 100000 in
theorem ok_165 : okM mi_165 = true := by decide +kernel
set_option maxRecDepth 100000 in
theorem ok_166 : okM mi_166 = true := by decide +kernel
set_option maxRecDepth 100000 in
theorem ok_167 : okM mi_167 = true := by decide +kernel
set_option maxRecDepth 100000 in
theorem ok_168 : okM mi_168 = true := by decide +kernel
set_option maxRecDepth 100000 in
theorem ok_169 : okM mi_169 = true := by decide +kernel
set_option maxRecDepth 100000 in
theorem ok_170 : okM mi_170 = true := by decide +kernel
set_option maxRecDepth 100000 in
theorem ok_171 : okM mi_171 = true := by decide +kernel
set_option maxRecDepth 100000 in
theorem ok_172 : okM mi_172 = true := by decide +kernel
set_option maxRecDepth 100000 in
theorem ok_173 : okM mi_173 = true := by decide +kernel
set_option maxRecDepth 100000 in
theorem ok_174 : okM mi_174 = true := by decide +kernel
set_option maxRecDepth 100000 in
theorem ok_175 : okM mi_175 = true := by decide +kernel
set_option maxRecDepth 100000 in
theorem ok_176 : okM mi_176 = true := by decide +kernel
