set_option maxRecDepth 100000 in
theorem ok_177 : okM mi_177 = true := by decide +kernel
set_option maxRecDepth 100000 in
theorem ok_178 : okM mi_178 = true := by decide +kernel
set_option maxRecDepth 100000 in
theorem ok_179 : okM mi_179 = true := by decide +kernel
set_option maxRecDepth 100000 in
theorem ok_180 : okM mi_180 = true := by decide +kernel
set_option maxRecDepth 100000 in
theorem ok_181 : okM mi_181 = true := by decide +kernel
set_option maxRecDepth 100000 in
theorem ok_182 : okM mi_182 = true := by decide +kernel
set_option maxRecDepth 100000 in
theorem ok_183 : okM mi_183 = true := by decide +kernel
set_option maxRecDepth 100000 in
theorem ok_184 : okM mi_184 = true := by decide +kernel
set_option maxRecDepth 100000 in
theorem ok_185 : okM mi_185 = true := by decide +kernel
set_option maxRecDepth 100000 in
theorem ok_186 : okM mi_186 = true := by decide +kernel
set_option maxRecDepth 100000 in
theorem ok_187 : okM mi_187 = true := by decide +kernel
set_option maxRecDepth 100000 in
theorem ok_188 : okM mi_188 = true := by decide +kernel
set_option maxRecDepth 100000 in
theorem ok_189 : okM mi_189 = true := by decide +kernel
set_option maxRecDepth 100000 in
theorem ok_190 : okM mi_190 = true := by decide +kernel
set_option maxRecDepth 100000 in
theorem ok_191 : okM mi_191 = true := by decide +kernel
set_option maxRecDepth 100000 in
theorem ok_192 : okM mi_192 = true := by decide +kernel
set_option maxRecDepth 100000 in
theorem ok_193 : okM mi_193 = true := by decide +kernel
set_option maxRecDepth 100000 in
theorem ok_194 : okM mi_194 = true := by decide +kernel
set_option maxRecDepth 100000 in
theorem ok_195 : okM mi_195 = true := by decide +kernel
set_option maxRecDepth 100000 in
theorem ok_196 : okM mi_196 = true := by decide +kernel
set_option maxRecDepth 100000 in
theorem ok_197 : okM mi_197 = true := by decide +kernel
