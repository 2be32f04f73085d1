set_option maxRecDepth 100000 in
theorem ok_216 : okM mi_216 = true := by decide +kernel
set_option maxRecDepth 100000 in
theorem ok_217 : okM mi_217 = true := by decide +kernel
set_option maxRecDepth 100000 in
theorem ok_218 : okM mi_218 = true := by decide +kernel
set_option maxRecDepth 100000 in
theorem ok_219 : okM mi_219 = true := by decide +kernel
set_option maxRecDepth 100000 in
theorem ok_220 : okM mi_220 = true := by decide +kernel
set_option maxRecDepth 100000 in
theorem ok_221 : okM mi_221 = true := by decide +kernel
set_option maxRecDepth 100000 in
theorem ok_222 : okM mi_222 = true := by decide +kernel
set_option maxRecDepth 100000 in
theorem ok_223 : okM mi_223 = true := by decide +kernel
set_option maxRecDepth 100000 in
theorem ok_224 : okM mi_224 = true := by decide +kernel
set_option maxRecDepth 100000 in
theorem ok_225 : okM mi_225 = true := by decide +kernel
set_option maxRecDepth 100000 in
theorem ok_226 : okM mi_226 = true := by decide +kernel
set_option maxRecDepth 100000 in
theorem ok_227 : okM mi_227 = true := by decide +kernel
set_option maxRecDepth 100000 in
theorem ok_228 : okM mi_228 = true := by decide +kernel
set_option maxRecDepth 100000 in
theorem ok_229 : okM mi_229 = true := by decide +kernel
