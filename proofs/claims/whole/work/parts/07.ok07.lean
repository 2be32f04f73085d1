set_option maxRecDepth 100000 in
theorem ok_198 : okM mi_198 = true := by decide +kernel
set_option maxRecDepth 100000 in
theorem ok_199 : okM mi_199 = true := by decide +kernel
set_option maxRecDepth 100000 in
theorem ok_200 : okM mi_200 = true := by decide +kernel
set_option maxRecDepth 100000 in
theorem ok_201 : okM mi_201 = true := by decide +kernel
set_option maxRecDepth 100000 in
theorem ok_202 : okM mi_202 = true := by decide +kernel
set_option maxRecDepth 100000 in
theorem ok_203 : okM mi_203 = true := by decide +kernel
set_option maxRecDepth 100000 in
theorem ok_204 : okM mi_204 = true := by decide +kernel
set_option maxRecDepth 100000 in
theorem ok_205 : okM mi_205 = true := by decide +kernel
set_option maxRecDepth 100000 in
theorem ok_206 : okM mi_206 = true := by decide +kernel
set_option maxRecDepth 100000 in
theorem ok_207 : okM mi_207 = true := by decide +kernel
set_option maxRecDepth 100000 in
theorem ok_208 : okM mi_208 = true := by decide +kernel
set_option maxRecDepth 100000 in
theorem ok_209 : okM mi_209 = true := by decide +kernel
set_option maxRecDepth 100000 in
theorem ok_210 : okM mi_210 = true := by decide +kernel
set_option maxRecDepth 100000 in
theorem ok_211 : okM mi_211 = true := by decide +kernel
set_option maxRecDepth 100000 in
theorem ok_212 : okM mi_212 = true := by decide +kernel
set_option maxRecDepth 100000 in
theorem ok_213 : okM mi_213 = true := by decide +kernel
set_option maxRecDepth 100000 in
theorem ok_214 : okM mi_214 = true := by decide +kernel
set_option maxRecDepth 100000 in
theorem ok_215 : okM mi_215 = true := by decide +kernel
