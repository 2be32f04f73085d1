set_option maxRecDepth 100000 in
theorem ok_0 : okM mi_0 = true := by decide +kernel
set_option maxRecDepth 100000 in
theorem ok_1 : okM mi_1 = true := by decide +kernel
set_option maxRecDepth 100000 in
theorem ok_2 : okM mi_2 = true := by decide +kernel
set_option maxRecDepth 100000 in
theorem ok_3 : okM mi_3 = true := by decide +kernel
set_option maxRecDepth 100000 in
theorem ok_4 : okM mi_4 = true := by decide +kernel
set_option maxRecDepth 100000 in
theorem ok_5 : okM mi_5 = true := by decide +kernel
set_option maxRecDepth 100000 in
theorem ok_6 : okM mi_6 = true := by decide +kernel
set_option maxRecDepth 100000 in
theorem ok_7 : okM mi_7 = true := by decide +kernel
set_option maxRecDepth 100000 in
theorem ok_8 : okM mi_8 = true := by decide +kernel
set_option maxRecDepth 100000 in
theorem ok_9 : okM mi_9 = true := by decide +kernel
set_option maxRecDepth 100000 in
theorem ok_10 : okM mi_10 = true := by decide +kernel
set_option maxRecDepth 100000 in
theorem ok_11 : okM mi_11 = true := by decide +kernel
set_option maxRecDepth 100000 in
theorem ok_12 : okM mi_12 = true := by decide +kernel
set_option maxRecDepth 100000 in
theorem ok_13 : okM mi_13 = true := by decide +kernel
set_option maxRecDepth 100000 in
theorem ok_14 : okM mi_14 = true := by decide +kernel
set_option maxRecDepth 100000 in
theorem ok_15 : okM mi_15 = true := by decide +kernel
set_option maxRecDepth 100000 in
theorem ok_16 : okM mi_16 = true := by decide +kernel
set_option maxRecDepth 100000 in
theorem ok_17 : okM mi_17 = true := by decide +kernel
set_option maxRecDepth 100000 in
theorem ok_18 : okM mi_18 = true := by decide +kernel
set_option maxRecDepth 100000 in
theorem ok_19 : okM mi_19 = true := by decide +kernel
set_option maxRecDepth 100000 in
theorem ok_20 : okM mi_20 = true := by decide +kernel
set_option maxRecDepth 100000 in
theorem ok_21 : okM mi_21 = true := by decide +kernel
set_option maxRecDepth 100000 in
theorem ok_22 : okM mi_22 = true := by decide +kernel
set_option maxRecDepth 100000 in
theorem ok_23 : okM mi_23 = true := by decide +kernel
set_option maxRecDepth 100000 in
theorem ok_24 : okM mi_24 = true := by decide +kernel
set_option maxRecDepth 100000 in
theorem ok_25 : okM mi_25 = true := by decide +kernel
set_option maxRecDepth 100000 in
theorem ok_26 : okM mi_26 = true := by decide +kernel
set_option maxRecDepth 100000 in
theorem ok_27 : okM mi_27 = true := by decide +kernel
set_option maxRecDepth 100000 in
theorem ok_28 : okM mi_28 = true := by decide +kernel
set_option maxRecDepth 100000 in
theorem ok_29 : okM mi_29 = true := by decide +kernel
set_option maxRecDepth 100000 in
theorem ok_30 : okM mi_30 = true := by decide +kernel
set_option maxRecDepth 100000 in
theorem ok_31 : okM mi_31 = true := by decide +kernel
set_option maxRecDepth 100000 in
theorem ok_32 : okM mi_32 = true := by decide +kernel
set_option maxRecDepth 100000 in
theorem ok_33 : okM mi_33 = true := by decide +kernel
set_option maxRecDepth 100000 in
theorem ok_34 : okM mi_34 = true := by decide +kernel
set_option maxRecDepth 100000 in
theorem ok_35 : okM mi_35 = true := by decide +kernel
