set_option maxRecDepth 100000 in
theorem ok_36 : okM mi_36 = true := by decide +kernel
set_option maxRecDepth 100000 in
theorem ok_37 : okM mi_37 = true := by decide +kernel
set_option maxRecDepth 100000 in
theorem ok_38 : okM mi_38 = true := by decide +kernel
set_option maxRecDepth 100000 in
theorem ok_39 : okM mi_39 = true := by decide +kernel
set_option maxRecDepth 100000 in
theorem ok_40 : okM mi_40 = true := by decide +kernel
set_option maxRecDepth 100000 in
theorem ok_41 : okM mi_41 = true := by decide +kernel
set_option maxRecDepth 100000 in
theorem ok_42 : okM mi_42 = true := by decide +kernel
set_option maxRecDepth 100000 in
theorem ok_43 : okM mi_43 = true := by decide +kernel
set_option maxRecDepth 100000 in
theorem ok_44 : okM mi_44 = true := by decide +kernel
set_option maxRecDepth 100000 in
theorem ok_45 : okM mi_45 = true := by decide +kernel
set_option maxRecDepth 100000 in
theorem ok_46 : okM mi_46 = true := by decide +kernel
set_option maxRecDepth 100000 in
theorem ok_47 : okM mi_47 = true := by decide +kernel
set_option maxRecDepth 100000 in
theorem ok_48 : okM mi_48 = true := by decide +kernel
set_option maxRecDepth 100000 in
theorem ok_49 : okM mi_49 = true := by decide +kernel
set_option maxRecDepth 100000 in
theorem ok_50 : okM mi_50 = true := by decide +kernel
set_option maxRecDepth 100000 in
theorem ok_51 : okM mi_51 = true := by decide +kernel
set_option maxRecDepth 100000 in
theorem ok_52 : okM mi_52 = true := by decide +kernel
set_option maxRecDepth 100000 in
theorem ok_53 : okM mi_53 = true := by decide +kernel
set_option maxRecDepth 100000 in
theorem ok_54 : okM mi_54 = true := by decide +kernel
set_option maxRecDepth 100000 in
theorem ok_55 : okM mi_55 = true := by decide +kernel
set_option maxRecDepth 100000 in
theorem ok_56 : okM mi_56 = true := by decide +kernel
set_option maxRecDepth 100000 in
theorem ok_57 : okM mi_57 = true := by decide +kernel
set_option maxRecDepth 100000 in
theorem ok_58 : okM mi_58 = true := by decide +kernel
set_option maxRecDepth 100000 in
theorem ok_59 : okM mi_59 = true := by decide +kernel
set_option maxRecDepth 100000 in
theorem ok_60 : okM mi_60 = true := by decide +kernel
set_option maxRecDepth 100000 in
theorem ok_61 : okM mi_61 = true := by decide +kernel
