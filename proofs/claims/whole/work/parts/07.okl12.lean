set_option maxRecDepth 100000 in
theorem okl_12 : okLc mi_230 (some 1036) lwc_12 lwp_12 = true := by decide +kernel
