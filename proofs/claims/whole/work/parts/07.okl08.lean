set_option maxRecDepth 100000 in
theorem okl_8 : okLc mi_230 (some 758) lwc_8 lwp_8 = true := by decide +kernel
