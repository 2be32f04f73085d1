set_option maxRecDepth 100000 in
theorem okl_3 : okLc mi_230 (some 438) lwc_3 lwp_3 = true := by decide +kernel
