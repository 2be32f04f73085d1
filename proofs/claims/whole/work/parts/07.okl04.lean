set_option maxRecDepth 100000 in
theorem okl_4 : okLc mi_230 (some 500) lwc_4 lwp_4 = true := by decide +kernel
