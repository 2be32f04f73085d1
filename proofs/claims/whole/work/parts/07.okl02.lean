set_option maxRecDepth 100000 in
theorem okl_2 : okLc mi_230 (some 380) lwc_2 lwp_2 = true := by decide +kernel
