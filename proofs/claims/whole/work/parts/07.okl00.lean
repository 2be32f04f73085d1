set_option maxRecDepth 100000 in
theorem okl_0 : okLc mi_230 (some 262) lwc_0 lwp_0 = true := by decide +kernel
