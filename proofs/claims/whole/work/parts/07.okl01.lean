set_option maxRecDepth 100000 in
theorem okl_1 : okLc mi_230 (some 320) lwc_1 lwp_1 = true := by decide +kernel
