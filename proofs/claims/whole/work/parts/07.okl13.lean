set_option maxRecDepth 100000 in
theorem okl_13 : okLc mi_230 (some 1104) lwc_13 lwp_13 = true := by decide +kernel
