set_option maxRecDepth 100000 in
theorem okl_16 : okLc mi_230 (some 1304) lwc_16 lwp_16 = true := by decide +kernel
