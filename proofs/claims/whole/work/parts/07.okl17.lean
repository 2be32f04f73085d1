set_option maxRecDepth 100000 in
theorem okl_17 : okLc mi_230 (none) lwc_17 lwp_17 = true := by decide +kernel
