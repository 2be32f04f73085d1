set_option maxRecDepth 100000 in
theorem okl_5 : okLc mi_230 (some 566) lwc_5 lwp_5 = true := by decide +kernel
