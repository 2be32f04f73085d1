set_option maxRecDepth 100000 in
theorem okl_9 : okLc mi_230 (some 826) lwc_9 lwp_9 = true := by decide +kernel
