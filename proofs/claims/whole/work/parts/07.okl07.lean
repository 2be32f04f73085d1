set_option maxRecDepth 100000 in
theorem okl_7 : okLc mi_230 (some 690) lwc_7 lwp_7 = true := by decide +kernel
