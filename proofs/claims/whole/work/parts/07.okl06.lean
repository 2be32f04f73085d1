set_option maxRecDepth 100000 in
theorem okl_6 : okLc mi_230 (some 624) lwc_6 lwp_6 = true := by decide +kernel
