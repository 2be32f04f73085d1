set_option maxRecDepth 100000 in
theorem okl_15 : okLc mi_230 (some 1228) lwc_15 lwp_15 = true := by decide +kernel
