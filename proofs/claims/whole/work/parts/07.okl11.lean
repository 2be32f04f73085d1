set_option maxRecDepth 100000 in
theorem okl_11 : okLc mi_230 (some 958) lwc_11 lwp_11 = true := by decide +kernel
