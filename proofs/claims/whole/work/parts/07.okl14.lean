set_option maxRecDepth 100000 in
theorem okl_14 : okLc mi_230 (some 1166) lwc_14 lwp_14 = true := by decide +kernel
