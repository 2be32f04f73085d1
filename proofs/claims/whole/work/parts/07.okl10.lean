set_option maxRecDepth 100000 in
theorem okl_10 : okLc mi_230 (some 892) lwc_10 lwp_10 = true := by decide +kernel
