set_option maxRecDepth 20000 in
theorem kL_11 : chkDs 194 660 60 = true := by decide +kernel
