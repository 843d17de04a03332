set_option maxRecDepth 20000 in
theorem kL_10 : chkDs 194 600 60 = true := by decide +kernel
