set_option maxRecDepth 20000 in
theorem kL_5 : chkDs 194 300 60 = true := by decide +kernel
