set_option maxRecDepth 20000 in
theorem kL_0 : chkDs 194 0 60 = true := by decide +kernel
