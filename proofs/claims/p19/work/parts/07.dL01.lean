set_option maxRecDepth 20000 in
theorem kL_1 : chkDs 194 60 60 = true := by decide +kernel
