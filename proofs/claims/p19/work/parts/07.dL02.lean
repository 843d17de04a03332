set_option maxRecDepth 20000 in
theorem kL_2 : chkDs 194 120 60 = true := by decide +kernel
