set_option maxRecDepth 20000 in
theorem kL_3 : chkDs 194 180 60 = true := by decide +kernel
