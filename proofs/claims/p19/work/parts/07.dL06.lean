set_option maxRecDepth 20000 in
theorem kL_6 : chkDs 194 360 60 = true := by decide +kernel
