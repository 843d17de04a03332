set_option maxRecDepth 20000 in
theorem kL_8 : chkDs 194 480 60 = true := by decide +kernel
