set_option maxRecDepth 20000 in
theorem kL_4 : chkDs 194 240 60 = true := by decide +kernel
