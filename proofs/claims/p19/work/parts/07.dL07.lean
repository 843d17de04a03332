set_option maxRecDepth 20000 in
theorem kL_7 : chkDs 194 420 60 = true := by decide +kernel
