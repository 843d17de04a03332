set_option maxRecDepth 20000 in
theorem kL_9 : chkDs 194 540 60 = true := by decide +kernel
