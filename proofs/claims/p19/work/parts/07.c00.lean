set_option maxRecDepth 20000 in
theorem kC_0 : (List.range' 0 25).all chkC = true := by decide +kernel
