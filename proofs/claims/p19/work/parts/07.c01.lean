set_option maxRecDepth 20000 in
theorem kC_1 : (List.range' 25 25).all chkC = true := by decide +kernel
