set_option maxRecDepth 20000 in
theorem kC_3 : (List.range' 75 25).all chkC = true := by decide +kernel
