set_option maxRecDepth 20000 in
theorem kC_2 : (List.range' 50 25).all chkC = true := by decide +kernel
