set_option maxRecDepth 20000 in
theorem kC_4 : (List.range' 100 25).all chkC = true := by decide +kernel
