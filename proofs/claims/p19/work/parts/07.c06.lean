set_option maxRecDepth 20000 in
theorem kC_6 : (List.range' 150 25).all chkC = true := by decide +kernel
