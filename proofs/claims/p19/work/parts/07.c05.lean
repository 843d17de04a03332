set_option maxRecDepth 20000 in
theorem kC_5 : (List.range' 125 25).all chkC = true := by decide +kernel
