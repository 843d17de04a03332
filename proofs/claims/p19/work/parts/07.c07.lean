set_option maxRecDepth 20000 in
theorem kC_7 : (List.range' 175 20).all chkC = true := by decide +kernel
