set_option maxRecDepth 20000 in
theorem kD_1 : (List.range' 40 40).all chkD = true := by decide +kernel
