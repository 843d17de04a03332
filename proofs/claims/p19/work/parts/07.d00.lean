set_option maxRecDepth 20000 in
theorem kD_0 : (List.range' 0 40).all chkD = true := by decide +kernel
