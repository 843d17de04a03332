set_option maxRecDepth 20000 in
theorem kD_2 : (List.range' 80 40).all chkD = true := by decide +kernel
