set_option maxRecDepth 20000 in
theorem kD_3 : (List.range' 120 40).all chkD = true := by decide +kernel
