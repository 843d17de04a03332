set_option maxRecDepth 20000 in
theorem kD_4 : (List.range' 160 34).all chkD = true := by decide +kernel
