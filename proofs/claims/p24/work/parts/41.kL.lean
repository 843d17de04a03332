theorem kc_law : cut_141.all (chkCut ctl_141 con_141 cut_141 850 true) = true := by decide +kernel
