theorem kc_law : cut_143.all (chkCut ctl_143 con_143 cut_143 1051 true) = true := by decide +kernel
