set_option maxRecDepth 100000 in
theorem xk_1 : x_chkM 1 = true := by decide +kernel
set_option maxRecDepth 100000 in
theorem xk_50 : x_chkM 50 = true := by decide +kernel
set_option maxRecDepth 100000 in
theorem xk_100 : x_chkM 100 = true := by decide +kernel
