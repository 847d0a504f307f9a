/-! each method's abstract code is its bytecode: laid by wip/gen -/
set_option maxRecDepth 100000 in
theorem xk_0 : x_chkM 0 = true := by decide +kernel
set_option maxRecDepth 100000 in
theorem xk_1 : x_chkM 1 = true := by decide +kernel
set_option maxRecDepth 100000 in
theorem xk_2 : x_chkM 2 = true := by decide +kernel
set_option maxRecDepth 100000 in
theorem xk_3 : x_chkM 3 = true := by decide +kernel
set_option maxRecDepth 100000 in
theorem xk_4 : x_chkM 4 = true := by decide +kernel
set_option maxRecDepth 100000 in
theorem xk_5 : x_chkM 5 = true := by decide +kernel
set_option maxRecDepth 100000 in
theorem xk_6 : x_chkM 6 = true := by decide +kernel
set_option maxRecDepth 100000 in
theorem xk_7 : x_chkM 7 = true := by decide +kernel
set_option maxRecDepth 100000 in
theorem xk_8 : x_chkM 8 = true := by decide +kernel
set_option maxRecDepth 100000 in
theorem xk_9 : x_chkM 9 = true := by decide +kernel
set_option maxRecDepth 100000 in
theorem xk_10 : x_chkM 10 = true := by decide +kernel
set_option maxRecDepth 100000 in
theorem xk_11 : x_chkM 11 = true := by decide +kernel
set_option maxRecDepth 100000 in
theorem xk_12 : x_chkM 12 = true := by decide +kernel
set_option maxRecDepth 100000 in
theorem xk_13 : x_chkM 13 = true := by decide +kernel
set_option maxRecDepth 100000 in
theorem xk_14 : x_chkM 14 = true := by decide +kernel
set_option maxRecDepth 100000 in
theorem xk_15 : x_chkM 15 = true := by decide +kernel
set_option maxRecDepth 100000 in
theorem xk_16 : x_chkM 16 = true := by decide +kernel
set_option maxRecDepth 100000 in
theorem xk_17 : x_chkM 17 = true := by decide +kernel
set_option maxRecDepth 100000 in
theorem xk_18 : x_chkM 18 = true := by decide +kernel
set_option maxRecDepth 100000 in
theorem xk_19 : x_chkM 19 = true := by decide +kernel
set_option maxRecDepth 100000 in
theorem xk_20 : x_chkM 20 = true := by decide +kernel
set_option maxRecDepth 100000 in
theorem xk_21 : x_chkM 21 = true := by decide +kernel
set_option maxRecDepth 100000 in
theorem xk_22 : x_chkM 22 = true := by decide +kernel
set_option maxRecDepth 100000 in
theorem xk_23 : x_chkM 23 = true := by decide +kernel
set_option maxRecDepth 100000 in
theorem xk_24 : x_chkM 24 = true := by decide +kernel
set_option maxRecDepth 100000 in
theorem xk_25 : x_chkM 25 = true := by decide +kernel
set_option maxRecDepth 100000 in
theorem xk_26 : x_chkM 26 = true := by decide +kernel
set_option maxRecDepth 100000 in
theorem xk_27 : x_chkM 27 = true := by decide +kernel
set_option maxRecDepth 100000 in
theorem xk_28 : x_chkM 28 = true := by decide +kernel
set_option maxRecDepth 100000 in
theorem xk_29 : x_chkM 29 = true := by decide +kernel
set_option maxRecDepth 100000 in
theorem xk_30 : x_chkM 30 = true := by decide +kernel
set_option maxRecDepth 100000 in
theorem xk_31 : x_chkM 31 = true := by decide +kernel
set_option maxRecDepth 100000 in
theorem xk_32 : x_chkM 32 = true := by decide +kernel
set_option maxRecDepth 100000 in
theorem xk_33 : x_chkM 33 = true := by decide +kernel
set_option maxRecDepth 100000 in
theorem xk_34 : x_chkM 34 = true := by decide +kernel
set_option maxRecDepth 100000 in
theorem xk_35 : x_chkM 35 = true := by decide +kernel
set_option maxRecDepth 100000 in
theorem xk_36 : x_chkM 36 = true := by decide +kernel
set_option maxRecDepth 100000 in
theorem xk_37 : x_chkM 37 = true := by decide +kernel
set_option maxRecDepth 100000 in
theorem xk_38 : x_chkM 38 = true := by decide +kernel
set_option maxRecDepth 100000 in
theorem xk_39 : x_chkM 39 = true := by decide +kernel
set_option maxRecDepth 100000 in
theorem xk_40 : x_chkM 40 = true := by decide +kernel
set_option maxRecDepth 100000 in
theorem xk_41 : x_chkM 41 = true := by decide +kernel
set_option maxRecDepth 100000 in
theorem xk_42 : x_chkM 42 = true := by decide +kernel
set_option maxRecDepth 100000 in
theorem xk_43 : x_chkM 43 = true := by decide +kernel
set_option maxRecDepth 100000 in
theorem xk_44 : x_chkM 44 = true := by decide +kernel
set_option maxRecDepth 100000 in
theorem xk_45 : x_chkM 45 = true := by decide +kernel
set_option maxRecDepth 100000 in
theorem xk_46 : x_chkM 46 = true := by decide +kernel
set_option maxRecDepth 100000 in
theorem xk_47 : x_chkM 47 = true := by decide +kernel
set_option maxRecDepth 100000 in
theorem xk_48 : x_chkM 48 = true := by decide +kernel
set_option maxRecDepth 100000 in
theorem xk_49 : x_chkM 49 = true := by decide +kernel
set_option maxRecDepth 100000 in
theorem xk_50 : x_chkM 50 = true := by decide +kernel
set_option maxRecDepth 100000 in
theorem xk_51 : x_chkM 51 = true := by decide +kernel
set_option maxRecDepth 100000 in
theorem xk_52 : x_chkM 52 = true := by decide +kernel
set_option maxRecDepth 100000 in
theorem xk_53 : x_chkM 53 = true := by decide +kernel
set_option maxRecDepth 100000 in
theorem xk_54 : x_chkM 54 = true := by decide +kernel
set_option maxRecDepth 100000 in
theorem xk_55 : x_chkM 55 = true := by decide +kernel
set_option maxRecDepth 100000 in
theorem xk_56 : x_chkM 56 = true := by decide +kernel
set_option maxRecDepth 100000 in
theorem xk_57 : x_chkM 57 = true := by decide +kernel
set_option maxRecDepth 100000 in
theorem xk_58 : x_chkM 58 = true := by decide +kernel
set_option maxRecDepth 100000 in
theorem xk_59 : x_chkM 59 = true := by decide +kernel
