/-! each method's abstract code is its bytecode: laid by wip/gen -/
set_option maxRecDepth 100000 in
theorem xk_60 : x_chkM 60 = true := by decide +kernel
set_option maxRecDepth 100000 in
theorem xk_61 : x_chkM 61 = true := by decide +kernel
set_option maxRecDepth 100000 in
theorem xk_62 : x_chkM 62 = true := by decide +kernel
set_option maxRecDepth 100000 in
theorem xk_63 : x_chkM 63 = true := by decide +kernel
set_option maxRecDepth 100000 in
theorem xk_64 : x_chkM 64 = true := by decide +kernel
set_option maxRecDepth 100000 in
theorem xk_65 : x_chkM 65 = true := by decide +kernel
set_option maxRecDepth 100000 in
theorem xk_66 : x_chkM 66 = true := by decide +kernel
set_option maxRecDepth 100000 in
theorem xk_67 : x_chkM 67 = true := by decide +kernel
set_option maxRecDepth 100000 in
theorem xk_68 : x_chkM 68 = true := by decide +kernel
set_option maxRecDepth 100000 in
theorem xk_69 : x_chkM 69 = true := by decide +kernel
set_option maxRecDepth 100000 in
theorem xk_70 : x_chkM 70 = true := by decide +kernel
set_option maxRecDepth 100000 in
theorem xk_71 : x_chkM 71 = true := by decide +kernel
set_option maxRecDepth 100000 in
theorem xk_72 : x_chkM 72 = true := by decide +kernel
set_option maxRecDepth 100000 in
theorem xk_73 : x_chkM 73 = true := by decide +kernel
set_option maxRecDepth 100000 in
theorem xk_74 : x_chkM 74 = true := by decide +kernel
set_option maxRecDepth 100000 in
theorem xk_75 : x_chkM 75 = true := by decide +kernel
set_option maxRecDepth 100000 in
theorem xk_76 : x_chkM 76 = true := by decide +kernel
set_option maxRecDepth 100000 in
theorem xk_77 : x_chkM 77 = true := by decide +kernel
set_option maxRecDepth 100000 in
theorem xk_78 : x_chkM 78 = true := by decide +kernel
set_option maxRecDepth 100000 in
theorem xk_79 : x_chkM 79 = true := by decide +kernel
set_option maxRecDepth 100000 in
theorem xk_80 : x_chkM 80 = true := by decide +kernel
set_option maxRecDepth 100000 in
theorem xk_81 : x_chkM 81 = true := by decide +kernel
set_option maxRecDepth 100000 in
theorem xk_82 : x_chkM 82 = true := by decide +kernel
set_option maxRecDepth 100000 in
theorem xk_83 : x_chkM 83 = true := by decide +kernel
set_option maxRecDepth 100000 in
theorem xk_84 : x_chkM 84 = true := by decide +kernel
set_option maxRecDepth 100000 in
theorem xk_85 : x_chkM 85 = true := by decide +kernel
set_option maxRecDepth 100000 in
theorem xk_86 : x_chkM 86 = true := by decide +kernel
set_option maxRecDepth 100000 in
theorem xk_87 : x_chkM 87 = true := by decide +kernel
set_option maxRecDepth 100000 in
theorem xk_88 : x_chkM 88 = true := by decide +kernel
set_option maxRecDepth 100000 in
theorem xk_89 : x_chkM 89 = true := by decide +kernel
set_option maxRecDepth 100000 in
theorem xk_90 : x_chkM 90 = true := by decide +kernel
set_option maxRecDepth 100000 in
theorem xk_91 : x_chkM 91 = true := by decide +kernel
set_option maxRecDepth 100000 in
theorem xk_92 : x_chkM 92 = true := by decide +kernel
set_option maxRecDepth 100000 in
theorem xk_93 : x_chkM 93 = true := by decide +kernel
set_option maxRecDepth 100000 in
theorem xk_94 : x_chkM 94 = true := by decide +kernel
set_option maxRecDepth 100000 in
theorem xk_95 : x_chkM 95 = true := by decide +kernel
set_option maxRecDepth 100000 in
theorem xk_96 : x_chkM 96 = true := by decide +kernel
set_option maxRecDepth 100000 in
theorem xk_97 : x_chkM 97 = true := by decide +kernel
set_option maxRecDepth 100000 in
theorem xk_98 : x_chkM 98 = true := by decide +kernel
set_option maxRecDepth 100000 in
theorem xk_99 : x_chkM 99 = true := by decide +kernel
set_option maxRecDepth 100000 in
theorem xk_100 : x_chkM 100 = true := by decide +kernel
set_option maxRecDepth 100000 in
theorem xk_101 : x_chkM 101 = true := by decide +kernel
set_option maxRecDepth 100000 in
theorem xk_102 : x_chkM 102 = true := by decide +kernel
set_option maxRecDepth 100000 in
theorem xk_103 : x_chkM 103 = true := by decide +kernel
set_option maxRecDepth 100000 in
theorem xk_104 : x_chkM 104 = true := by decide +kernel
set_option maxRecDepth 100000 in
theorem xk_105 : x_chkM 105 = true := by decide +kernel
set_option maxRecDepth 100000 in
theorem xk_106 : x_chkM 106 = true := by decide +kernel
set_option maxRecDepth 100000 in
theorem xk_107 : x_chkM 107 = true := by decide +kernel
set_option maxRecDepth 100000 in
theorem xk_108 : x_chkM 108 = true := by decide +kernel
set_option maxRecDepth 100000 in
theorem xk_109 : x_chkM 109 = true := by decide +kernel
set_option maxRecDepth 100000 in
theorem xk_110 : x_chkM 110 = true := by decide +kernel
set_option maxRecDepth 100000 in
theorem xk_111 : x_chkM 111 = true := by decide +kernel
set_option maxRecDepth 100000 in
theorem xk_112 : x_chkM 112 = true := by decide +kernel
set_option maxRecDepth 100000 in
theorem xk_113 : x_chkM 113 = true := by decide +kernel
set_option maxRecDepth 100000 in
theorem xk_114 : x_chkM 114 = true := by decide +kernel
set_option maxRecDepth 100000 in
theorem xk_115 : x_chkM 115 = true := by decide +kernel
set_option maxRecDepth 100000 in
theorem xk_116 : x_chkM 116 = true := by decide +kernel
set_option maxRecDepth 100000 in
theorem xk_117 : x_chkM 117 = true := by decide +kernel
set_option maxRecDepth 100000 in
theorem xk_118 : x_chkM 118 = true := by decide +kernel
set_option maxRecDepth 100000 in
theorem xk_119 : x_chkM 119 = true := by decide +kernel
