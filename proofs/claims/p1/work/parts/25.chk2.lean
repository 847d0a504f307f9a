/-! each method's abstract code is its bytecode: laid by wip/gen -/
set_option maxRecDepth 100000 in
theorem xk_120 : x_chkM 120 = true := by decide +kernel
set_option maxRecDepth 100000 in
theorem xk_121 : x_chkM 121 = true := by decide +kernel
set_option maxRecDepth 100000 in
theorem xk_122 : x_chkM 122 = true := by decide +kernel
set_option maxRecDepth 100000 in
theorem xk_123 : x_chkM 123 = true := by decide +kernel
set_option maxRecDepth 100000 in
theorem xk_124 : x_chkM 124 = true := by decide +kernel
set_option maxRecDepth 100000 in
theorem xk_125 : x_chkM 125 = true := by decide +kernel
set_option maxRecDepth 100000 in
theorem xk_126 : x_chkM 126 = true := by decide +kernel
set_option maxRecDepth 100000 in
theorem xk_127 : x_chkM 127 = true := by decide +kernel
set_option maxRecDepth 100000 in
theorem xk_128 : x_chkM 128 = true := by decide +kernel
set_option maxRecDepth 100000 in
theorem xk_129 : x_chkM 129 = true := by decide +kernel
set_option maxRecDepth 100000 in
theorem xk_130 : x_chkM 130 = true := by decide +kernel
set_option maxRecDepth 100000 in
theorem xk_131 : x_chkM 131 = true := by decide +kernel
set_option maxRecDepth 100000 in
theorem xk_132 : x_chkM 132 = true := by decide +kernel
set_option maxRecDepth 100000 in
theorem xk_133 : x_chkM 133 = true := by decide +kernel
set_option maxRecDepth 100000 in
theorem xk_134 : x_chkM 134 = true := by decide +kernel
set_option maxRecDepth 100000 in
theorem xk_135 : x_chkM 135 = true := by decide +kernel
set_option maxRecDepth 100000 in
theorem xk_136 : x_chkM 136 = true := by decide +kernel
set_option maxRecDepth 100000 in
theorem xk_137 : x_chkM 137 = true := by decide +kernel
set_option maxRecDepth 100000 in
theorem xk_138 : x_chkM 138 = true := by decide +kernel
set_option maxRecDepth 100000 in
theorem xk_139 : x_chkM 139 = true := by decide +kernel
set_option maxRecDepth 100000 in
theorem xk_140 : x_chkM 140 = true := by decide +kernel
set_option maxRecDepth 100000 in
theorem xk_141 : x_chkM 141 = true := by decide +kernel
set_option maxRecDepth 100000 in
theorem xk_142 : x_chkM 142 = true := by decide +kernel
set_option maxRecDepth 100000 in
theorem xk_143 : x_chkM 143 = true := by decide +kernel
set_option maxRecDepth 100000 in
theorem xk_144 : x_chkM 144 = true := by decide +kernel
set_option maxRecDepth 100000 in
theorem xk_145 : x_chkM 145 = true := by decide +kernel
set_option maxRecDepth 100000 in
theorem xk_146 : x_chkM 146 = true := by decide +kernel
set_option maxRecDepth 100000 in
theorem xk_147 : x_chkM 147 = true := by decide +kernel
set_option maxRecDepth 100000 in
theorem xk_148 : x_chkM 148 = true := by decide +kernel
set_option maxRecDepth 100000 in
theorem xk_149 : x_chkM 149 = true := by decide +kernel
set_option maxRecDepth 100000 in
theorem xk_150 : x_chkM 150 = true := by decide +kernel
set_option maxRecDepth 100000 in
theorem xk_151 : x_chkM 151 = true := by decide +kernel
set_option maxRecDepth 100000 in
theorem xk_152 : x_chkM 152 = true := by decide +kernel
set_option maxRecDepth 100000 in
theorem xk_153 : x_chkM 153 = true := by decide +kernel
set_option maxRecDepth 100000 in
theorem xk_154 : x_chkM 154 = true := by decide +kernel
set_option maxRecDepth 100000 in
theorem xk_155 : x_chkM 155 = true := by decide +kernel
set_option maxRecDepth 100000 in
theorem xk_156 : x_chkM 156 = true := by decide +kernel
set_option maxRecDepth 100000 in
theorem xk_157 : x_chkM 157 = true := by decide +kernel
set_option maxRecDepth 100000 in
theorem xk_158 : x_chkM 158 = true := by decide +kernel
set_option maxRecDepth 100000 in
theorem xk_159 : x_chkM 159 = true := by decide +kernel
set_option maxRecDepth 100000 in
theorem xk_160 : x_chkM 160 = true := by decide +kernel
set_option maxRecDepth 100000 in
theorem xk_161 : x_chkM 161 = true := by decide +kernel
set_option maxRecDepth 100000 in
theorem xk_162 : x_chkM 162 = true := by decide +kernel
set_option maxRecDepth 100000 in
theorem xk_163 : x_chkM 163 = true := by decide +kernel
set_option maxRecDepth 100000 in
theorem xk_164 : x_chkM 164 = true := by decide +kernel
set_option maxRecDepth 100000 in
theorem xk_165 : x_chkM 165 = true := by decide +kernel
set_option maxRecDepth 100000 in
theorem xk_166 : x_chkM 166 = true := by decide +kernel
set_option maxRecDepth 100000 in
theorem xk_167 : x_chkM 167 = true := by decide +kernel
set_option maxRecDepth 100000 in
theorem xk_168 : x_chkM 168 = true := by decide +kernel
set_option maxRecDepth 100000 in
theorem xk_169 : x_chkM 169 = true := by decide +kernel
set_option maxRecDepth 100000 in
theorem xk_170 : x_chkM 170 = true := by decide +kernel
set_option maxRecDepth 100000 in
theorem xk_171 : x_chkM 171 = true := by decide +kernel
set_option maxRecDepth 100000 in
theorem xk_172 : x_chkM 172 = true := by decide +kernel
set_option maxRecDepth 100000 in
theorem xk_173 : x_chkM 173 = true := by decide +kernel
set_option maxRecDepth 100000 in
theorem xk_174 : x_chkM 174 = true := by decide +kernel
set_option maxRecDepth 100000 in
theorem xk_175 : x_chkM 175 = true := by decide +kernel
set_option maxRecDepth 100000 in
theorem xk_176 : x_chkM 176 = true := by decide +kernel
set_option maxRecDepth 100000 in
theorem xk_177 : x_chkM 177 = true := by decide +kernel
set_option maxRecDepth 100000 in
theorem xk_178 : x_chkM 178 = true := by decide +kernel
set_option maxRecDepth 100000 in
theorem xk_179 : x_chkM 179 = true := by decide +kernel
