/-! each method's abstract code is its bytecode: laid by wip/gen -/
set_option maxRecDepth 100000 in
theorem xk_180 : x_chkM 180 = true := by decide +kernel
set_option maxRecDepth 100000 in
theorem xk_181 : x_chkM 181 = true := by decide +kernel
set_option maxRecDepth 100000 in
theorem xk_182 : x_chkM 182 = true := by decide +kernel
set_option maxRecDepth 100000 in
theorem xk_183 : x_chkM 183 = true := by decide +kernel
set_option maxRecDepth 100000 in
theorem xk_184 : x_chkM 184 = true := by decide +kernel
set_option maxRecDepth 100000 in
theorem xk_185 : x_chkM 185 = true := by decide +kernel
set_option maxRecDepth 100000 in
theorem xk_186 : x_chkM 186 = true := by decide +kernel
set_option maxRecDepth 100000 in
theorem xk_187 : x_chkM 187 = true := by decide +kernel
set_option maxRecDepth 100000 in
theorem xk_188 : x_chkM 188 = true := by decide +kernel
set_option maxRecDepth 100000 in
theorem xk_189 : x_chkM 189 = true := by decide +kernel
set_option maxRecDepth 100000 in
theorem xk_190 : x_chkM 190 = true := by decide +kernel
set_option maxRecDepth 100000 in
theorem xk_191 : x_chkM 191 = true := by decide +kernel
set_option maxRecDepth 100000 in
theorem xk_192 : x_chkM 192 = true := by decide +kernel
set_option maxRecDepth 100000 in
theorem xk_193 : x_chkM 193 = true := by decide +kernel
set_option maxRecDepth 100000 in
theorem xk_194 : x_chkM 194 = true := by decide +kernel
set_option maxRecDepth 100000 in
theorem xk_195 : x_chkM 195 = true := by decide +kernel
set_option maxRecDepth 100000 in
theorem xk_196 : x_chkM 196 = true := by decide +kernel
set_option maxRecDepth 100000 in
theorem xk_197 : x_chkM 197 = true := by decide +kernel
set_option maxRecDepth 100000 in
theorem xk_198 : x_chkM 198 = true := by decide +kernel
set_option maxRecDepth 100000 in
theorem xk_199 : x_chkM 199 = true := by decide +kernel
set_option maxRecDepth 100000 in
theorem xk_200 : x_chkM 200 = true := by decide +kernel
set_option maxRecDepth 100000 in
theorem xk_201 : x_chkM 201 = true := by decide +kernel
set_option maxRecDepth 100000 in
theorem xk_202 : x_chkM 202 = true := by decide +kernel
set_option maxRecDepth 100000 in
theorem xk_203 : x_chkM 203 = true := by decide +kernel
set_option maxRecDepth 100000 in
theorem xk_204 : x_chkM 204 = true := by decide +kernel
set_option maxRecDepth 100000 in
theorem xk_205 : x_chkM 205 = true := by decide +kernel
set_option maxRecDepth 100000 in
theorem xk_206 : x_chkM 206 = true := by decide +kernel
set_option maxRecDepth 100000 in
theorem xk_207 : x_chkM 207 = true := by decide +kernel
set_option maxRecDepth 100000 in
theorem xk_208 : x_chkM 208 = true := by decide +kernel
set_option maxRecDepth 100000 in
theorem xk_209 : x_chkM 209 = true := by decide +kernel
set_option maxRecDepth 100000 in
theorem xk_210 : x_chkM 210 = true := by decide +kernel
set_option maxRecDepth 100000 in
theorem xk_211 : x_chkM 211 = true := by decide +kernel
set_option maxRecDepth 100000 in
theorem xk_212 : x_chkM 212 = true := by decide +kernel
set_option maxRecDepth 100000 in
theorem xk_213 : x_chkM 213 = true := by decide +kernel
set_option maxRecDepth 100000 in
theorem xk_214 : x_chkM 214 = true := by decide +kernel
set_option maxRecDepth 100000 in
theorem xk_215 : x_chkM 215 = true := by decide +kernel
set_option maxRecDepth 100000 in
theorem xk_216 : x_chkM 216 = true := by decide +kernel
set_option maxRecDepth 100000 in
theorem xk_217 : x_chkM 217 = true := by decide +kernel
set_option maxRecDepth 100000 in
theorem xk_218 : x_chkM 218 = true := by decide +kernel
set_option maxRecDepth 100000 in
theorem xk_219 : x_chkM 219 = true := by decide +kernel
set_option maxRecDepth 100000 in
theorem xk_220 : x_chkM 220 = true := by decide +kernel
set_option maxRecDepth 100000 in
theorem xk_221 : x_chkM 221 = true := by decide +kernel
set_option maxRecDepth 100000 in
theorem xk_222 : x_chkM 222 = true := by decide +kernel
set_option maxRecDepth 100000 in
theorem xk_223 : x_chkM 223 = true := by decide +kernel
set_option maxRecDepth 100000 in
theorem xk_224 : x_chkM 224 = true := by decide +kernel
set_option maxRecDepth 100000 in
theorem xk_225 : x_chkM 225 = true := by decide +kernel
set_option maxRecDepth 100000 in
theorem xk_226 : x_chkM 226 = true := by decide +kernel
set_option maxRecDepth 100000 in
theorem xk_227 : x_chkM 227 = true := by decide +kernel
set_option maxRecDepth 100000 in
theorem xk_228 : x_chkM 228 = true := by decide +kernel
set_option maxRecDepth 100000 in
theorem xk_229 : x_chkM 229 = true := by decide +kernel
set_option maxRecDepth 100000 in
theorem xk_230 : x_chkM 230 = true := by decide +kernel
set_option maxRecDepth 100000 in
theorem xk_231 : x_chkM 231 = true := by decide +kernel
set_option maxRecDepth 100000 in
theorem xk_232 : x_chkM 232 = true := by decide +kernel
set_option maxRecDepth 100000 in
theorem xk_233 : x_chkM 233 = true := by decide +kernel
set_option maxRecDepth 100000 in
theorem xk_234 : x_chkM 234 = true := by decide +kernel
set_option maxRecDepth 100000 in
theorem xk_235 : x_chkM 235 = true := by decide +kernel
set_option maxRecDepth 100000 in
theorem xk_236 : x_chkM 236 = true := by decide +kernel
set_option maxRecDepth 100000 in
theorem xk_237 : x_chkM 237 = true := by decide +kernel
set_option maxRecDepth 100000 in
theorem xk_238 : x_chkM 238 = true := by decide +kernel
set_option maxRecDepth 100000 in
theorem xk_239 : x_chkM 239 = true := by decide +kernel
