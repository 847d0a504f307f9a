/-! each method's abstract code is its bytecode: laid by wip/gen -/
set_option maxRecDepth 100000 in
theorem xk_240 : x_chkM 240 = true := by decide +kernel
set_option maxRecDepth 100000 in
theorem xk_241 : x_chkM 241 = true := by decide +kernel
set_option maxRecDepth 100000 in
theorem xk_242 : x_chkM 242 = true := by decide +kernel
set_option maxRecDepth 100000 in
theorem xk_243 : x_chkM 243 = true := by decide +kernel
set_option maxRecDepth 100000 in
theorem xk_244 : x_chkM 244 = true := by decide +kernel
set_option maxRecDepth 100000 in
theorem xk_245 : x_chkM 245 = true := by decide +kernel
set_option maxRecDepth 100000 in
theorem xk_246 : x_chkM 246 = true := by decide +kernel
set_option maxRecDepth 100000 in
theorem xk_247 : x_chkM 247 = true := by decide +kernel
set_option maxRecDepth 100000 in
theorem xk_248 : x_chkM 248 = true := by decide +kernel
set_option maxRecDepth 100000 in
theorem xk_249 : x_chkM 249 = true := by decide +kernel
set_option maxRecDepth 100000 in
theorem xk_250 : x_chkM 250 = true := by decide +kernel
set_option maxRecDepth 100000 in
theorem xk_251 : x_chkM 251 = true := by decide +kernel
set_option maxRecDepth 100000 in
theorem xk_252 : x_chkM 252 = true := by decide +kernel
set_option maxRecDepth 100000 in
theorem xk_253 : x_chkM 253 = true := by decide +kernel
set_option maxRecDepth 100000 in
theorem xk_254 : x_chkM 254 = true := by decide +kernel
set_option maxRecDepth 100000 in
theorem xk_255 : x_chkM 255 = true := by decide +kernel
set_option maxRecDepth 100000 in
theorem xk_256 : x_chkM 256 = true := by decide +kernel
set_option maxRecDepth 100000 in
theorem xk_257 : x_chkM 257 = true := by decide +kernel
set_option maxRecDepth 100000 in
theorem xk_258 : x_chkM 258 = true := by decide +kernel
set_option maxRecDepth 100000 in
theorem xk_259 : x_chkM 259 = true := by decide +kernel
set_option maxRecDepth 100000 in
theorem xk_260 : x_chkM 260 = true := by decide +kernel
set_option maxRecDepth 100000 in
theorem xk_261 : x_chkM 261 = true := by decide +kernel
set_option maxRecDepth 100000 in
theorem xk_262 : x_chkM 262 = true := by decide +kernel
set_option maxRecDepth 100000 in
theorem xk_263 : x_chkM 263 = true := by decide +kernel
set_option maxRecDepth 100000 in
theorem xk_264 : x_chkM 264 = true := by decide +kernel
set_option maxRecDepth 100000 in
theorem xk_265 : x_chkM 265 = true := by decide +kernel
set_option maxRecDepth 100000 in
theorem xk_266 : x_chkM 266 = true := by decide +kernel
set_option maxRecDepth 100000 in
theorem xk_267 : x_chkM 267 = true := by decide +kernel
set_option maxRecDepth 100000 in
theorem xk_268 : x_chkM 268 = true := by decide +kernel
set_option maxRecDepth 100000 in
theorem xk_269 : x_chkM 269 = true := by decide +kernel
set_option maxRecDepth 100000 in
theorem xk_270 : x_chkM 270 = true := by decide +kernel
set_option maxRecDepth 100000 in
theorem xk_271 : x_chkM 271 = true := by decide +kernel
set_option maxRecDepth 100000 in
theorem xk_272 : x_chkM 272 = true := by decide +kernel
set_option maxRecDepth 100000 in
theorem xk_273 : x_chkM 273 = true := by decide +kernel
set_option maxRecDepth 100000 in
theorem xk_274 : x_chkM 274 = true := by decide +kernel
set_option maxRecDepth 100000 in
theorem xk_275 : x_chkM 275 = true := by decide +kernel
set_option maxRecDepth 100000 in
theorem xk_276 : x_chkM 276 = true := by decide +kernel
set_option maxRecDepth 100000 in
theorem xk_277 : x_chkM 277 = true := by decide +kernel
set_option maxRecDepth 100000 in
theorem xk_278 : x_chkM 278 = true := by decide +kernel
set_option maxRecDepth 100000 in
theorem xk_279 : x_chkM 279 = true := by decide +kernel
set_option maxRecDepth 100000 in
theorem xk_280 : x_chkM 280 = true := by decide +kernel
set_option maxRecDepth 100000 in
theorem xk_281 : x_chkM 281 = true := by decide +kernel
set_option maxRecDepth 100000 in
theorem xk_282 : x_chkM 282 = true := by decide +kernel
set_option maxRecDepth 100000 in
theorem xk_283 : x_chkM 283 = true := by decide +kernel
set_option maxRecDepth 100000 in
theorem xk_284 : x_chkM 284 = true := by decide +kernel
set_option maxRecDepth 100000 in
theorem xk_285 : x_chkM 285 = true := by decide +kernel
set_option maxRecDepth 100000 in
theorem xk_286 : x_chkM 286 = true := by decide +kernel
set_option maxRecDepth 100000 in
theorem xk_287 : x_chkM 287 = true := by decide +kernel
set_option maxRecDepth 100000 in
theorem xk_288 : x_chkM 288 = true := by decide +kernel
set_option maxRecDepth 100000 in
theorem xk_289 : x_chkM 289 = true := by decide +kernel
set_option maxRecDepth 100000 in
theorem xk_290 : x_chkM 290 = true := by decide +kernel
set_option maxRecDepth 100000 in
theorem xk_291 : x_chkM 291 = true := by decide +kernel
set_option maxRecDepth 100000 in
theorem xk_292 : x_chkM 292 = true := by decide +kernel
set_option maxRecDepth 100000 in
theorem xk_293 : x_chkM 293 = true := by decide +kernel
set_option maxRecDepth 100000 in
theorem xk_294 : x_chkM 294 = true := by decide +kernel
set_option maxRecDepth 100000 in
theorem xk_295 : x_chkM 295 = true := by decide +kernel
set_option maxRecDepth 100000 in
theorem xk_296 : x_chkM 296 = true := by decide +kernel
set_option maxRecDepth 100000 in
theorem xk_297 : x_chkM 297 = true := by decide +kernel
set_option maxRecDepth 100000 in
theorem xk_298 : x_chkM 298 = true := by decide +kernel
set_option maxRecDepth 100000 in
theorem xk_299 : x_chkM 299 = true := by decide +kernel
