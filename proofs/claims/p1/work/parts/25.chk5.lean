/-! each method's abstract code is its bytecode: laid by wip/gen -/
set_option maxRecDepth 100000 in
theorem xk_300 : x_chkM 300 = true := by decide +kernel
set_option maxRecDepth 100000 in
theorem xk_301 : x_chkM 301 = true := by decide +kernel
set_option maxRecDepth 100000 in
theorem xk_302 : x_chkM 302 = true := by decide +kernel
set_option maxRecDepth 100000 in
theorem xk_303 : x_chkM 303 = true := by decide +kernel
set_option maxRecDepth 100000 in
theorem xk_304 : x_chkM 304 = true := by decide +kernel
set_option maxRecDepth 100000 in
theorem xk_305 : x_chkM 305 = true := by decide +kernel
set_option maxRecDepth 100000 in
theorem xk_306 : x_chkM 306 = true := by decide +kernel
set_option maxRecDepth 100000 in
theorem xk_307 : x_chkM 307 = true := by decide +kernel
set_option maxRecDepth 100000 in
theorem xk_308 : x_chkM 308 = true := by decide +kernel
set_option maxRecDepth 100000 in
theorem xk_309 : x_chkM 309 = true := by decide +kernel
set_option maxRecDepth 100000 in
theorem xk_310 : x_chkM 310 = true := by decide +kernel
set_option maxRecDepth 100000 in
theorem xk_311 : x_chkM 311 = true := by decide +kernel
set_option maxRecDepth 100000 in
theorem xk_312 : x_chkM 312 = true := by decide +kernel
set_option maxRecDepth 100000 in
theorem xk_313 : x_chkM 313 = true := by decide +kernel
set_option maxRecDepth 100000 in
theorem xk_314 : x_chkM 314 = true := by decide +kernel
set_option maxRecDepth 100000 in
theorem xk_315 : x_chkM 315 = true := by decide +kernel
set_option maxRecDepth 100000 in
theorem xk_316 : x_chkM 316 = true := by decide +kernel
set_option maxRecDepth 100000 in
theorem xk_317 : x_chkM 317 = true := by decide +kernel
set_option maxRecDepth 100000 in
theorem xk_318 : x_chkM 318 = true := by decide +kernel
set_option maxRecDepth 100000 in
theorem xk_319 : x_chkM 319 = true := by decide +kernel
set_option maxRecDepth 100000 in
theorem xk_320 : x_chkM 320 = true := by decide +kernel
set_option maxRecDepth 100000 in
theorem xk_321 : x_chkM 321 = true := by decide +kernel
set_option maxRecDepth 100000 in
theorem xk_322 : x_chkM 322 = true := by decide +kernel
set_option maxRecDepth 100000 in
theorem xk_323 : x_chkM 323 = true := by decide +kernel
set_option maxRecDepth 100000 in
theorem xk_324 : x_chkM 324 = true := by decide +kernel
set_option maxRecDepth 100000 in
theorem xk_325 : x_chkM 325 = true := by decide +kernel
set_option maxRecDepth 100000 in
theorem xk_326 : x_chkM 326 = true := by decide +kernel
set_option maxRecDepth 100000 in
theorem xk_327 : x_chkM 327 = true := by decide +kernel
set_option maxRecDepth 100000 in
theorem xk_328 : x_chkM 328 = true := by decide +kernel
set_option maxRecDepth 100000 in
theorem xk_329 : x_chkM 329 = true := by decide +kernel
set_option maxRecDepth 100000 in
theorem xk_330 : x_chkM 330 = true := by decide +kernel
set_option maxRecDepth 100000 in
theorem xk_331 : x_chkM 331 = true := by decide +kernel
set_option maxRecDepth 100000 in
theorem xk_332 : x_chkM 332 = true := by decide +kernel
set_option maxRecDepth 100000 in
theorem xk_333 : x_chkM 333 = true := by decide +kernel
set_option maxRecDepth 100000 in
theorem xk_334 : x_chkM 334 = true := by decide +kernel
set_option maxRecDepth 100000 in
theorem xk_335 : x_chkM 335 = true := by decide +kernel
set_option maxRecDepth 100000 in
theorem xk_336 : x_chkM 336 = true := by decide +kernel
set_option maxRecDepth 100000 in
theorem xk_337 : x_chkM 337 = true := by decide +kernel
set_option maxRecDepth 100000 in
theorem xk_338 : x_chkM 338 = true := by decide +kernel
set_option maxRecDepth 100000 in
theorem xk_339 : x_chkM 339 = true := by decide +kernel
set_option maxRecDepth 100000 in
theorem xk_340 : x_chkM 340 = true := by decide +kernel
set_option maxRecDepth 100000 in
theorem xk_341 : x_chkM 341 = true := by decide +kernel
set_option maxRecDepth 100000 in
theorem xk_342 : x_chkM 342 = true := by decide +kernel
set_option maxRecDepth 100000 in
theorem xk_343 : x_chkM 343 = true := by decide +kernel
set_option maxRecDepth 100000 in
theorem xk_344 : x_chkM 344 = true := by decide +kernel
set_option maxRecDepth 100000 in
theorem xk_345 : x_chkM 345 = true := by decide +kernel
set_option maxRecDepth 100000 in
theorem xk_346 : x_chkM 346 = true := by decide +kernel
set_option maxRecDepth 100000 in
theorem xk_347 : x_chkM 347 = true := by decide +kernel
set_option maxRecDepth 100000 in
theorem xk_348 : x_chkM 348 = true := by decide +kernel
set_option maxRecDepth 100000 in
theorem xk_349 : x_chkM 349 = true := by decide +kernel
set_option maxRecDepth 100000 in
theorem xk_350 : x_chkM 350 = true := by decide +kernel
set_option maxRecDepth 100000 in
theorem xk_351 : x_chkM 351 = true := by decide +kernel
set_option maxRecDepth 100000 in
theorem xk_352 : x_chkM 352 = true := by decide +kernel
set_option maxRecDepth 100000 in
theorem xk_353 : x_chkM 353 = true := by decide +kernel
set_option maxRecDepth 100000 in
theorem xk_354 : x_chkM 354 = true := by decide +kernel
set_option maxRecDepth 100000 in
theorem xk_355 : x_chkM 355 = true := by decide +kernel
set_option maxRecDepth 100000 in
theorem xk_356 : x_chkM 356 = true := by decide +kernel
set_option maxRecDepth 100000 in
theorem xk_357 : x_chkM 357 = true := by decide +kernel
set_option maxRecDepth 100000 in
theorem xk_358 : x_chkM 358 = true := by decide +kernel
set_option maxRecDepth 100000 in
theorem xk_359 : x_chkM 359 = true := by decide +kernel
