/-! each method's abstract code is its bytecode: laid by wip/gen -/
set_option maxRecDepth 100000 in
theorem xk_360 : x_chkM 360 = true := by decide +kernel
set_option maxRecDepth 100000 in
theorem xk_361 : x_chkM 361 = true := by decide +kernel
set_option maxRecDepth 100000 in
theorem xk_362 : x_chkM 362 = true := by decide +kernel
set_option maxRecDepth 100000 in
theorem xk_363 : x_chkM 363 = true := by decide +kernel
set_option maxRecDepth 100000 in
theorem xk_364 : x_chkM 364 = true := by decide +kernel
set_option maxRecDepth 100000 in
theorem xk_365 : x_chkM 365 = true := by decide +kernel
set_option maxRecDepth 100000 in
theorem xk_366 : x_chkM 366 = true := by decide +kernel
set_option maxRecDepth 100000 in
theorem xk_367 : x_chkM 367 = true := by decide +kernel
set_option maxRecDepth 100000 in
theorem xk_368 : x_chkM 368 = true := by decide +kernel
set_option maxRecDepth 100000 in
theorem xk_369 : x_chkM 369 = true := by decide +kernel
set_option maxRecDepth 100000 in
theorem xk_370 : x_chkM 370 = true := by decide +kernel
set_option maxRecDepth 100000 in
theorem xk_371 : x_chkM 371 = true := by decide +kernel
set_option maxRecDepth 100000 in
theorem xk_372 : x_chkM 372 = true := by decide +kernel
set_option maxRecDepth 100000 in
theorem xk_373 : x_chkM 373 = true := by decide +kernel
set_option maxRecDepth 100000 in
theorem xk_374 : x_chkM 374 = true := by decide +kernel
set_option maxRecDepth 100000 in
theorem xk_375 : x_chkM 375 = true := by decide +kernel
set_option maxRecDepth 100000 in
theorem xk_376 : x_chkM 376 = true := by decide +kernel
set_option maxRecDepth 100000 in
theorem xk_377 : x_chkM 377 = true := by decide +kernel
set_option maxRecDepth 100000 in
theorem xk_378 : x_chkM 378 = true := by decide +kernel
set_option maxRecDepth 100000 in
theorem xk_379 : x_chkM 379 = true := by decide +kernel
set_option maxRecDepth 100000 in
theorem xk_380 : x_chkM 380 = true := by decide +kernel
set_option maxRecDepth 100000 in
theorem xk_381 : x_chkM 381 = true := by decide +kernel
set_option maxRecDepth 100000 in
theorem xk_382 : x_chkM 382 = true := by decide +kernel
set_option maxRecDepth 100000 in
theorem xk_383 : x_chkM 383 = true := by decide +kernel
set_option maxRecDepth 100000 in
theorem xk_384 : x_chkM 384 = true := by decide +kernel
set_option maxRecDepth 100000 in
theorem xk_385 : x_chkM 385 = true := by decide +kernel
set_option maxRecDepth 100000 in
theorem xk_386 : x_chkM 386 = true := by decide +kernel
set_option maxRecDepth 100000 in
theorem xk_387 : x_chkM 387 = true := by decide +kernel
set_option maxRecDepth 100000 in
theorem xk_388 : x_chkM 388 = true := by decide +kernel
set_option maxRecDepth 100000 in
theorem xk_389 : x_chkM 389 = true := by decide +kernel
set_option maxRecDepth 100000 in
theorem xk_390 : x_chkM 390 = true := by decide +kernel
set_option maxRecDepth 100000 in
theorem xk_391 : x_chkM 391 = true := by decide +kernel
set_option maxRecDepth 100000 in
theorem xk_392 : x_chkM 392 = true := by decide +kernel
set_option maxRecDepth 100000 in
theorem xk_393 : x_chkM 393 = true := by decide +kernel
set_option maxRecDepth 100000 in
theorem xk_394 : x_chkM 394 = true := by decide +kernel
set_option maxRecDepth 100000 in
theorem xk_395 : x_chkM 395 = true := by decide +kernel
set_option maxRecDepth 100000 in
theorem xk_396 : x_chkM 396 = true := by decide +kernel
set_option maxRecDepth 100000 in
theorem xk_397 : x_chkM 397 = true := by decide +kernel
set_option maxRecDepth 100000 in
theorem xk_398 : x_chkM 398 = true := by decide +kernel
set_option maxRecDepth 100000 in
theorem xk_399 : x_chkM 399 = true := by decide +kernel
set_option maxRecDepth 100000 in
theorem xk_400 : x_chkM 400 = true := by decide +kernel
set_option maxRecDepth 100000 in
theorem xk_401 : x_chkM 401 = true := by decide +kernel
set_option maxRecDepth 100000 in
theorem xk_402 : x_chkM 402 = true := by decide +kernel
set_option maxRecDepth 100000 in
theorem xk_403 : x_chkM 403 = true := by decide +kernel
set_option maxRecDepth 100000 in
theorem xk_404 : x_chkM 404 = true := by decide +kernel
set_option maxRecDepth 100000 in
theorem xk_405 : x_chkM 405 = true := by decide +kernel
set_option maxRecDepth 100000 in
theorem xk_406 : x_chkM 406 = true := by decide +kernel
set_option maxRecDepth 100000 in
theorem xk_407 : x_chkM 407 = true := by decide +kernel
