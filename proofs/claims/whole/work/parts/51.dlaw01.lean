theorem dL_262 : decode code 262 = .ok (.iadd, 1) := by decide +kernel
theorem dL_263 : decode code 263 = .ok (.iaload, 1) := by decide +kernel
theorem dL_264 : decode code 264 = .ok (.i2l, 1) := by decide +kernel
theorem dL_265 : decode code 265 = .ok (.ldc2_w 23, 3) := by decide +kernel
theorem dL_268 : decode code 268 = .ok (.land, 1) := by decide +kernel
theorem dL_269 : decode code 269 = .ok (.lor, 1) := by decide +kernel
theorem dL_270 : decode code 270 = .ok (.aload_n 0, 1) := by decide +kernel
theorem dL_271 : decode code 271 = .ok (.iload 4, 2) := by decide +kernel
theorem dL_273 : decode code 273 = .ok (.iconst 3, 1) := by decide +kernel
theorem dL_274 : decode code 274 = .ok (.iadd, 1) := by decide +kernel
theorem dL_275 : decode code 275 = .ok (.iaload, 1) := by decide +kernel
theorem dL_276 : decode code 276 = .ok (.i2l, 1) := by decide +kernel
theorem dL_277 : decode code 277 = .ok (.bipush 32, 2) := by decide +kernel
theorem dL_279 : decode code 279 = .ok (.lshl, 1) := by decide +kernel
theorem dL_280 : decode code 280 = .ok (.aload_n 0, 1) := by decide +kernel
theorem dL_281 : decode code 281 = .ok (.iload 4, 2) := by decide +kernel
theorem dL_283 : decode code 283 = .ok (.iconst 4, 1) := by decide +kernel
theorem dL_284 : decode code 284 = .ok (.iadd, 1) := by decide +kernel
theorem dL_285 : decode code 285 = .ok (.iaload, 1) := by decide +kernel
theorem dL_286 : decode code 286 = .ok (.i2l, 1) := by decide +kernel
theorem dL_287 : decode code 287 = .ok (.ldc2_w 23, 3) := by decide +kernel
theorem dL_290 : decode code 290 = .ok (.land, 1) := by decide +kernel
theorem dL_291 : decode code 291 = .ok (.lor, 1) := by decide +kernel
theorem dL_292 : decode code 292 = .ok (.aload_n 0, 1) := by decide +kernel
theorem dL_293 : decode code 293 = .ok (.iload 4, 2) := by decide +kernel
theorem dL_295 : decode code 295 = .ok (.iconst 5, 1) := by decide +kernel
theorem dL_296 : decode code 296 = .ok (.iadd, 1) := by decide +kernel
theorem dL_297 : decode code 297 = .ok (.iaload, 1) := by decide +kernel
theorem dL_298 : decode code 298 = .ok (.i2l, 1) := by decide +kernel
theorem dL_299 : decode code 299 = .ok (.bipush 32, 2) := by decide +kernel
theorem dL_301 : decode code 301 = .ok (.lshl, 1) := by decide +kernel
theorem dL_302 : decode code 302 = .ok (.aload_n 0, 1) := by decide +kernel
theorem dL_303 : decode code 303 = .ok (.iload 4, 2) := by decide +kernel
theorem dL_305 : decode code 305 = .ok (.bipush 6, 2) := by decide +kernel
theorem dL_307 : decode code 307 = .ok (.iadd, 1) := by decide +kernel
theorem dL_308 : decode code 308 = .ok (.iaload, 1) := by decide +kernel
theorem dL_309 : decode code 309 = .ok (.i2l, 1) := by decide +kernel
theorem dL_310 : decode code 310 = .ok (.ldc2_w 23, 3) := by decide +kernel
theorem dL_313 : decode code 313 = .ok (.land, 1) := by decide +kernel
theorem dL_314 : decode code 314 = .ok (.lor, 1) := by decide +kernel
theorem dL_315 : decode code 315 = .ok (.invokevirtual 29, 3) := by decide +kernel
theorem dL_318 : decode code 318 = .ok (.if_icmp .eq 753, 3) := by decide +kernel
theorem dL_321 : decode code 321 = .ok (.iconst 0, 1) := by decide +kernel
theorem dL_322 : decode code 322 = .ok (.ireturn, 1) := by decide +kernel
theorem dL_323 : decode code 323 = .ok (.aload_n 1, 1) := by decide +kernel
theorem dL_324 : decode code 324 = .ok (.invokevirtual 30, 3) := by decide +kernel
theorem dL_327 : decode code 327 = .ok (.aload_n 2, 1) := by decide +kernel
theorem dL_328 : decode code 328 = .ok (.invokevirtual 34, 3) := by decide +kernel
theorem dL_331 : decode code 331 = .ok (.if_icmp .eq 740, 3) := by decide +kernel
theorem dL_334 : decode code 334 = .ok (.iconst 0, 1) := by decide +kernel
theorem dL_335 : decode code 335 = .ok (.ireturn, 1) := by decide +kernel
theorem dL_336 : decode code 336 = .ok (.aload_n 1, 1) := by decide +kernel
theorem dL_337 : decode code 337 = .ok (.invokevirtual 35, 3) := by decide +kernel
theorem dL_340 : decode code 340 = .ok (.aload_n 2, 1) := by decide +kernel
theorem dL_341 : decode code 341 = .ok (.invokevirtual 38, 3) := by decide +kernel
theorem dL_344 : decode code 344 = .ok (.if_icmp .eq 727, 3) := by decide +kernel
theorem dL_347 : decode code 347 = .ok (.iconst 0, 1) := by decide +kernel
theorem dL_348 : decode code 348 = .ok (.ireturn, 1) := by decide +kernel
theorem dL_349 : decode code 349 = .ok (.aload_n 1, 1) := by decide +kernel
theorem dL_350 : decode code 350 = .ok (.invokevirtual 39, 3) := by decide +kernel
theorem dL_353 : decode code 353 = .ok (.aload_n 2, 1) := by decide +kernel
theorem dL_354 : decode code 354 = .ok (.invokevirtual 42, 3) := by decide +kernel
theorem dL_357 : decode code 357 = .ok (.if_icmp .eq 714, 3) := by decide +kernel
theorem dL_360 : decode code 360 = .ok (.iconst 0, 1) := by decide +kernel
theorem dL_361 : decode code 361 = .ok (.ireturn, 1) := by decide +kernel
theorem dL_362 : decode code 362 = .ok (.aload_n 1, 1) := by decide +kernel
theorem dL_363 : decode code 363 = .ok (.aload_n 0, 1) := by decide +kernel
theorem dL_364 : decode code 364 = .ok (.iload 4, 2) := by decide +kernel
theorem dL_366 : decode code 366 = .ok (.iconst 1, 1) := by decide +kernel
theorem dL_367 : decode code 367 = .ok (.iadd, 1) := by decide +kernel
theorem dL_368 : decode code 368 = .ok (.iaload, 1) := by decide +kernel
theorem dL_369 : decode code 369 = .ok (.aload_n 0, 1) := by decide +kernel
theorem dL_370 : decode code 370 = .ok (.iload 4, 2) := by decide +kernel
theorem dL_372 : decode code 372 = .ok (.iconst 2, 1) := by decide +kernel
theorem dL_373 : decode code 373 = .ok (.iadd, 1) := by decide +kernel
theorem dL_374 : decode code 374 = .ok (.iaload, 1) := by decide +kernel
theorem dL_375 : decode code 375 = .ok (.invokevirtual 43, 3) := by decide +kernel
theorem dL_378 : decode code 378 = .ok (.aload_n 2, 1) := by decide +kernel
theorem dL_379 : decode code 379 = .ok (.aload_n 0, 1) := by decide +kernel
theorem dL_380 : decode code 380 = .ok (.iload 4, 2) := by decide +kernel
theorem dL_382 : decode code 382 = .ok (.iconst 1, 1) := by decide +kernel
theorem dL_383 : decode code 383 = .ok (.iadd, 1) := by decide +kernel
theorem dL_384 : decode code 384 = .ok (.iaload, 1) := by decide +kernel
theorem dL_385 : decode code 385 = .ok (.aload_n 0, 1) := by decide +kernel
theorem dL_386 : decode code 386 = .ok (.iload 4, 2) := by decide +kernel
theorem dL_388 : decode code 388 = .ok (.iconst 2, 1) := by decide +kernel
theorem dL_389 : decode code 389 = .ok (.iadd, 1) := by decide +kernel
theorem dL_390 : decode code 390 = .ok (.iaload, 1) := by decide +kernel
theorem dL_391 : decode code 391 = .ok (.invokevirtual 47, 3) := by decide +kernel
theorem dL_394 : decode code 394 = .ok (.if_icmp .eq 677, 3) := by decide +kernel
