theorem dL_law_0 : decode cL_law 0 = .ok (.new 7, 3) := by decide +kernel
theorem dL_law_3 : decode cL_law 3 = .ok (.dup, 1) := by decide +kernel
theorem dL_law_4 : decode cL_law 4 = .ok (.invokespecial 9, 3) := by decide +kernel
theorem dL_law_7 : decode cL_law 7 = .ok (.astore_n 1, 1) := by decide +kernel
theorem dL_law_8 : decode cL_law 8 = .ok (.new 10, 3) := by decide +kernel
theorem dL_law_11 : decode cL_law 11 = .ok (.dup, 1) := by decide +kernel
theorem dL_law_12 : decode cL_law 12 = .ok (.invokespecial 12, 3) := by decide +kernel
theorem dL_law_15 : decode cL_law 15 = .ok (.astore_n 2, 1) := by decide +kernel
theorem dL_law_16 : decode cL_law 16 = .ok (.iconst 0, 1) := by decide +kernel
theorem dL_law_17 : decode cL_law 17 = .ok (.istore_n 3, 1) := by decide +kernel
theorem dL_law_18 : decode cL_law 18 = .ok (.iload_n 3, 1) := by decide +kernel
theorem dL_law_19 : decode cL_law 19 = .ok (.aload_n 0, 1) := by decide +kernel
theorem dL_law_20 : decode cL_law 20 = .ok (.arraylength, 1) := by decide +kernel
theorem dL_law_21 : decode cL_law 21 = .ok (.bipush 6, 2) := by decide +kernel
theorem dL_law_23 : decode cL_law 23 = .ok (.isub, 1) := by decide +kernel
theorem dL_law_24 : decode cL_law 24 = .ok (.if_icmp .gt 1432, 3) := by decide +kernel
theorem dL_law_27 : decode cL_law 27 = .ok (.aload_n 0, 1) := by decide +kernel
theorem dL_law_28 : decode cL_law 28 = .ok (.iload_n 3, 1) := by decide +kernel
theorem dL_law_29 : decode cL_law 29 = .ok (.iaload, 1) := by decide +kernel
theorem dL_law_30 : decode cL_law 30 = .ok (.bipush 63, 2) := by decide +kernel
theorem dL_law_32 : decode cL_law 32 = .ok (.iand, 1) := by decide +kernel
theorem dL_law_33 : decode cL_law 33 = .ok (.tableswitch 1417 0 49 #[215, 278, 301, 324, 357, 390, 413, 436, 459, 492, 515, 528, 541, 574, 607, 620, 653, 676, 689, 722, 745, 768, 781, 804, 817, 840, 863, 876, 889, 912, 935, 948, 981, 1004, 1037, 1050, 1063, 1096, 1119, 1143, 1177, 1200, 1213, 1236, 1259, 1282, 1315, 1348, 1371, 1394], 215) := by decide +kernel
theorem dL_law_248 : decode cL_law 248 = .ok (.aload_n 1, 1) := by decide +kernel
theorem dL_law_249 : decode cL_law 249 = .ok (.aload_n 0, 1) := by decide +kernel
theorem dL_law_250 : decode cL_law 250 = .ok (.iload_n 3, 1) := by decide +kernel
theorem dL_law_251 : decode cL_law 251 = .ok (.iconst 1, 1) := by decide +kernel
theorem dL_law_252 : decode cL_law 252 = .ok (.iadd, 1) := by decide +kernel
theorem dL_law_253 : decode cL_law 253 = .ok (.iaload, 1) := by decide +kernel
theorem dL_law_254 : decode cL_law 254 = .ok (.aload_n 0, 1) := by decide +kernel
theorem dL_law_255 : decode cL_law 255 = .ok (.iload_n 3, 1) := by decide +kernel
theorem dL_law_256 : decode cL_law 256 = .ok (.iconst 2, 1) := by decide +kernel
theorem dL_law_257 : decode cL_law 257 = .ok (.iadd, 1) := by decide +kernel
theorem dL_law_258 : decode cL_law 258 = .ok (.iaload, 1) := by decide +kernel
theorem dL_law_259 : decode cL_law 259 = .ok (.aload_n 0, 1) := by decide +kernel
theorem dL_law_260 : decode cL_law 260 = .ok (.iload_n 3, 1) := by decide +kernel
theorem dL_law_261 : decode cL_law 261 = .ok (.iconst 3, 1) := by decide +kernel
theorem dL_law_262 : decode cL_law 262 = .ok (.iadd, 1) := by decide +kernel
theorem dL_law_263 : decode cL_law 263 = .ok (.iaload, 1) := by decide +kernel
theorem dL_law_264 : decode cL_law 264 = .ok (.aload_n 0, 1) := by decide +kernel
theorem dL_law_265 : decode cL_law 265 = .ok (.iload_n 3, 1) := by decide +kernel
theorem dL_law_266 : decode cL_law 266 = .ok (.iconst 4, 1) := by decide +kernel
theorem dL_law_267 : decode cL_law 267 = .ok (.iadd, 1) := by decide +kernel
theorem dL_law_268 : decode cL_law 268 = .ok (.iaload, 1) := by decide +kernel
theorem dL_law_269 : decode cL_law 269 = .ok (.aload_n 0, 1) := by decide +kernel
theorem dL_law_270 : decode cL_law 270 = .ok (.iload_n 3, 1) := by decide +kernel
theorem dL_law_271 : decode cL_law 271 = .ok (.iconst 5, 1) := by decide +kernel
theorem dL_law_272 : decode cL_law 272 = .ok (.iadd, 1) := by decide +kernel
theorem dL_law_273 : decode cL_law 273 = .ok (.iaload, 1) := by decide +kernel
theorem dL_law_274 : decode cL_law 274 = .ok (.invokevirtual 13, 3) := by decide +kernel
theorem dL_law_277 : decode cL_law 277 = .ok (.aload_n 2, 1) := by decide +kernel
theorem dL_law_278 : decode cL_law 278 = .ok (.aload_n 0, 1) := by decide +kernel
theorem dL_law_279 : decode cL_law 279 = .ok (.iload_n 3, 1) := by decide +kernel
theorem dL_law_280 : decode cL_law 280 = .ok (.iconst 1, 1) := by decide +kernel
theorem dL_law_281 : decode cL_law 281 = .ok (.iadd, 1) := by decide +kernel
theorem dL_law_282 : decode cL_law 282 = .ok (.iaload, 1) := by decide +kernel
theorem dL_law_283 : decode cL_law 283 = .ok (.aload_n 0, 1) := by decide +kernel
theorem dL_law_284 : decode cL_law 284 = .ok (.iload_n 3, 1) := by decide +kernel
theorem dL_law_285 : decode cL_law 285 = .ok (.iconst 2, 1) := by decide +kernel
theorem dL_law_286 : decode cL_law 286 = .ok (.iadd, 1) := by decide +kernel
theorem dL_law_287 : decode cL_law 287 = .ok (.iaload, 1) := by decide +kernel
theorem dL_law_288 : decode cL_law 288 = .ok (.aload_n 0, 1) := by decide +kernel
theorem dL_law_289 : decode cL_law 289 = .ok (.iload_n 3, 1) := by decide +kernel
theorem dL_law_290 : decode cL_law 290 = .ok (.iconst 3, 1) := by decide +kernel
theorem dL_law_291 : decode cL_law 291 = .ok (.iadd, 1) := by decide +kernel
theorem dL_law_292 : decode cL_law 292 = .ok (.iaload, 1) := by decide +kernel
theorem dL_law_293 : decode cL_law 293 = .ok (.aload_n 0, 1) := by decide +kernel
theorem dL_law_294 : decode cL_law 294 = .ok (.iload_n 3, 1) := by decide +kernel
theorem dL_law_295 : decode cL_law 295 = .ok (.iconst 4, 1) := by decide +kernel
theorem dL_law_296 : decode cL_law 296 = .ok (.iadd, 1) := by decide +kernel
theorem dL_law_297 : decode cL_law 297 = .ok (.iaload, 1) := by decide +kernel
theorem dL_law_298 : decode cL_law 298 = .ok (.aload_n 0, 1) := by decide +kernel
theorem dL_law_299 : decode cL_law 299 = .ok (.iload_n 3, 1) := by decide +kernel
theorem dL_law_300 : decode cL_law 300 = .ok (.iconst 5, 1) := by decide +kernel
theorem dL_law_301 : decode cL_law 301 = .ok (.iadd, 1) := by decide +kernel
theorem dL_law_302 : decode cL_law 302 = .ok (.iaload, 1) := by decide +kernel
theorem dL_law_303 : decode cL_law 303 = .ok (.invokevirtual 17, 3) := by decide +kernel
theorem dL_law_306 : decode cL_law 306 = .ok (.if_icmp .eq 1144, 3) := by decide +kernel
theorem dL_law_309 : decode cL_law 309 = .ok (.iconst 0, 1) := by decide +kernel
theorem dL_law_310 : decode cL_law 310 = .ok (.ireturn, 1) := by decide +kernel
theorem dL_law_311 : decode cL_law 311 = .ok (.aload_n 1, 1) := by decide +kernel
theorem dL_law_312 : decode cL_law 312 = .ok (.aload_n 0, 1) := by decide +kernel
theorem dL_law_313 : decode cL_law 313 = .ok (.iload_n 3, 1) := by decide +kernel
theorem dL_law_314 : decode cL_law 314 = .ok (.iconst 1, 1) := by decide +kernel
theorem dL_law_315 : decode cL_law 315 = .ok (.iadd, 1) := by decide +kernel
theorem dL_law_316 : decode cL_law 316 = .ok (.iaload, 1) := by decide +kernel
theorem dL_law_317 : decode cL_law 317 = .ok (.invokevirtual 18, 3) := by decide +kernel
theorem dL_law_320 : decode cL_law 320 = .ok (.aload_n 2, 1) := by decide +kernel
theorem dL_law_321 : decode cL_law 321 = .ok (.aload_n 0, 1) := by decide +kernel
theorem dL_law_322 : decode cL_law 322 = .ok (.iload_n 3, 1) := by decide +kernel
theorem dL_law_323 : decode cL_law 323 = .ok (.iconst 1, 1) := by decide +kernel
theorem dL_law_324 : decode cL_law 324 = .ok (.iadd, 1) := by decide +kernel
theorem dL_law_325 : decode cL_law 325 = .ok (.iaload, 1) := by decide +kernel
theorem dL_law_326 : decode cL_law 326 = .ok (.invokevirtual 22, 3) := by decide +kernel
theorem dL_law_329 : decode cL_law 329 = .ok (.if_icmp .eq 1121, 3) := by decide +kernel
theorem dL_law_332 : decode cL_law 332 = .ok (.iconst 0, 1) := by decide +kernel
theorem dL_law_333 : decode cL_law 333 = .ok (.ireturn, 1) := by decide +kernel
theorem dL_law_334 : decode cL_law 334 = .ok (.aload_n 1, 1) := by decide +kernel
theorem dL_law_335 : decode cL_law 335 = .ok (.aload_n 0, 1) := by decide +kernel
theorem dL_law_336 : decode cL_law 336 = .ok (.iload_n 3, 1) := by decide +kernel
theorem dL_law_337 : decode cL_law 337 = .ok (.iconst 1, 1) := by decide +kernel
theorem dL_law_338 : decode cL_law 338 = .ok (.iadd, 1) := by decide +kernel
theorem dL_law_339 : decode cL_law 339 = .ok (.iaload, 1) := by decide +kernel
theorem dL_law_340 : decode cL_law 340 = .ok (.invokevirtual 23, 3) := by decide +kernel
theorem dL_law_343 : decode cL_law 343 = .ok (.aload_n 2, 1) := by decide +kernel
theorem dL_law_344 : decode cL_law 344 = .ok (.aload_n 0, 1) := by decide +kernel
theorem dL_law_345 : decode cL_law 345 = .ok (.iload_n 3, 1) := by decide +kernel
theorem dL_law_346 : decode cL_law 346 = .ok (.iconst 1, 1) := by decide +kernel
theorem dL_law_347 : decode cL_law 347 = .ok (.iadd, 1) := by decide +kernel
theorem dL_law_348 : decode cL_law 348 = .ok (.iaload, 1) := by decide +kernel
theorem dL_law_349 : decode cL_law 349 = .ok (.invokevirtual 26, 3) := by decide +kernel
theorem dL_law_352 : decode cL_law 352 = .ok (.if_icmp .eq 1098, 3) := by decide +kernel
theorem dL_law_355 : decode cL_law 355 = .ok (.iconst 0, 1) := by decide +kernel
theorem dL_law_356 : decode cL_law 356 = .ok (.ireturn, 1) := by decide +kernel
theorem dL_law_357 : decode cL_law 357 = .ok (.aload_n 1, 1) := by decide +kernel
theorem dL_law_358 : decode cL_law 358 = .ok (.aload_n 0, 1) := by decide +kernel
theorem dL_law_359 : decode cL_law 359 = .ok (.iload_n 3, 1) := by decide +kernel
theorem dL_law_360 : decode cL_law 360 = .ok (.iconst 1, 1) := by decide +kernel
theorem dL_law_361 : decode cL_law 361 = .ok (.iadd, 1) := by decide +kernel
theorem dL_law_362 : decode cL_law 362 = .ok (.iaload, 1) := by decide +kernel
theorem dL_law_363 : decode cL_law 363 = .ok (.aload_n 0, 1) := by decide +kernel
theorem dL_law_364 : decode cL_law 364 = .ok (.iload_n 3, 1) := by decide +kernel
theorem dL_law_365 : decode cL_law 365 = .ok (.iconst 2, 1) := by decide +kernel
theorem dL_law_366 : decode cL_law 366 = .ok (.iadd, 1) := by decide +kernel
theorem dL_law_367 : decode cL_law 367 = .ok (.iaload, 1) := by decide +kernel
theorem dL_law_368 : decode cL_law 368 = .ok (.invokevirtual 27, 3) := by decide +kernel
theorem dL_law_371 : decode cL_law 371 = .ok (.aload_n 2, 1) := by decide +kernel
theorem dL_law_372 : decode cL_law 372 = .ok (.aload_n 0, 1) := by decide +kernel
theorem dL_law_373 : decode cL_law 373 = .ok (.iload_n 3, 1) := by decide +kernel
theorem dL_law_374 : decode cL_law 374 = .ok (.iconst 1, 1) := by decide +kernel
theorem dL_law_375 : decode cL_law 375 = .ok (.iadd, 1) := by decide +kernel
theorem dL_law_376 : decode cL_law 376 = .ok (.iaload, 1) := by decide +kernel
theorem dL_law_377 : decode cL_law 377 = .ok (.aload_n 0, 1) := by decide +kernel
theorem dL_law_378 : decode cL_law 378 = .ok (.iload_n 3, 1) := by decide +kernel
theorem dL_law_379 : decode cL_law 379 = .ok (.iconst 2, 1) := by decide +kernel
theorem dL_law_380 : decode cL_law 380 = .ok (.iadd, 1) := by decide +kernel
theorem dL_law_381 : decode cL_law 381 = .ok (.iaload, 1) := by decide +kernel
theorem dL_law_382 : decode cL_law 382 = .ok (.invokevirtual 31, 3) := by decide +kernel
theorem dL_law_385 : decode cL_law 385 = .ok (.if_icmp .eq 1065, 3) := by decide +kernel
theorem dL_law_388 : decode cL_law 388 = .ok (.iconst 0, 1) := by decide +kernel
theorem dL_law_389 : decode cL_law 389 = .ok (.ireturn, 1) := by decide +kernel
theorem dL_law_390 : decode cL_law 390 = .ok (.aload_n 1, 1) := by decide +kernel
theorem dL_law_391 : decode cL_law 391 = .ok (.aload_n 0, 1) := by decide +kernel
theorem dL_law_392 : decode cL_law 392 = .ok (.iload_n 3, 1) := by decide +kernel
theorem dL_law_393 : decode cL_law 393 = .ok (.iconst 1, 1) := by decide +kernel
theorem dL_law_394 : decode cL_law 394 = .ok (.iadd, 1) := by decide +kernel
theorem dL_law_395 : decode cL_law 395 = .ok (.iaload, 1) := by decide +kernel
theorem dL_law_396 : decode cL_law 396 = .ok (.aload_n 0, 1) := by decide +kernel
theorem dL_law_397 : decode cL_law 397 = .ok (.iload_n 3, 1) := by decide +kernel
theorem dL_law_398 : decode cL_law 398 = .ok (.iconst 2, 1) := by decide +kernel
theorem dL_law_399 : decode cL_law 399 = .ok (.iadd, 1) := by decide +kernel
theorem dL_law_400 : decode cL_law 400 = .ok (.iaload, 1) := by decide +kernel
theorem dL_law_401 : decode cL_law 401 = .ok (.invokevirtual 32, 3) := by decide +kernel
theorem dL_law_404 : decode cL_law 404 = .ok (.aload_n 2, 1) := by decide +kernel
theorem dL_law_405 : decode cL_law 405 = .ok (.aload_n 0, 1) := by decide +kernel
theorem dL_law_406 : decode cL_law 406 = .ok (.iload_n 3, 1) := by decide +kernel
theorem dL_law_407 : decode cL_law 407 = .ok (.iconst 1, 1) := by decide +kernel
theorem dL_law_408 : decode cL_law 408 = .ok (.iadd, 1) := by decide +kernel
theorem dL_law_409 : decode cL_law 409 = .ok (.iaload, 1) := by decide +kernel
theorem dL_law_410 : decode cL_law 410 = .ok (.aload_n 0, 1) := by decide +kernel
theorem dL_law_411 : decode cL_law 411 = .ok (.iload_n 3, 1) := by decide +kernel
theorem dL_law_412 : decode cL_law 412 = .ok (.iconst 2, 1) := by decide +kernel
theorem dL_law_413 : decode cL_law 413 = .ok (.iadd, 1) := by decide +kernel
theorem dL_law_414 : decode cL_law 414 = .ok (.iaload, 1) := by decide +kernel
theorem dL_law_415 : decode cL_law 415 = .ok (.invokevirtual 35, 3) := by decide +kernel
theorem dL_law_418 : decode cL_law 418 = .ok (.if_icmp .eq 1032, 3) := by decide +kernel
theorem dL_law_421 : decode cL_law 421 = .ok (.iconst 0, 1) := by decide +kernel
theorem dL_law_422 : decode cL_law 422 = .ok (.ireturn, 1) := by decide +kernel
theorem dL_law_423 : decode cL_law 423 = .ok (.aload_n 1, 1) := by decide +kernel
theorem dL_law_424 : decode cL_law 424 = .ok (.aload_n 0, 1) := by decide +kernel
theorem dL_law_425 : decode cL_law 425 = .ok (.iload_n 3, 1) := by decide +kernel
theorem dL_law_426 : decode cL_law 426 = .ok (.iconst 1, 1) := by decide +kernel
theorem dL_law_427 : decode cL_law 427 = .ok (.iadd, 1) := by decide +kernel
theorem dL_law_428 : decode cL_law 428 = .ok (.iaload, 1) := by decide +kernel
theorem dL_law_429 : decode cL_law 429 = .ok (.invokevirtual 36, 3) := by decide +kernel
theorem dL_law_432 : decode cL_law 432 = .ok (.aload_n 2, 1) := by decide +kernel
theorem dL_law_433 : decode cL_law 433 = .ok (.aload_n 0, 1) := by decide +kernel
theorem dL_law_434 : decode cL_law 434 = .ok (.iload_n 3, 1) := by decide +kernel
theorem dL_law_435 : decode cL_law 435 = .ok (.iconst 1, 1) := by decide +kernel
theorem dL_law_436 : decode cL_law 436 = .ok (.iadd, 1) := by decide +kernel
theorem dL_law_437 : decode cL_law 437 = .ok (.iaload, 1) := by decide +kernel
theorem dL_law_438 : decode cL_law 438 = .ok (.invokevirtual 39, 3) := by decide +kernel
theorem dL_law_441 : decode cL_law 441 = .ok (.if_icmp .eq 1009, 3) := by decide +kernel
theorem dL_law_444 : decode cL_law 444 = .ok (.iconst 0, 1) := by decide +kernel
theorem dL_law_445 : decode cL_law 445 = .ok (.ireturn, 1) := by decide +kernel
theorem dL_law_446 : decode cL_law 446 = .ok (.aload_n 1, 1) := by decide +kernel
theorem dL_law_447 : decode cL_law 447 = .ok (.aload_n 0, 1) := by decide +kernel
theorem dL_law_448 : decode cL_law 448 = .ok (.iload_n 3, 1) := by decide +kernel
theorem dL_law_449 : decode cL_law 449 = .ok (.iconst 1, 1) := by decide +kernel
theorem dL_law_450 : decode cL_law 450 = .ok (.iadd, 1) := by decide +kernel
theorem dL_law_451 : decode cL_law 451 = .ok (.iaload, 1) := by decide +kernel
theorem dL_law_452 : decode cL_law 452 = .ok (.invokevirtual 40, 3) := by decide +kernel
theorem dL_law_455 : decode cL_law 455 = .ok (.aload_n 2, 1) := by decide +kernel
theorem dL_law_456 : decode cL_law 456 = .ok (.aload_n 0, 1) := by decide +kernel
theorem dL_law_457 : decode cL_law 457 = .ok (.iload_n 3, 1) := by decide +kernel
theorem dL_law_458 : decode cL_law 458 = .ok (.iconst 1, 1) := by decide +kernel
theorem dL_law_459 : decode cL_law 459 = .ok (.iadd, 1) := by decide +kernel
theorem dL_law_460 : decode cL_law 460 = .ok (.iaload, 1) := by decide +kernel
theorem dL_law_461 : decode cL_law 461 = .ok (.invokevirtual 43, 3) := by decide +kernel
theorem dL_law_464 : decode cL_law 464 = .ok (.if_icmp .eq 986, 3) := by decide +kernel
theorem dL_law_467 : decode cL_law 467 = .ok (.iconst 0, 1) := by decide +kernel
theorem dL_law_468 : decode cL_law 468 = .ok (.ireturn, 1) := by decide +kernel
theorem dL_law_469 : decode cL_law 469 = .ok (.aload_n 1, 1) := by decide +kernel
theorem dL_law_470 : decode cL_law 470 = .ok (.aload_n 0, 1) := by decide +kernel
theorem dL_law_471 : decode cL_law 471 = .ok (.iload_n 3, 1) := by decide +kernel
theorem dL_law_472 : decode cL_law 472 = .ok (.iconst 1, 1) := by decide +kernel
theorem dL_law_473 : decode cL_law 473 = .ok (.iadd, 1) := by decide +kernel
theorem dL_law_474 : decode cL_law 474 = .ok (.iaload, 1) := by decide +kernel
theorem dL_law_475 : decode cL_law 475 = .ok (.invokevirtual 44, 3) := by decide +kernel
theorem dL_law_478 : decode cL_law 478 = .ok (.aload_n 2, 1) := by decide +kernel
theorem dL_law_479 : decode cL_law 479 = .ok (.aload_n 0, 1) := by decide +kernel
theorem dL_law_480 : decode cL_law 480 = .ok (.iload_n 3, 1) := by decide +kernel
theorem dL_law_481 : decode cL_law 481 = .ok (.iconst 1, 1) := by decide +kernel
theorem dL_law_482 : decode cL_law 482 = .ok (.iadd, 1) := by decide +kernel
theorem dL_law_483 : decode cL_law 483 = .ok (.iaload, 1) := by decide +kernel
theorem dL_law_484 : decode cL_law 484 = .ok (.invokevirtual 47, 3) := by decide +kernel
theorem dL_law_487 : decode cL_law 487 = .ok (.if_icmp .eq 963, 3) := by decide +kernel
theorem dL_law_490 : decode cL_law 490 = .ok (.iconst 0, 1) := by decide +kernel
theorem dL_law_491 : decode cL_law 491 = .ok (.ireturn, 1) := by decide +kernel
theorem dL_law_492 : decode cL_law 492 = .ok (.aload_n 1, 1) := by decide +kernel
theorem dL_law_493 : decode cL_law 493 = .ok (.aload_n 0, 1) := by decide +kernel
theorem dL_law_494 : decode cL_law 494 = .ok (.iload_n 3, 1) := by decide +kernel
theorem dL_law_495 : decode cL_law 495 = .ok (.iconst 1, 1) := by decide +kernel
theorem dL_law_496 : decode cL_law 496 = .ok (.iadd, 1) := by decide +kernel
theorem dL_law_497 : decode cL_law 497 = .ok (.iaload, 1) := by decide +kernel
theorem dL_law_498 : decode cL_law 498 = .ok (.aload_n 0, 1) := by decide +kernel
theorem dL_law_499 : decode cL_law 499 = .ok (.iload_n 3, 1) := by decide +kernel
theorem dL_law_500 : decode cL_law 500 = .ok (.iconst 2, 1) := by decide +kernel
theorem dL_law_501 : decode cL_law 501 = .ok (.iadd, 1) := by decide +kernel
theorem dL_law_502 : decode cL_law 502 = .ok (.iaload, 1) := by decide +kernel
theorem dL_law_503 : decode cL_law 503 = .ok (.invokevirtual 48, 3) := by decide +kernel
theorem dL_law_506 : decode cL_law 506 = .ok (.aload_n 2, 1) := by decide +kernel
theorem dL_law_507 : decode cL_law 507 = .ok (.aload_n 0, 1) := by decide +kernel
theorem dL_law_508 : decode cL_law 508 = .ok (.iload_n 3, 1) := by decide +kernel
theorem dL_law_509 : decode cL_law 509 = .ok (.iconst 1, 1) := by decide +kernel
theorem dL_law_510 : decode cL_law 510 = .ok (.iadd, 1) := by decide +kernel
theorem dL_law_511 : decode cL_law 511 = .ok (.iaload, 1) := by decide +kernel
theorem dL_law_512 : decode cL_law 512 = .ok (.aload_n 0, 1) := by decide +kernel
theorem dL_law_513 : decode cL_law 513 = .ok (.iload_n 3, 1) := by decide +kernel
theorem dL_law_514 : decode cL_law 514 = .ok (.iconst 2, 1) := by decide +kernel
theorem dL_law_515 : decode cL_law 515 = .ok (.iadd, 1) := by decide +kernel
theorem dL_law_516 : decode cL_law 516 = .ok (.iaload, 1) := by decide +kernel
theorem dL_law_517 : decode cL_law 517 = .ok (.invokevirtual 51, 3) := by decide +kernel
theorem dL_law_520 : decode cL_law 520 = .ok (.if_icmp .eq 930, 3) := by decide +kernel
theorem dL_law_523 : decode cL_law 523 = .ok (.iconst 0, 1) := by decide +kernel
theorem dL_law_524 : decode cL_law 524 = .ok (.ireturn, 1) := by decide +kernel
theorem dL_law_525 : decode cL_law 525 = .ok (.aload_n 1, 1) := by decide +kernel
theorem dL_law_526 : decode cL_law 526 = .ok (.aload_n 0, 1) := by decide +kernel
theorem dL_law_527 : decode cL_law 527 = .ok (.iload_n 3, 1) := by decide +kernel
theorem dL_law_528 : decode cL_law 528 = .ok (.iconst 1, 1) := by decide +kernel
theorem dL_law_529 : decode cL_law 529 = .ok (.iadd, 1) := by decide +kernel
theorem dL_law_530 : decode cL_law 530 = .ok (.iaload, 1) := by decide +kernel
theorem dL_law_531 : decode cL_law 531 = .ok (.invokevirtual 52, 3) := by decide +kernel
theorem dL_law_534 : decode cL_law 534 = .ok (.aload_n 2, 1) := by decide +kernel
theorem dL_law_535 : decode cL_law 535 = .ok (.aload_n 0, 1) := by decide +kernel
theorem dL_law_536 : decode cL_law 536 = .ok (.iload_n 3, 1) := by decide +kernel
theorem dL_law_537 : decode cL_law 537 = .ok (.iconst 1, 1) := by decide +kernel
theorem dL_law_538 : decode cL_law 538 = .ok (.iadd, 1) := by decide +kernel
theorem dL_law_539 : decode cL_law 539 = .ok (.iaload, 1) := by decide +kernel
theorem dL_law_540 : decode cL_law 540 = .ok (.invokevirtual 55, 3) := by decide +kernel
theorem dL_law_543 : decode cL_law 543 = .ok (.if_icmp .eq 907, 3) := by decide +kernel
theorem dL_law_546 : decode cL_law 546 = .ok (.iconst 0, 1) := by decide +kernel
theorem dL_law_547 : decode cL_law 547 = .ok (.ireturn, 1) := by decide +kernel
theorem dL_law_548 : decode cL_law 548 = .ok (.aload_n 1, 1) := by decide +kernel
theorem dL_law_549 : decode cL_law 549 = .ok (.invokevirtual 56, 3) := by decide +kernel
theorem dL_law_552 : decode cL_law 552 = .ok (.aload_n 2, 1) := by decide +kernel
theorem dL_law_553 : decode cL_law 553 = .ok (.invokevirtual 60, 3) := by decide +kernel
theorem dL_law_556 : decode cL_law 556 = .ok (.if_icmp .eq 894, 3) := by decide +kernel
theorem dL_law_559 : decode cL_law 559 = .ok (.iconst 0, 1) := by decide +kernel
theorem dL_law_560 : decode cL_law 560 = .ok (.ireturn, 1) := by decide +kernel
theorem dL_law_561 : decode cL_law 561 = .ok (.aload_n 1, 1) := by decide +kernel
theorem dL_law_562 : decode cL_law 562 = .ok (.invokevirtual 61, 3) := by decide +kernel
theorem dL_law_565 : decode cL_law 565 = .ok (.aload_n 2, 1) := by decide +kernel
theorem dL_law_566 : decode cL_law 566 = .ok (.invokevirtual 64, 3) := by decide +kernel
theorem dL_law_569 : decode cL_law 569 = .ok (.if_icmp .eq 881, 3) := by decide +kernel
theorem dL_law_572 : decode cL_law 572 = .ok (.iconst 0, 1) := by decide +kernel
theorem dL_law_573 : decode cL_law 573 = .ok (.ireturn, 1) := by decide +kernel
theorem dL_law_574 : decode cL_law 574 = .ok (.aload_n 1, 1) := by decide +kernel
theorem dL_law_575 : decode cL_law 575 = .ok (.aload_n 0, 1) := by decide +kernel
theorem dL_law_576 : decode cL_law 576 = .ok (.iload_n 3, 1) := by decide +kernel
theorem dL_law_577 : decode cL_law 577 = .ok (.iconst 1, 1) := by decide +kernel
theorem dL_law_578 : decode cL_law 578 = .ok (.iadd, 1) := by decide +kernel
theorem dL_law_579 : decode cL_law 579 = .ok (.iaload, 1) := by decide +kernel
theorem dL_law_580 : decode cL_law 580 = .ok (.aload_n 0, 1) := by decide +kernel
theorem dL_law_581 : decode cL_law 581 = .ok (.iload_n 3, 1) := by decide +kernel
theorem dL_law_582 : decode cL_law 582 = .ok (.iconst 2, 1) := by decide +kernel
theorem dL_law_583 : decode cL_law 583 = .ok (.iadd, 1) := by decide +kernel
theorem dL_law_584 : decode cL_law 584 = .ok (.iaload, 1) := by decide +kernel
theorem dL_law_585 : decode cL_law 585 = .ok (.invokevirtual 65, 3) := by decide +kernel
theorem dL_law_588 : decode cL_law 588 = .ok (.aload_n 2, 1) := by decide +kernel
theorem dL_law_589 : decode cL_law 589 = .ok (.aload_n 0, 1) := by decide +kernel
theorem dL_law_590 : decode cL_law 590 = .ok (.iload_n 3, 1) := by decide +kernel
theorem dL_law_591 : decode cL_law 591 = .ok (.iconst 1, 1) := by decide +kernel
theorem dL_law_592 : decode cL_law 592 = .ok (.iadd, 1) := by decide +kernel
theorem dL_law_593 : decode cL_law 593 = .ok (.iaload, 1) := by decide +kernel
theorem dL_law_594 : decode cL_law 594 = .ok (.aload_n 0, 1) := by decide +kernel
theorem dL_law_595 : decode cL_law 595 = .ok (.iload_n 3, 1) := by decide +kernel
theorem dL_law_596 : decode cL_law 596 = .ok (.iconst 2, 1) := by decide +kernel
theorem dL_law_597 : decode cL_law 597 = .ok (.iadd, 1) := by decide +kernel
theorem dL_law_598 : decode cL_law 598 = .ok (.iaload, 1) := by decide +kernel
theorem dL_law_599 : decode cL_law 599 = .ok (.invokevirtual 68, 3) := by decide +kernel
theorem dL_law_602 : decode cL_law 602 = .ok (.if_icmp .eq 848, 3) := by decide +kernel
theorem dL_law_605 : decode cL_law 605 = .ok (.iconst 0, 1) := by decide +kernel
theorem dL_law_606 : decode cL_law 606 = .ok (.ireturn, 1) := by decide +kernel
theorem dL_law_607 : decode cL_law 607 = .ok (.aload_n 1, 1) := by decide +kernel
theorem dL_law_608 : decode cL_law 608 = .ok (.aload_n 0, 1) := by decide +kernel
theorem dL_law_609 : decode cL_law 609 = .ok (.iload_n 3, 1) := by decide +kernel
theorem dL_law_610 : decode cL_law 610 = .ok (.iconst 1, 1) := by decide +kernel
theorem dL_law_611 : decode cL_law 611 = .ok (.iadd, 1) := by decide +kernel
theorem dL_law_612 : decode cL_law 612 = .ok (.iaload, 1) := by decide +kernel
theorem dL_law_613 : decode cL_law 613 = .ok (.aload_n 0, 1) := by decide +kernel
theorem dL_law_614 : decode cL_law 614 = .ok (.iload_n 3, 1) := by decide +kernel
theorem dL_law_615 : decode cL_law 615 = .ok (.iconst 2, 1) := by decide +kernel
theorem dL_law_616 : decode cL_law 616 = .ok (.iadd, 1) := by decide +kernel
theorem dL_law_617 : decode cL_law 617 = .ok (.iaload, 1) := by decide +kernel
theorem dL_law_618 : decode cL_law 618 = .ok (.invokevirtual 69, 3) := by decide +kernel
theorem dL_law_621 : decode cL_law 621 = .ok (.aload_n 2, 1) := by decide +kernel
theorem dL_law_622 : decode cL_law 622 = .ok (.aload_n 0, 1) := by decide +kernel
theorem dL_law_623 : decode cL_law 623 = .ok (.iload_n 3, 1) := by decide +kernel
theorem dL_law_624 : decode cL_law 624 = .ok (.iconst 1, 1) := by decide +kernel
theorem dL_law_625 : decode cL_law 625 = .ok (.iadd, 1) := by decide +kernel
theorem dL_law_626 : decode cL_law 626 = .ok (.iaload, 1) := by decide +kernel
theorem dL_law_627 : decode cL_law 627 = .ok (.aload_n 0, 1) := by decide +kernel
theorem dL_law_628 : decode cL_law 628 = .ok (.iload_n 3, 1) := by decide +kernel
theorem dL_law_629 : decode cL_law 629 = .ok (.iconst 2, 1) := by decide +kernel
theorem dL_law_630 : decode cL_law 630 = .ok (.iadd, 1) := by decide +kernel
theorem dL_law_631 : decode cL_law 631 = .ok (.iaload, 1) := by decide +kernel
theorem dL_law_632 : decode cL_law 632 = .ok (.invokevirtual 72, 3) := by decide +kernel
theorem dL_law_635 : decode cL_law 635 = .ok (.if_icmp .eq 815, 3) := by decide +kernel
theorem dL_law_638 : decode cL_law 638 = .ok (.iconst 0, 1) := by decide +kernel
theorem dL_law_639 : decode cL_law 639 = .ok (.ireturn, 1) := by decide +kernel
theorem dL_law_640 : decode cL_law 640 = .ok (.aload_n 1, 1) := by decide +kernel
theorem dL_law_641 : decode cL_law 641 = .ok (.invokevirtual 73, 3) := by decide +kernel
theorem dL_law_644 : decode cL_law 644 = .ok (.aload_n 2, 1) := by decide +kernel
theorem dL_law_645 : decode cL_law 645 = .ok (.invokevirtual 76, 3) := by decide +kernel
theorem dL_law_648 : decode cL_law 648 = .ok (.if_icmp .eq 802, 3) := by decide +kernel
theorem dL_law_651 : decode cL_law 651 = .ok (.iconst 0, 1) := by decide +kernel
theorem dL_law_652 : decode cL_law 652 = .ok (.ireturn, 1) := by decide +kernel
theorem dL_law_653 : decode cL_law 653 = .ok (.aload_n 1, 1) := by decide +kernel
theorem dL_law_654 : decode cL_law 654 = .ok (.aload_n 0, 1) := by decide +kernel
theorem dL_law_655 : decode cL_law 655 = .ok (.iload_n 3, 1) := by decide +kernel
theorem dL_law_656 : decode cL_law 656 = .ok (.iconst 1, 1) := by decide +kernel
theorem dL_law_657 : decode cL_law 657 = .ok (.iadd, 1) := by decide +kernel
theorem dL_law_658 : decode cL_law 658 = .ok (.iaload, 1) := by decide +kernel
theorem dL_law_659 : decode cL_law 659 = .ok (.aload_n 0, 1) := by decide +kernel
theorem dL_law_660 : decode cL_law 660 = .ok (.iload_n 3, 1) := by decide +kernel
theorem dL_law_661 : decode cL_law 661 = .ok (.iconst 2, 1) := by decide +kernel
theorem dL_law_662 : decode cL_law 662 = .ok (.iadd, 1) := by decide +kernel
theorem dL_law_663 : decode cL_law 663 = .ok (.iaload, 1) := by decide +kernel
theorem dL_law_664 : decode cL_law 664 = .ok (.invokevirtual 77, 3) := by decide +kernel
theorem dL_law_667 : decode cL_law 667 = .ok (.aload_n 2, 1) := by decide +kernel
theorem dL_law_668 : decode cL_law 668 = .ok (.aload_n 0, 1) := by decide +kernel
theorem dL_law_669 : decode cL_law 669 = .ok (.iload_n 3, 1) := by decide +kernel
theorem dL_law_670 : decode cL_law 670 = .ok (.iconst 1, 1) := by decide +kernel
theorem dL_law_671 : decode cL_law 671 = .ok (.iadd, 1) := by decide +kernel
theorem dL_law_672 : decode cL_law 672 = .ok (.iaload, 1) := by decide +kernel
theorem dL_law_673 : decode cL_law 673 = .ok (.aload_n 0, 1) := by decide +kernel
theorem dL_law_674 : decode cL_law 674 = .ok (.iload_n 3, 1) := by decide +kernel
theorem dL_law_675 : decode cL_law 675 = .ok (.iconst 2, 1) := by decide +kernel
theorem dL_law_676 : decode cL_law 676 = .ok (.iadd, 1) := by decide +kernel
theorem dL_law_677 : decode cL_law 677 = .ok (.iaload, 1) := by decide +kernel
theorem dL_law_678 : decode cL_law 678 = .ok (.invokevirtual 80, 3) := by decide +kernel
theorem dL_law_681 : decode cL_law 681 = .ok (.if_icmp .eq 769, 3) := by decide +kernel
theorem dL_law_684 : decode cL_law 684 = .ok (.iconst 0, 1) := by decide +kernel
theorem dL_law_685 : decode cL_law 685 = .ok (.ireturn, 1) := by decide +kernel
theorem dL_law_686 : decode cL_law 686 = .ok (.aload_n 1, 1) := by decide +kernel
theorem dL_law_687 : decode cL_law 687 = .ok (.aload_n 0, 1) := by decide +kernel
theorem dL_law_688 : decode cL_law 688 = .ok (.iload_n 3, 1) := by decide +kernel
theorem dL_law_689 : decode cL_law 689 = .ok (.iconst 1, 1) := by decide +kernel
theorem dL_law_690 : decode cL_law 690 = .ok (.iadd, 1) := by decide +kernel
theorem dL_law_691 : decode cL_law 691 = .ok (.iaload, 1) := by decide +kernel
theorem dL_law_692 : decode cL_law 692 = .ok (.invokevirtual 81, 3) := by decide +kernel
theorem dL_law_695 : decode cL_law 695 = .ok (.aload_n 2, 1) := by decide +kernel
theorem dL_law_696 : decode cL_law 696 = .ok (.aload_n 0, 1) := by decide +kernel
theorem dL_law_697 : decode cL_law 697 = .ok (.iload_n 3, 1) := by decide +kernel
theorem dL_law_698 : decode cL_law 698 = .ok (.iconst 1, 1) := by decide +kernel
theorem dL_law_699 : decode cL_law 699 = .ok (.iadd, 1) := by decide +kernel
theorem dL_law_700 : decode cL_law 700 = .ok (.iaload, 1) := by decide +kernel
theorem dL_law_701 : decode cL_law 701 = .ok (.invokevirtual 84, 3) := by decide +kernel
theorem dL_law_704 : decode cL_law 704 = .ok (.if_icmp .eq 746, 3) := by decide +kernel
theorem dL_law_707 : decode cL_law 707 = .ok (.iconst 0, 1) := by decide +kernel
theorem dL_law_708 : decode cL_law 708 = .ok (.ireturn, 1) := by decide +kernel
theorem dL_law_709 : decode cL_law 709 = .ok (.aload_n 1, 1) := by decide +kernel
theorem dL_law_710 : decode cL_law 710 = .ok (.invokevirtual 85, 3) := by decide +kernel
theorem dL_law_713 : decode cL_law 713 = .ok (.aload_n 2, 1) := by decide +kernel
theorem dL_law_714 : decode cL_law 714 = .ok (.invokevirtual 88, 3) := by decide +kernel
theorem dL_law_717 : decode cL_law 717 = .ok (.if_icmp .eq 733, 3) := by decide +kernel
theorem dL_law_720 : decode cL_law 720 = .ok (.iconst 0, 1) := by decide +kernel
theorem dL_law_721 : decode cL_law 721 = .ok (.ireturn, 1) := by decide +kernel
theorem dL_law_722 : decode cL_law 722 = .ok (.aload_n 1, 1) := by decide +kernel
theorem dL_law_723 : decode cL_law 723 = .ok (.aload_n 0, 1) := by decide +kernel
theorem dL_law_724 : decode cL_law 724 = .ok (.iload_n 3, 1) := by decide +kernel
theorem dL_law_725 : decode cL_law 725 = .ok (.iconst 1, 1) := by decide +kernel
theorem dL_law_726 : decode cL_law 726 = .ok (.iadd, 1) := by decide +kernel
theorem dL_law_727 : decode cL_law 727 = .ok (.iaload, 1) := by decide +kernel
theorem dL_law_728 : decode cL_law 728 = .ok (.aload_n 0, 1) := by decide +kernel
theorem dL_law_729 : decode cL_law 729 = .ok (.iload_n 3, 1) := by decide +kernel
theorem dL_law_730 : decode cL_law 730 = .ok (.iconst 2, 1) := by decide +kernel
theorem dL_law_731 : decode cL_law 731 = .ok (.iadd, 1) := by decide +kernel
theorem dL_law_732 : decode cL_law 732 = .ok (.iaload, 1) := by decide +kernel
theorem dL_law_733 : decode cL_law 733 = .ok (.invokevirtual 89, 3) := by decide +kernel
theorem dL_law_736 : decode cL_law 736 = .ok (.aload_n 2, 1) := by decide +kernel
theorem dL_law_737 : decode cL_law 737 = .ok (.aload_n 0, 1) := by decide +kernel
theorem dL_law_738 : decode cL_law 738 = .ok (.iload_n 3, 1) := by decide +kernel
theorem dL_law_739 : decode cL_law 739 = .ok (.iconst 1, 1) := by decide +kernel
theorem dL_law_740 : decode cL_law 740 = .ok (.iadd, 1) := by decide +kernel
theorem dL_law_741 : decode cL_law 741 = .ok (.iaload, 1) := by decide +kernel
theorem dL_law_742 : decode cL_law 742 = .ok (.aload_n 0, 1) := by decide +kernel
theorem dL_law_743 : decode cL_law 743 = .ok (.iload_n 3, 1) := by decide +kernel
theorem dL_law_744 : decode cL_law 744 = .ok (.iconst 2, 1) := by decide +kernel
theorem dL_law_745 : decode cL_law 745 = .ok (.iadd, 1) := by decide +kernel
theorem dL_law_746 : decode cL_law 746 = .ok (.iaload, 1) := by decide +kernel
theorem dL_law_747 : decode cL_law 747 = .ok (.invokevirtual 92, 3) := by decide +kernel
theorem dL_law_750 : decode cL_law 750 = .ok (.if_icmp .eq 700, 3) := by decide +kernel
theorem dL_law_753 : decode cL_law 753 = .ok (.iconst 0, 1) := by decide +kernel
theorem dL_law_754 : decode cL_law 754 = .ok (.ireturn, 1) := by decide +kernel
theorem dL_law_755 : decode cL_law 755 = .ok (.aload_n 1, 1) := by decide +kernel
theorem dL_law_756 : decode cL_law 756 = .ok (.aload_n 0, 1) := by decide +kernel
theorem dL_law_757 : decode cL_law 757 = .ok (.iload_n 3, 1) := by decide +kernel
theorem dL_law_758 : decode cL_law 758 = .ok (.iconst 1, 1) := by decide +kernel
theorem dL_law_759 : decode cL_law 759 = .ok (.iadd, 1) := by decide +kernel
theorem dL_law_760 : decode cL_law 760 = .ok (.iaload, 1) := by decide +kernel
theorem dL_law_761 : decode cL_law 761 = .ok (.invokevirtual 93, 3) := by decide +kernel
theorem dL_law_764 : decode cL_law 764 = .ok (.aload_n 2, 1) := by decide +kernel
theorem dL_law_765 : decode cL_law 765 = .ok (.aload_n 0, 1) := by decide +kernel
theorem dL_law_766 : decode cL_law 766 = .ok (.iload_n 3, 1) := by decide +kernel
theorem dL_law_767 : decode cL_law 767 = .ok (.iconst 1, 1) := by decide +kernel
theorem dL_law_768 : decode cL_law 768 = .ok (.iadd, 1) := by decide +kernel
theorem dL_law_769 : decode cL_law 769 = .ok (.iaload, 1) := by decide +kernel
theorem dL_law_770 : decode cL_law 770 = .ok (.invokevirtual 96, 3) := by decide +kernel
theorem dL_law_773 : decode cL_law 773 = .ok (.if_icmp .eq 677, 3) := by decide +kernel
theorem dL_law_776 : decode cL_law 776 = .ok (.iconst 0, 1) := by decide +kernel
theorem dL_law_777 : decode cL_law 777 = .ok (.ireturn, 1) := by decide +kernel
theorem dL_law_778 : decode cL_law 778 = .ok (.aload_n 1, 1) := by decide +kernel
theorem dL_law_779 : decode cL_law 779 = .ok (.aload_n 0, 1) := by decide +kernel
theorem dL_law_780 : decode cL_law 780 = .ok (.iload_n 3, 1) := by decide +kernel
theorem dL_law_781 : decode cL_law 781 = .ok (.iconst 1, 1) := by decide +kernel
theorem dL_law_782 : decode cL_law 782 = .ok (.iadd, 1) := by decide +kernel
theorem dL_law_783 : decode cL_law 783 = .ok (.iaload, 1) := by decide +kernel
theorem dL_law_784 : decode cL_law 784 = .ok (.invokevirtual 97, 3) := by decide +kernel
theorem dL_law_787 : decode cL_law 787 = .ok (.aload_n 2, 1) := by decide +kernel
theorem dL_law_788 : decode cL_law 788 = .ok (.aload_n 0, 1) := by decide +kernel
theorem dL_law_789 : decode cL_law 789 = .ok (.iload_n 3, 1) := by decide +kernel
theorem dL_law_790 : decode cL_law 790 = .ok (.iconst 1, 1) := by decide +kernel
theorem dL_law_791 : decode cL_law 791 = .ok (.iadd, 1) := by decide +kernel
theorem dL_law_792 : decode cL_law 792 = .ok (.iaload, 1) := by decide +kernel
theorem dL_law_793 : decode cL_law 793 = .ok (.invokevirtual 100, 3) := by decide +kernel
theorem dL_law_796 : decode cL_law 796 = .ok (.if_icmp .eq 654, 3) := by decide +kernel
theorem dL_law_799 : decode cL_law 799 = .ok (.iconst 0, 1) := by decide +kernel
theorem dL_law_800 : decode cL_law 800 = .ok (.ireturn, 1) := by decide +kernel
theorem dL_law_801 : decode cL_law 801 = .ok (.aload_n 1, 1) := by decide +kernel
theorem dL_law_802 : decode cL_law 802 = .ok (.invokevirtual 101, 3) := by decide +kernel
theorem dL_law_805 : decode cL_law 805 = .ok (.aload_n 2, 1) := by decide +kernel
theorem dL_law_806 : decode cL_law 806 = .ok (.invokevirtual 104, 3) := by decide +kernel
theorem dL_law_809 : decode cL_law 809 = .ok (.if_icmp .eq 641, 3) := by decide +kernel
theorem dL_law_812 : decode cL_law 812 = .ok (.iconst 0, 1) := by decide +kernel
theorem dL_law_813 : decode cL_law 813 = .ok (.ireturn, 1) := by decide +kernel
theorem dL_law_814 : decode cL_law 814 = .ok (.aload_n 1, 1) := by decide +kernel
theorem dL_law_815 : decode cL_law 815 = .ok (.aload_n 0, 1) := by decide +kernel
theorem dL_law_816 : decode cL_law 816 = .ok (.iload_n 3, 1) := by decide +kernel
theorem dL_law_817 : decode cL_law 817 = .ok (.iconst 1, 1) := by decide +kernel
theorem dL_law_818 : decode cL_law 818 = .ok (.iadd, 1) := by decide +kernel
theorem dL_law_819 : decode cL_law 819 = .ok (.iaload, 1) := by decide +kernel
theorem dL_law_820 : decode cL_law 820 = .ok (.invokevirtual 105, 3) := by decide +kernel
theorem dL_law_823 : decode cL_law 823 = .ok (.aload_n 2, 1) := by decide +kernel
theorem dL_law_824 : decode cL_law 824 = .ok (.aload_n 0, 1) := by decide +kernel
theorem dL_law_825 : decode cL_law 825 = .ok (.iload_n 3, 1) := by decide +kernel
theorem dL_law_826 : decode cL_law 826 = .ok (.iconst 1, 1) := by decide +kernel
theorem dL_law_827 : decode cL_law 827 = .ok (.iadd, 1) := by decide +kernel
theorem dL_law_828 : decode cL_law 828 = .ok (.iaload, 1) := by decide +kernel
theorem dL_law_829 : decode cL_law 829 = .ok (.invokevirtual 108, 3) := by decide +kernel
theorem dL_law_832 : decode cL_law 832 = .ok (.if_icmp .eq 618, 3) := by decide +kernel
theorem dL_law_835 : decode cL_law 835 = .ok (.iconst 0, 1) := by decide +kernel
theorem dL_law_836 : decode cL_law 836 = .ok (.ireturn, 1) := by decide +kernel
theorem dL_law_837 : decode cL_law 837 = .ok (.aload_n 1, 1) := by decide +kernel
theorem dL_law_838 : decode cL_law 838 = .ok (.invokevirtual 109, 3) := by decide +kernel
theorem dL_law_841 : decode cL_law 841 = .ok (.aload_n 2, 1) := by decide +kernel
theorem dL_law_842 : decode cL_law 842 = .ok (.invokevirtual 112, 3) := by decide +kernel
theorem dL_law_845 : decode cL_law 845 = .ok (.if_icmp .eq 605, 3) := by decide +kernel
theorem dL_law_848 : decode cL_law 848 = .ok (.iconst 0, 1) := by decide +kernel
theorem dL_law_849 : decode cL_law 849 = .ok (.ireturn, 1) := by decide +kernel
theorem dL_law_850 : decode cL_law 850 = .ok (.aload_n 1, 1) := by decide +kernel
theorem dL_law_851 : decode cL_law 851 = .ok (.aload_n 0, 1) := by decide +kernel
theorem dL_law_852 : decode cL_law 852 = .ok (.iload_n 3, 1) := by decide +kernel
theorem dL_law_853 : decode cL_law 853 = .ok (.iconst 1, 1) := by decide +kernel
theorem dL_law_854 : decode cL_law 854 = .ok (.iadd, 1) := by decide +kernel
theorem dL_law_855 : decode cL_law 855 = .ok (.iaload, 1) := by decide +kernel
theorem dL_law_856 : decode cL_law 856 = .ok (.invokevirtual 113, 3) := by decide +kernel
theorem dL_law_859 : decode cL_law 859 = .ok (.aload_n 2, 1) := by decide +kernel
theorem dL_law_860 : decode cL_law 860 = .ok (.aload_n 0, 1) := by decide +kernel
theorem dL_law_861 : decode cL_law 861 = .ok (.iload_n 3, 1) := by decide +kernel
theorem dL_law_862 : decode cL_law 862 = .ok (.iconst 1, 1) := by decide +kernel
theorem dL_law_863 : decode cL_law 863 = .ok (.iadd, 1) := by decide +kernel
theorem dL_law_864 : decode cL_law 864 = .ok (.iaload, 1) := by decide +kernel
theorem dL_law_865 : decode cL_law 865 = .ok (.invokevirtual 116, 3) := by decide +kernel
theorem dL_law_868 : decode cL_law 868 = .ok (.if_icmp .eq 582, 3) := by decide +kernel
theorem dL_law_871 : decode cL_law 871 = .ok (.iconst 0, 1) := by decide +kernel
theorem dL_law_872 : decode cL_law 872 = .ok (.ireturn, 1) := by decide +kernel
theorem dL_law_873 : decode cL_law 873 = .ok (.aload_n 1, 1) := by decide +kernel
theorem dL_law_874 : decode cL_law 874 = .ok (.aload_n 0, 1) := by decide +kernel
theorem dL_law_875 : decode cL_law 875 = .ok (.iload_n 3, 1) := by decide +kernel
theorem dL_law_876 : decode cL_law 876 = .ok (.iconst 1, 1) := by decide +kernel
theorem dL_law_877 : decode cL_law 877 = .ok (.iadd, 1) := by decide +kernel
theorem dL_law_878 : decode cL_law 878 = .ok (.iaload, 1) := by decide +kernel
theorem dL_law_879 : decode cL_law 879 = .ok (.invokevirtual 117, 3) := by decide +kernel
theorem dL_law_882 : decode cL_law 882 = .ok (.aload_n 2, 1) := by decide +kernel
theorem dL_law_883 : decode cL_law 883 = .ok (.aload_n 0, 1) := by decide +kernel
theorem dL_law_884 : decode cL_law 884 = .ok (.iload_n 3, 1) := by decide +kernel
theorem dL_law_885 : decode cL_law 885 = .ok (.iconst 1, 1) := by decide +kernel
theorem dL_law_886 : decode cL_law 886 = .ok (.iadd, 1) := by decide +kernel
theorem dL_law_887 : decode cL_law 887 = .ok (.iaload, 1) := by decide +kernel
theorem dL_law_888 : decode cL_law 888 = .ok (.invokevirtual 120, 3) := by decide +kernel
theorem dL_law_891 : decode cL_law 891 = .ok (.if_icmp .eq 559, 3) := by decide +kernel
theorem dL_law_894 : decode cL_law 894 = .ok (.iconst 0, 1) := by decide +kernel
theorem dL_law_895 : decode cL_law 895 = .ok (.ireturn, 1) := by decide +kernel
theorem dL_law_896 : decode cL_law 896 = .ok (.aload_n 1, 1) := by decide +kernel
theorem dL_law_897 : decode cL_law 897 = .ok (.invokevirtual 121, 3) := by decide +kernel
theorem dL_law_900 : decode cL_law 900 = .ok (.aload_n 2, 1) := by decide +kernel
theorem dL_law_901 : decode cL_law 901 = .ok (.invokevirtual 124, 3) := by decide +kernel
theorem dL_law_904 : decode cL_law 904 = .ok (.if_icmp .eq 546, 3) := by decide +kernel
theorem dL_law_907 : decode cL_law 907 = .ok (.iconst 0, 1) := by decide +kernel
theorem dL_law_908 : decode cL_law 908 = .ok (.ireturn, 1) := by decide +kernel
theorem dL_law_909 : decode cL_law 909 = .ok (.aload_n 1, 1) := by decide +kernel
theorem dL_law_910 : decode cL_law 910 = .ok (.invokevirtual 125, 3) := by decide +kernel
theorem dL_law_913 : decode cL_law 913 = .ok (.aload_n 2, 1) := by decide +kernel
theorem dL_law_914 : decode cL_law 914 = .ok (.invokevirtual 128, 3) := by decide +kernel
theorem dL_law_917 : decode cL_law 917 = .ok (.if_icmp .eq 533, 3) := by decide +kernel
theorem dL_law_920 : decode cL_law 920 = .ok (.iconst 0, 1) := by decide +kernel
theorem dL_law_921 : decode cL_law 921 = .ok (.ireturn, 1) := by decide +kernel
theorem dL_law_922 : decode cL_law 922 = .ok (.aload_n 1, 1) := by decide +kernel
theorem dL_law_923 : decode cL_law 923 = .ok (.aload_n 0, 1) := by decide +kernel
theorem dL_law_924 : decode cL_law 924 = .ok (.iload_n 3, 1) := by decide +kernel
theorem dL_law_925 : decode cL_law 925 = .ok (.iconst 1, 1) := by decide +kernel
theorem dL_law_926 : decode cL_law 926 = .ok (.iadd, 1) := by decide +kernel
theorem dL_law_927 : decode cL_law 927 = .ok (.iaload, 1) := by decide +kernel
theorem dL_law_928 : decode cL_law 928 = .ok (.invokevirtual 129, 3) := by decide +kernel
theorem dL_law_931 : decode cL_law 931 = .ok (.aload_n 2, 1) := by decide +kernel
theorem dL_law_932 : decode cL_law 932 = .ok (.aload_n 0, 1) := by decide +kernel
theorem dL_law_933 : decode cL_law 933 = .ok (.iload_n 3, 1) := by decide +kernel
theorem dL_law_934 : decode cL_law 934 = .ok (.iconst 1, 1) := by decide +kernel
theorem dL_law_935 : decode cL_law 935 = .ok (.iadd, 1) := by decide +kernel
theorem dL_law_936 : decode cL_law 936 = .ok (.iaload, 1) := by decide +kernel
theorem dL_law_937 : decode cL_law 937 = .ok (.invokevirtual 132, 3) := by decide +kernel
theorem dL_law_940 : decode cL_law 940 = .ok (.if_icmp .eq 510, 3) := by decide +kernel
theorem dL_law_943 : decode cL_law 943 = .ok (.iconst 0, 1) := by decide +kernel
theorem dL_law_944 : decode cL_law 944 = .ok (.ireturn, 1) := by decide +kernel
theorem dL_law_945 : decode cL_law 945 = .ok (.aload_n 1, 1) := by decide +kernel
theorem dL_law_946 : decode cL_law 946 = .ok (.aload_n 0, 1) := by decide +kernel
theorem dL_law_947 : decode cL_law 947 = .ok (.iload_n 3, 1) := by decide +kernel
theorem dL_law_948 : decode cL_law 948 = .ok (.iconst 1, 1) := by decide +kernel
theorem dL_law_949 : decode cL_law 949 = .ok (.iadd, 1) := by decide +kernel
theorem dL_law_950 : decode cL_law 950 = .ok (.iaload, 1) := by decide +kernel
theorem dL_law_951 : decode cL_law 951 = .ok (.invokevirtual 133, 3) := by decide +kernel
theorem dL_law_954 : decode cL_law 954 = .ok (.aload_n 2, 1) := by decide +kernel
theorem dL_law_955 : decode cL_law 955 = .ok (.aload_n 0, 1) := by decide +kernel
theorem dL_law_956 : decode cL_law 956 = .ok (.iload_n 3, 1) := by decide +kernel
theorem dL_law_957 : decode cL_law 957 = .ok (.iconst 1, 1) := by decide +kernel
theorem dL_law_958 : decode cL_law 958 = .ok (.iadd, 1) := by decide +kernel
theorem dL_law_959 : decode cL_law 959 = .ok (.iaload, 1) := by decide +kernel
theorem dL_law_960 : decode cL_law 960 = .ok (.invokevirtual 136, 3) := by decide +kernel
theorem dL_law_963 : decode cL_law 963 = .ok (.if_icmp .eq 487, 3) := by decide +kernel
theorem dL_law_966 : decode cL_law 966 = .ok (.iconst 0, 1) := by decide +kernel
theorem dL_law_967 : decode cL_law 967 = .ok (.ireturn, 1) := by decide +kernel
theorem dL_law_968 : decode cL_law 968 = .ok (.aload_n 1, 1) := by decide +kernel
theorem dL_law_969 : decode cL_law 969 = .ok (.invokevirtual 137, 3) := by decide +kernel
theorem dL_law_972 : decode cL_law 972 = .ok (.aload_n 2, 1) := by decide +kernel
theorem dL_law_973 : decode cL_law 973 = .ok (.invokevirtual 140, 3) := by decide +kernel
theorem dL_law_976 : decode cL_law 976 = .ok (.if_icmp .eq 474, 3) := by decide +kernel
theorem dL_law_979 : decode cL_law 979 = .ok (.iconst 0, 1) := by decide +kernel
theorem dL_law_980 : decode cL_law 980 = .ok (.ireturn, 1) := by decide +kernel
theorem dL_law_981 : decode cL_law 981 = .ok (.aload_n 1, 1) := by decide +kernel
theorem dL_law_982 : decode cL_law 982 = .ok (.aload_n 0, 1) := by decide +kernel
theorem dL_law_983 : decode cL_law 983 = .ok (.iload_n 3, 1) := by decide +kernel
theorem dL_law_984 : decode cL_law 984 = .ok (.iconst 1, 1) := by decide +kernel
theorem dL_law_985 : decode cL_law 985 = .ok (.iadd, 1) := by decide +kernel
theorem dL_law_986 : decode cL_law 986 = .ok (.iaload, 1) := by decide +kernel
theorem dL_law_987 : decode cL_law 987 = .ok (.aload_n 0, 1) := by decide +kernel
theorem dL_law_988 : decode cL_law 988 = .ok (.iload_n 3, 1) := by decide +kernel
theorem dL_law_989 : decode cL_law 989 = .ok (.iconst 2, 1) := by decide +kernel
theorem dL_law_990 : decode cL_law 990 = .ok (.iadd, 1) := by decide +kernel
theorem dL_law_991 : decode cL_law 991 = .ok (.iaload, 1) := by decide +kernel
theorem dL_law_992 : decode cL_law 992 = .ok (.invokevirtual 141, 3) := by decide +kernel
theorem dL_law_995 : decode cL_law 995 = .ok (.aload_n 2, 1) := by decide +kernel
theorem dL_law_996 : decode cL_law 996 = .ok (.aload_n 0, 1) := by decide +kernel
theorem dL_law_997 : decode cL_law 997 = .ok (.iload_n 3, 1) := by decide +kernel
theorem dL_law_998 : decode cL_law 998 = .ok (.iconst 1, 1) := by decide +kernel
theorem dL_law_999 : decode cL_law 999 = .ok (.iadd, 1) := by decide +kernel
theorem dL_law_1000 : decode cL_law 1000 = .ok (.iaload, 1) := by decide +kernel
theorem dL_law_1001 : decode cL_law 1001 = .ok (.aload_n 0, 1) := by decide +kernel
theorem dL_law_1002 : decode cL_law 1002 = .ok (.iload_n 3, 1) := by decide +kernel
theorem dL_law_1003 : decode cL_law 1003 = .ok (.iconst 2, 1) := by decide +kernel
theorem dL_law_1004 : decode cL_law 1004 = .ok (.iadd, 1) := by decide +kernel
theorem dL_law_1005 : decode cL_law 1005 = .ok (.iaload, 1) := by decide +kernel
theorem dL_law_1006 : decode cL_law 1006 = .ok (.invokevirtual 144, 3) := by decide +kernel
theorem dL_law_1009 : decode cL_law 1009 = .ok (.if_icmp .eq 441, 3) := by decide +kernel
theorem dL_law_1012 : decode cL_law 1012 = .ok (.iconst 0, 1) := by decide +kernel
theorem dL_law_1013 : decode cL_law 1013 = .ok (.ireturn, 1) := by decide +kernel
theorem dL_law_1014 : decode cL_law 1014 = .ok (.aload_n 1, 1) := by decide +kernel
theorem dL_law_1015 : decode cL_law 1015 = .ok (.aload_n 0, 1) := by decide +kernel
theorem dL_law_1016 : decode cL_law 1016 = .ok (.iload_n 3, 1) := by decide +kernel
theorem dL_law_1017 : decode cL_law 1017 = .ok (.iconst 1, 1) := by decide +kernel
theorem dL_law_1018 : decode cL_law 1018 = .ok (.iadd, 1) := by decide +kernel
theorem dL_law_1019 : decode cL_law 1019 = .ok (.iaload, 1) := by decide +kernel
theorem dL_law_1020 : decode cL_law 1020 = .ok (.invokevirtual 145, 3) := by decide +kernel
theorem dL_law_1023 : decode cL_law 1023 = .ok (.aload_n 2, 1) := by decide +kernel
theorem dL_law_1024 : decode cL_law 1024 = .ok (.aload_n 0, 1) := by decide +kernel
theorem dL_law_1025 : decode cL_law 1025 = .ok (.iload_n 3, 1) := by decide +kernel
theorem dL_law_1026 : decode cL_law 1026 = .ok (.iconst 1, 1) := by decide +kernel
theorem dL_law_1027 : decode cL_law 1027 = .ok (.iadd, 1) := by decide +kernel
theorem dL_law_1028 : decode cL_law 1028 = .ok (.iaload, 1) := by decide +kernel
theorem dL_law_1029 : decode cL_law 1029 = .ok (.invokevirtual 148, 3) := by decide +kernel
theorem dL_law_1032 : decode cL_law 1032 = .ok (.if_icmp .eq 418, 3) := by decide +kernel
theorem dL_law_1035 : decode cL_law 1035 = .ok (.iconst 0, 1) := by decide +kernel
theorem dL_law_1036 : decode cL_law 1036 = .ok (.ireturn, 1) := by decide +kernel
theorem dL_law_1037 : decode cL_law 1037 = .ok (.aload_n 1, 1) := by decide +kernel
theorem dL_law_1038 : decode cL_law 1038 = .ok (.aload_n 0, 1) := by decide +kernel
theorem dL_law_1039 : decode cL_law 1039 = .ok (.iload_n 3, 1) := by decide +kernel
theorem dL_law_1040 : decode cL_law 1040 = .ok (.iconst 1, 1) := by decide +kernel
theorem dL_law_1041 : decode cL_law 1041 = .ok (.iadd, 1) := by decide +kernel
theorem dL_law_1042 : decode cL_law 1042 = .ok (.iaload, 1) := by decide +kernel
theorem dL_law_1043 : decode cL_law 1043 = .ok (.aload_n 0, 1) := by decide +kernel
theorem dL_law_1044 : decode cL_law 1044 = .ok (.iload_n 3, 1) := by decide +kernel
theorem dL_law_1045 : decode cL_law 1045 = .ok (.iconst 2, 1) := by decide +kernel
theorem dL_law_1046 : decode cL_law 1046 = .ok (.iadd, 1) := by decide +kernel
theorem dL_law_1047 : decode cL_law 1047 = .ok (.iaload, 1) := by decide +kernel
theorem dL_law_1048 : decode cL_law 1048 = .ok (.invokevirtual 149, 3) := by decide +kernel
theorem dL_law_1051 : decode cL_law 1051 = .ok (.aload_n 2, 1) := by decide +kernel
theorem dL_law_1052 : decode cL_law 1052 = .ok (.aload_n 0, 1) := by decide +kernel
theorem dL_law_1053 : decode cL_law 1053 = .ok (.iload_n 3, 1) := by decide +kernel
theorem dL_law_1054 : decode cL_law 1054 = .ok (.iconst 1, 1) := by decide +kernel
theorem dL_law_1055 : decode cL_law 1055 = .ok (.iadd, 1) := by decide +kernel
theorem dL_law_1056 : decode cL_law 1056 = .ok (.iaload, 1) := by decide +kernel
theorem dL_law_1057 : decode cL_law 1057 = .ok (.aload_n 0, 1) := by decide +kernel
theorem dL_law_1058 : decode cL_law 1058 = .ok (.iload_n 3, 1) := by decide +kernel
theorem dL_law_1059 : decode cL_law 1059 = .ok (.iconst 2, 1) := by decide +kernel
theorem dL_law_1060 : decode cL_law 1060 = .ok (.iadd, 1) := by decide +kernel
theorem dL_law_1061 : decode cL_law 1061 = .ok (.iaload, 1) := by decide +kernel
theorem dL_law_1062 : decode cL_law 1062 = .ok (.invokevirtual 152, 3) := by decide +kernel
theorem dL_law_1065 : decode cL_law 1065 = .ok (.if_icmp .eq 385, 3) := by decide +kernel
theorem dL_law_1068 : decode cL_law 1068 = .ok (.iconst 0, 1) := by decide +kernel
theorem dL_law_1069 : decode cL_law 1069 = .ok (.ireturn, 1) := by decide +kernel
theorem dL_law_1070 : decode cL_law 1070 = .ok (.aload_n 1, 1) := by decide +kernel
theorem dL_law_1071 : decode cL_law 1071 = .ok (.invokevirtual 153, 3) := by decide +kernel
theorem dL_law_1074 : decode cL_law 1074 = .ok (.aload_n 2, 1) := by decide +kernel
theorem dL_law_1075 : decode cL_law 1075 = .ok (.invokevirtual 156, 3) := by decide +kernel
theorem dL_law_1078 : decode cL_law 1078 = .ok (.if_icmp .eq 372, 3) := by decide +kernel
theorem dL_law_1081 : decode cL_law 1081 = .ok (.iconst 0, 1) := by decide +kernel
theorem dL_law_1082 : decode cL_law 1082 = .ok (.ireturn, 1) := by decide +kernel
theorem dL_law_1083 : decode cL_law 1083 = .ok (.aload_n 1, 1) := by decide +kernel
theorem dL_law_1084 : decode cL_law 1084 = .ok (.invokevirtual 157, 3) := by decide +kernel
theorem dL_law_1087 : decode cL_law 1087 = .ok (.aload_n 2, 1) := by decide +kernel
theorem dL_law_1088 : decode cL_law 1088 = .ok (.invokevirtual 160, 3) := by decide +kernel
theorem dL_law_1091 : decode cL_law 1091 = .ok (.if_icmp .eq 359, 3) := by decide +kernel
theorem dL_law_1094 : decode cL_law 1094 = .ok (.iconst 0, 1) := by decide +kernel
theorem dL_law_1095 : decode cL_law 1095 = .ok (.ireturn, 1) := by decide +kernel
theorem dL_law_1096 : decode cL_law 1096 = .ok (.aload_n 1, 1) := by decide +kernel
theorem dL_law_1097 : decode cL_law 1097 = .ok (.aload_n 0, 1) := by decide +kernel
theorem dL_law_1098 : decode cL_law 1098 = .ok (.iload_n 3, 1) := by decide +kernel
theorem dL_law_1099 : decode cL_law 1099 = .ok (.iconst 1, 1) := by decide +kernel
theorem dL_law_1100 : decode cL_law 1100 = .ok (.iadd, 1) := by decide +kernel
theorem dL_law_1101 : decode cL_law 1101 = .ok (.iaload, 1) := by decide +kernel
theorem dL_law_1102 : decode cL_law 1102 = .ok (.aload_n 0, 1) := by decide +kernel
theorem dL_law_1103 : decode cL_law 1103 = .ok (.iload_n 3, 1) := by decide +kernel
theorem dL_law_1104 : decode cL_law 1104 = .ok (.iconst 2, 1) := by decide +kernel
theorem dL_law_1105 : decode cL_law 1105 = .ok (.iadd, 1) := by decide +kernel
theorem dL_law_1106 : decode cL_law 1106 = .ok (.iaload, 1) := by decide +kernel
theorem dL_law_1107 : decode cL_law 1107 = .ok (.invokevirtual 161, 3) := by decide +kernel
theorem dL_law_1110 : decode cL_law 1110 = .ok (.aload_n 2, 1) := by decide +kernel
theorem dL_law_1111 : decode cL_law 1111 = .ok (.aload_n 0, 1) := by decide +kernel
theorem dL_law_1112 : decode cL_law 1112 = .ok (.iload_n 3, 1) := by decide +kernel
theorem dL_law_1113 : decode cL_law 1113 = .ok (.iconst 1, 1) := by decide +kernel
theorem dL_law_1114 : decode cL_law 1114 = .ok (.iadd, 1) := by decide +kernel
theorem dL_law_1115 : decode cL_law 1115 = .ok (.iaload, 1) := by decide +kernel
theorem dL_law_1116 : decode cL_law 1116 = .ok (.aload_n 0, 1) := by decide +kernel
theorem dL_law_1117 : decode cL_law 1117 = .ok (.iload_n 3, 1) := by decide +kernel
theorem dL_law_1118 : decode cL_law 1118 = .ok (.iconst 2, 1) := by decide +kernel
theorem dL_law_1119 : decode cL_law 1119 = .ok (.iadd, 1) := by decide +kernel
theorem dL_law_1120 : decode cL_law 1120 = .ok (.iaload, 1) := by decide +kernel
theorem dL_law_1121 : decode cL_law 1121 = .ok (.invokevirtual 164, 3) := by decide +kernel
theorem dL_law_1124 : decode cL_law 1124 = .ok (.if_icmp .eq 326, 3) := by decide +kernel
theorem dL_law_1127 : decode cL_law 1127 = .ok (.iconst 0, 1) := by decide +kernel
theorem dL_law_1128 : decode cL_law 1128 = .ok (.ireturn, 1) := by decide +kernel
theorem dL_law_1129 : decode cL_law 1129 = .ok (.aload_n 1, 1) := by decide +kernel
theorem dL_law_1130 : decode cL_law 1130 = .ok (.aload_n 0, 1) := by decide +kernel
theorem dL_law_1131 : decode cL_law 1131 = .ok (.iload_n 3, 1) := by decide +kernel
theorem dL_law_1132 : decode cL_law 1132 = .ok (.iconst 1, 1) := by decide +kernel
theorem dL_law_1133 : decode cL_law 1133 = .ok (.iadd, 1) := by decide +kernel
theorem dL_law_1134 : decode cL_law 1134 = .ok (.iaload, 1) := by decide +kernel
theorem dL_law_1135 : decode cL_law 1135 = .ok (.invokevirtual 165, 3) := by decide +kernel
theorem dL_law_1138 : decode cL_law 1138 = .ok (.aload_n 2, 1) := by decide +kernel
theorem dL_law_1139 : decode cL_law 1139 = .ok (.aload_n 0, 1) := by decide +kernel
theorem dL_law_1140 : decode cL_law 1140 = .ok (.iload_n 3, 1) := by decide +kernel
theorem dL_law_1141 : decode cL_law 1141 = .ok (.iconst 1, 1) := by decide +kernel
theorem dL_law_1142 : decode cL_law 1142 = .ok (.iadd, 1) := by decide +kernel
theorem dL_law_1143 : decode cL_law 1143 = .ok (.iaload, 1) := by decide +kernel
theorem dL_law_1144 : decode cL_law 1144 = .ok (.invokevirtual 168, 3) := by decide +kernel
theorem dL_law_1147 : decode cL_law 1147 = .ok (.if_icmp .eq 303, 3) := by decide +kernel
theorem dL_law_1150 : decode cL_law 1150 = .ok (.iconst 0, 1) := by decide +kernel
theorem dL_law_1151 : decode cL_law 1151 = .ok (.ireturn, 1) := by decide +kernel
theorem dL_law_1152 : decode cL_law 1152 = .ok (.aload_n 1, 1) := by decide +kernel
theorem dL_law_1153 : decode cL_law 1153 = .ok (.aload_n 0, 1) := by decide +kernel
theorem dL_law_1154 : decode cL_law 1154 = .ok (.iload_n 3, 1) := by decide +kernel
theorem dL_law_1155 : decode cL_law 1155 = .ok (.iconst 1, 1) := by decide +kernel
theorem dL_law_1156 : decode cL_law 1156 = .ok (.iadd, 1) := by decide +kernel
theorem dL_law_1157 : decode cL_law 1157 = .ok (.iaload, 1) := by decide +kernel
theorem dL_law_1158 : decode cL_law 1158 = .ok (.invokevirtual 169, 3) := by decide +kernel
theorem dL_law_1161 : decode cL_law 1161 = .ok (.aload_n 2, 1) := by decide +kernel
theorem dL_law_1162 : decode cL_law 1162 = .ok (.aload_n 0, 1) := by decide +kernel
theorem dL_law_1163 : decode cL_law 1163 = .ok (.iload_n 3, 1) := by decide +kernel
theorem dL_law_1164 : decode cL_law 1164 = .ok (.iconst 1, 1) := by decide +kernel
theorem dL_law_1165 : decode cL_law 1165 = .ok (.iadd, 1) := by decide +kernel
theorem dL_law_1166 : decode cL_law 1166 = .ok (.iaload, 1) := by decide +kernel
theorem dL_law_1167 : decode cL_law 1167 = .ok (.invokevirtual 173, 3) := by decide +kernel
theorem dL_law_1170 : decode cL_law 1170 = .ok (.lcmp, 1) := by decide +kernel
theorem dL_law_1171 : decode cL_law 1171 = .ok (.ifCond .eq 279, 3) := by decide +kernel
theorem dL_law_1174 : decode cL_law 1174 = .ok (.iconst 0, 1) := by decide +kernel
theorem dL_law_1175 : decode cL_law 1175 = .ok (.ireturn, 1) := by decide +kernel
theorem dL_law_1176 : decode cL_law 1176 = .ok (.aload_n 1, 1) := by decide +kernel
theorem dL_law_1177 : decode cL_law 1177 = .ok (.aload_n 0, 1) := by decide +kernel
theorem dL_law_1178 : decode cL_law 1178 = .ok (.iload_n 3, 1) := by decide +kernel
theorem dL_law_1179 : decode cL_law 1179 = .ok (.iconst 1, 1) := by decide +kernel
theorem dL_law_1180 : decode cL_law 1180 = .ok (.iadd, 1) := by decide +kernel
theorem dL_law_1181 : decode cL_law 1181 = .ok (.iaload, 1) := by decide +kernel
theorem dL_law_1182 : decode cL_law 1182 = .ok (.aload_n 0, 1) := by decide +kernel
theorem dL_law_1183 : decode cL_law 1183 = .ok (.iload_n 3, 1) := by decide +kernel
theorem dL_law_1184 : decode cL_law 1184 = .ok (.iconst 2, 1) := by decide +kernel
theorem dL_law_1185 : decode cL_law 1185 = .ok (.iadd, 1) := by decide +kernel
theorem dL_law_1186 : decode cL_law 1186 = .ok (.iaload, 1) := by decide +kernel
theorem dL_law_1187 : decode cL_law 1187 = .ok (.invokevirtual 174, 3) := by decide +kernel
theorem dL_law_1190 : decode cL_law 1190 = .ok (.aload_n 2, 1) := by decide +kernel
theorem dL_law_1191 : decode cL_law 1191 = .ok (.aload_n 0, 1) := by decide +kernel
theorem dL_law_1192 : decode cL_law 1192 = .ok (.iload_n 3, 1) := by decide +kernel
theorem dL_law_1193 : decode cL_law 1193 = .ok (.iconst 1, 1) := by decide +kernel
theorem dL_law_1194 : decode cL_law 1194 = .ok (.iadd, 1) := by decide +kernel
theorem dL_law_1195 : decode cL_law 1195 = .ok (.iaload, 1) := by decide +kernel
theorem dL_law_1196 : decode cL_law 1196 = .ok (.aload_n 0, 1) := by decide +kernel
theorem dL_law_1197 : decode cL_law 1197 = .ok (.iload_n 3, 1) := by decide +kernel
theorem dL_law_1198 : decode cL_law 1198 = .ok (.iconst 2, 1) := by decide +kernel
theorem dL_law_1199 : decode cL_law 1199 = .ok (.iadd, 1) := by decide +kernel
theorem dL_law_1200 : decode cL_law 1200 = .ok (.iaload, 1) := by decide +kernel
theorem dL_law_1201 : decode cL_law 1201 = .ok (.invokevirtual 178, 3) := by decide +kernel
theorem dL_law_1204 : decode cL_law 1204 = .ok (.lcmp, 1) := by decide +kernel
theorem dL_law_1205 : decode cL_law 1205 = .ok (.ifCond .eq 245, 3) := by decide +kernel
theorem dL_law_1208 : decode cL_law 1208 = .ok (.iconst 0, 1) := by decide +kernel
theorem dL_law_1209 : decode cL_law 1209 = .ok (.ireturn, 1) := by decide +kernel
theorem dL_law_1210 : decode cL_law 1210 = .ok (.aload_n 1, 1) := by decide +kernel
theorem dL_law_1211 : decode cL_law 1211 = .ok (.aload_n 0, 1) := by decide +kernel
theorem dL_law_1212 : decode cL_law 1212 = .ok (.iload_n 3, 1) := by decide +kernel
theorem dL_law_1213 : decode cL_law 1213 = .ok (.iconst 1, 1) := by decide +kernel
theorem dL_law_1214 : decode cL_law 1214 = .ok (.iadd, 1) := by decide +kernel
theorem dL_law_1215 : decode cL_law 1215 = .ok (.iaload, 1) := by decide +kernel
theorem dL_law_1216 : decode cL_law 1216 = .ok (.invokevirtual 179, 3) := by decide +kernel
theorem dL_law_1219 : decode cL_law 1219 = .ok (.aload_n 2, 1) := by decide +kernel
theorem dL_law_1220 : decode cL_law 1220 = .ok (.aload_n 0, 1) := by decide +kernel
theorem dL_law_1221 : decode cL_law 1221 = .ok (.iload_n 3, 1) := by decide +kernel
theorem dL_law_1222 : decode cL_law 1222 = .ok (.iconst 1, 1) := by decide +kernel
theorem dL_law_1223 : decode cL_law 1223 = .ok (.iadd, 1) := by decide +kernel
theorem dL_law_1224 : decode cL_law 1224 = .ok (.iaload, 1) := by decide +kernel
theorem dL_law_1225 : decode cL_law 1225 = .ok (.invokevirtual 182, 3) := by decide +kernel
theorem dL_law_1228 : decode cL_law 1228 = .ok (.if_icmp .eq 222, 3) := by decide +kernel
theorem dL_law_1231 : decode cL_law 1231 = .ok (.iconst 0, 1) := by decide +kernel
theorem dL_law_1232 : decode cL_law 1232 = .ok (.ireturn, 1) := by decide +kernel
theorem dL_law_1233 : decode cL_law 1233 = .ok (.aload_n 1, 1) := by decide +kernel
theorem dL_law_1234 : decode cL_law 1234 = .ok (.invokevirtual 183, 3) := by decide +kernel
theorem dL_law_1237 : decode cL_law 1237 = .ok (.aload_n 2, 1) := by decide +kernel
theorem dL_law_1238 : decode cL_law 1238 = .ok (.invokevirtual 186, 3) := by decide +kernel
theorem dL_law_1241 : decode cL_law 1241 = .ok (.if_icmp .eq 209, 3) := by decide +kernel
theorem dL_law_1244 : decode cL_law 1244 = .ok (.iconst 0, 1) := by decide +kernel
theorem dL_law_1245 : decode cL_law 1245 = .ok (.ireturn, 1) := by decide +kernel
theorem dL_law_1246 : decode cL_law 1246 = .ok (.aload_n 1, 1) := by decide +kernel
theorem dL_law_1247 : decode cL_law 1247 = .ok (.aload_n 0, 1) := by decide +kernel
theorem dL_law_1248 : decode cL_law 1248 = .ok (.iload_n 3, 1) := by decide +kernel
theorem dL_law_1249 : decode cL_law 1249 = .ok (.iconst 1, 1) := by decide +kernel
theorem dL_law_1250 : decode cL_law 1250 = .ok (.iadd, 1) := by decide +kernel
theorem dL_law_1251 : decode cL_law 1251 = .ok (.iaload, 1) := by decide +kernel
theorem dL_law_1252 : decode cL_law 1252 = .ok (.invokevirtual 187, 3) := by decide +kernel
theorem dL_law_1255 : decode cL_law 1255 = .ok (.aload_n 2, 1) := by decide +kernel
theorem dL_law_1256 : decode cL_law 1256 = .ok (.aload_n 0, 1) := by decide +kernel
theorem dL_law_1257 : decode cL_law 1257 = .ok (.iload_n 3, 1) := by decide +kernel
theorem dL_law_1258 : decode cL_law 1258 = .ok (.iconst 1, 1) := by decide +kernel
theorem dL_law_1259 : decode cL_law 1259 = .ok (.iadd, 1) := by decide +kernel
theorem dL_law_1260 : decode cL_law 1260 = .ok (.iaload, 1) := by decide +kernel
theorem dL_law_1261 : decode cL_law 1261 = .ok (.invokevirtual 190, 3) := by decide +kernel
theorem dL_law_1264 : decode cL_law 1264 = .ok (.if_icmp .eq 186, 3) := by decide +kernel
theorem dL_law_1267 : decode cL_law 1267 = .ok (.iconst 0, 1) := by decide +kernel
theorem dL_law_1268 : decode cL_law 1268 = .ok (.ireturn, 1) := by decide +kernel
theorem dL_law_1269 : decode cL_law 1269 = .ok (.aload_n 1, 1) := by decide +kernel
theorem dL_law_1270 : decode cL_law 1270 = .ok (.aload_n 0, 1) := by decide +kernel
theorem dL_law_1271 : decode cL_law 1271 = .ok (.iload_n 3, 1) := by decide +kernel
theorem dL_law_1272 : decode cL_law 1272 = .ok (.iconst 1, 1) := by decide +kernel
theorem dL_law_1273 : decode cL_law 1273 = .ok (.iadd, 1) := by decide +kernel
theorem dL_law_1274 : decode cL_law 1274 = .ok (.iaload, 1) := by decide +kernel
theorem dL_law_1275 : decode cL_law 1275 = .ok (.invokevirtual 191, 3) := by decide +kernel
theorem dL_law_1278 : decode cL_law 1278 = .ok (.aload_n 2, 1) := by decide +kernel
theorem dL_law_1279 : decode cL_law 1279 = .ok (.aload_n 0, 1) := by decide +kernel
theorem dL_law_1280 : decode cL_law 1280 = .ok (.iload_n 3, 1) := by decide +kernel
theorem dL_law_1281 : decode cL_law 1281 = .ok (.iconst 1, 1) := by decide +kernel
theorem dL_law_1282 : decode cL_law 1282 = .ok (.iadd, 1) := by decide +kernel
theorem dL_law_1283 : decode cL_law 1283 = .ok (.iaload, 1) := by decide +kernel
theorem dL_law_1284 : decode cL_law 1284 = .ok (.invokevirtual 194, 3) := by decide +kernel
theorem dL_law_1287 : decode cL_law 1287 = .ok (.if_icmp .eq 163, 3) := by decide +kernel
theorem dL_law_1290 : decode cL_law 1290 = .ok (.iconst 0, 1) := by decide +kernel
theorem dL_law_1291 : decode cL_law 1291 = .ok (.ireturn, 1) := by decide +kernel
theorem dL_law_1292 : decode cL_law 1292 = .ok (.aload_n 1, 1) := by decide +kernel
theorem dL_law_1293 : decode cL_law 1293 = .ok (.aload_n 0, 1) := by decide +kernel
theorem dL_law_1294 : decode cL_law 1294 = .ok (.iload_n 3, 1) := by decide +kernel
theorem dL_law_1295 : decode cL_law 1295 = .ok (.iconst 1, 1) := by decide +kernel
theorem dL_law_1296 : decode cL_law 1296 = .ok (.iadd, 1) := by decide +kernel
theorem dL_law_1297 : decode cL_law 1297 = .ok (.iaload, 1) := by decide +kernel
theorem dL_law_1298 : decode cL_law 1298 = .ok (.invokevirtual 195, 3) := by decide +kernel
theorem dL_law_1301 : decode cL_law 1301 = .ok (.aload_n 2, 1) := by decide +kernel
theorem dL_law_1302 : decode cL_law 1302 = .ok (.aload_n 0, 1) := by decide +kernel
theorem dL_law_1303 : decode cL_law 1303 = .ok (.iload_n 3, 1) := by decide +kernel
theorem dL_law_1304 : decode cL_law 1304 = .ok (.iconst 1, 1) := by decide +kernel
theorem dL_law_1305 : decode cL_law 1305 = .ok (.iadd, 1) := by decide +kernel
theorem dL_law_1306 : decode cL_law 1306 = .ok (.iaload, 1) := by decide +kernel
theorem dL_law_1307 : decode cL_law 1307 = .ok (.invokevirtual 198, 3) := by decide +kernel
theorem dL_law_1310 : decode cL_law 1310 = .ok (.if_icmp .eq 140, 3) := by decide +kernel
theorem dL_law_1313 : decode cL_law 1313 = .ok (.iconst 0, 1) := by decide +kernel
theorem dL_law_1314 : decode cL_law 1314 = .ok (.ireturn, 1) := by decide +kernel
theorem dL_law_1315 : decode cL_law 1315 = .ok (.aload_n 1, 1) := by decide +kernel
theorem dL_law_1316 : decode cL_law 1316 = .ok (.aload_n 0, 1) := by decide +kernel
theorem dL_law_1317 : decode cL_law 1317 = .ok (.iload_n 3, 1) := by decide +kernel
theorem dL_law_1318 : decode cL_law 1318 = .ok (.iconst 1, 1) := by decide +kernel
theorem dL_law_1319 : decode cL_law 1319 = .ok (.iadd, 1) := by decide +kernel
theorem dL_law_1320 : decode cL_law 1320 = .ok (.iaload, 1) := by decide +kernel
theorem dL_law_1321 : decode cL_law 1321 = .ok (.aload_n 0, 1) := by decide +kernel
theorem dL_law_1322 : decode cL_law 1322 = .ok (.iload_n 3, 1) := by decide +kernel
theorem dL_law_1323 : decode cL_law 1323 = .ok (.iconst 2, 1) := by decide +kernel
theorem dL_law_1324 : decode cL_law 1324 = .ok (.iadd, 1) := by decide +kernel
theorem dL_law_1325 : decode cL_law 1325 = .ok (.iaload, 1) := by decide +kernel
theorem dL_law_1326 : decode cL_law 1326 = .ok (.invokevirtual 199, 3) := by decide +kernel
theorem dL_law_1329 : decode cL_law 1329 = .ok (.aload_n 2, 1) := by decide +kernel
theorem dL_law_1330 : decode cL_law 1330 = .ok (.aload_n 0, 1) := by decide +kernel
theorem dL_law_1331 : decode cL_law 1331 = .ok (.iload_n 3, 1) := by decide +kernel
theorem dL_law_1332 : decode cL_law 1332 = .ok (.iconst 1, 1) := by decide +kernel
theorem dL_law_1333 : decode cL_law 1333 = .ok (.iadd, 1) := by decide +kernel
theorem dL_law_1334 : decode cL_law 1334 = .ok (.iaload, 1) := by decide +kernel
theorem dL_law_1335 : decode cL_law 1335 = .ok (.aload_n 0, 1) := by decide +kernel
theorem dL_law_1336 : decode cL_law 1336 = .ok (.iload_n 3, 1) := by decide +kernel
theorem dL_law_1337 : decode cL_law 1337 = .ok (.iconst 2, 1) := by decide +kernel
theorem dL_law_1338 : decode cL_law 1338 = .ok (.iadd, 1) := by decide +kernel
theorem dL_law_1339 : decode cL_law 1339 = .ok (.iaload, 1) := by decide +kernel
theorem dL_law_1340 : decode cL_law 1340 = .ok (.invokevirtual 202, 3) := by decide +kernel
theorem dL_law_1343 : decode cL_law 1343 = .ok (.if_icmp .eq 107, 3) := by decide +kernel
theorem dL_law_1346 : decode cL_law 1346 = .ok (.iconst 0, 1) := by decide +kernel
theorem dL_law_1347 : decode cL_law 1347 = .ok (.ireturn, 1) := by decide +kernel
theorem dL_law_1348 : decode cL_law 1348 = .ok (.aload_n 1, 1) := by decide +kernel
theorem dL_law_1349 : decode cL_law 1349 = .ok (.aload_n 0, 1) := by decide +kernel
theorem dL_law_1350 : decode cL_law 1350 = .ok (.iload_n 3, 1) := by decide +kernel
theorem dL_law_1351 : decode cL_law 1351 = .ok (.iconst 1, 1) := by decide +kernel
theorem dL_law_1352 : decode cL_law 1352 = .ok (.iadd, 1) := by decide +kernel
theorem dL_law_1353 : decode cL_law 1353 = .ok (.iaload, 1) := by decide +kernel
theorem dL_law_1354 : decode cL_law 1354 = .ok (.aload_n 0, 1) := by decide +kernel
theorem dL_law_1355 : decode cL_law 1355 = .ok (.iload_n 3, 1) := by decide +kernel
theorem dL_law_1356 : decode cL_law 1356 = .ok (.iconst 2, 1) := by decide +kernel
theorem dL_law_1357 : decode cL_law 1357 = .ok (.iadd, 1) := by decide +kernel
theorem dL_law_1358 : decode cL_law 1358 = .ok (.iaload, 1) := by decide +kernel
theorem dL_law_1359 : decode cL_law 1359 = .ok (.invokevirtual 203, 3) := by decide +kernel
theorem dL_law_1362 : decode cL_law 1362 = .ok (.aload_n 2, 1) := by decide +kernel
theorem dL_law_1363 : decode cL_law 1363 = .ok (.aload_n 0, 1) := by decide +kernel
theorem dL_law_1364 : decode cL_law 1364 = .ok (.iload_n 3, 1) := by decide +kernel
theorem dL_law_1365 : decode cL_law 1365 = .ok (.iconst 1, 1) := by decide +kernel
theorem dL_law_1366 : decode cL_law 1366 = .ok (.iadd, 1) := by decide +kernel
theorem dL_law_1367 : decode cL_law 1367 = .ok (.iaload, 1) := by decide +kernel
theorem dL_law_1368 : decode cL_law 1368 = .ok (.aload_n 0, 1) := by decide +kernel
theorem dL_law_1369 : decode cL_law 1369 = .ok (.iload_n 3, 1) := by decide +kernel
theorem dL_law_1370 : decode cL_law 1370 = .ok (.iconst 2, 1) := by decide +kernel
theorem dL_law_1371 : decode cL_law 1371 = .ok (.iadd, 1) := by decide +kernel
theorem dL_law_1372 : decode cL_law 1372 = .ok (.iaload, 1) := by decide +kernel
theorem dL_law_1373 : decode cL_law 1373 = .ok (.invokevirtual 206, 3) := by decide +kernel
theorem dL_law_1376 : decode cL_law 1376 = .ok (.if_icmp .eq 74, 3) := by decide +kernel
theorem dL_law_1379 : decode cL_law 1379 = .ok (.iconst 0, 1) := by decide +kernel
theorem dL_law_1380 : decode cL_law 1380 = .ok (.ireturn, 1) := by decide +kernel
theorem dL_law_1381 : decode cL_law 1381 = .ok (.aload_n 1, 1) := by decide +kernel
theorem dL_law_1382 : decode cL_law 1382 = .ok (.aload_n 0, 1) := by decide +kernel
theorem dL_law_1383 : decode cL_law 1383 = .ok (.iload_n 3, 1) := by decide +kernel
theorem dL_law_1384 : decode cL_law 1384 = .ok (.iconst 1, 1) := by decide +kernel
theorem dL_law_1385 : decode cL_law 1385 = .ok (.iadd, 1) := by decide +kernel
theorem dL_law_1386 : decode cL_law 1386 = .ok (.iaload, 1) := by decide +kernel
theorem dL_law_1387 : decode cL_law 1387 = .ok (.invokevirtual 207, 3) := by decide +kernel
theorem dL_law_1390 : decode cL_law 1390 = .ok (.aload_n 2, 1) := by decide +kernel
theorem dL_law_1391 : decode cL_law 1391 = .ok (.aload_n 0, 1) := by decide +kernel
theorem dL_law_1392 : decode cL_law 1392 = .ok (.iload_n 3, 1) := by decide +kernel
theorem dL_law_1393 : decode cL_law 1393 = .ok (.iconst 1, 1) := by decide +kernel
theorem dL_law_1394 : decode cL_law 1394 = .ok (.iadd, 1) := by decide +kernel
theorem dL_law_1395 : decode cL_law 1395 = .ok (.iaload, 1) := by decide +kernel
theorem dL_law_1396 : decode cL_law 1396 = .ok (.invokevirtual 210, 3) := by decide +kernel
theorem dL_law_1399 : decode cL_law 1399 = .ok (.if_icmp .eq 51, 3) := by decide +kernel
theorem dL_law_1402 : decode cL_law 1402 = .ok (.iconst 0, 1) := by decide +kernel
theorem dL_law_1403 : decode cL_law 1403 = .ok (.ireturn, 1) := by decide +kernel
theorem dL_law_1404 : decode cL_law 1404 = .ok (.aload_n 1, 1) := by decide +kernel
theorem dL_law_1405 : decode cL_law 1405 = .ok (.aload_n 0, 1) := by decide +kernel
theorem dL_law_1406 : decode cL_law 1406 = .ok (.iload_n 3, 1) := by decide +kernel
theorem dL_law_1407 : decode cL_law 1407 = .ok (.iconst 1, 1) := by decide +kernel
theorem dL_law_1408 : decode cL_law 1408 = .ok (.iadd, 1) := by decide +kernel
theorem dL_law_1409 : decode cL_law 1409 = .ok (.iaload, 1) := by decide +kernel
theorem dL_law_1410 : decode cL_law 1410 = .ok (.invokevirtual 211, 3) := by decide +kernel
theorem dL_law_1413 : decode cL_law 1413 = .ok (.aload_n 2, 1) := by decide +kernel
theorem dL_law_1414 : decode cL_law 1414 = .ok (.aload_n 0, 1) := by decide +kernel
theorem dL_law_1415 : decode cL_law 1415 = .ok (.iload_n 3, 1) := by decide +kernel
theorem dL_law_1416 : decode cL_law 1416 = .ok (.iconst 1, 1) := by decide +kernel
theorem dL_law_1417 : decode cL_law 1417 = .ok (.iadd, 1) := by decide +kernel
theorem dL_law_1418 : decode cL_law 1418 = .ok (.iaload, 1) := by decide +kernel
theorem dL_law_1419 : decode cL_law 1419 = .ok (.invokevirtual 214, 3) := by decide +kernel
theorem dL_law_1422 : decode cL_law 1422 = .ok (.if_icmp .eq 28, 3) := by decide +kernel
theorem dL_law_1425 : decode cL_law 1425 = .ok (.iconst 0, 1) := by decide +kernel
theorem dL_law_1426 : decode cL_law 1426 = .ok (.ireturn, 1) := by decide +kernel
theorem dL_law_1427 : decode cL_law 1427 = .ok (.aload_n 1, 1) := by decide +kernel
theorem dL_law_1428 : decode cL_law 1428 = .ok (.aload_n 0, 1) := by decide +kernel
theorem dL_law_1429 : decode cL_law 1429 = .ok (.iload_n 3, 1) := by decide +kernel
theorem dL_law_1430 : decode cL_law 1430 = .ok (.iconst 1, 1) := by decide +kernel
theorem dL_law_1431 : decode cL_law 1431 = .ok (.iadd, 1) := by decide +kernel
theorem dL_law_1432 : decode cL_law 1432 = .ok (.iaload, 1) := by decide +kernel
theorem dL_law_1433 : decode cL_law 1433 = .ok (.invokevirtual 215, 3) := by decide +kernel
theorem dL_law_1436 : decode cL_law 1436 = .ok (.aload_n 2, 1) := by decide +kernel
theorem dL_law_1437 : decode cL_law 1437 = .ok (.aload_n 0, 1) := by decide +kernel
theorem dL_law_1438 : decode cL_law 1438 = .ok (.iload_n 3, 1) := by decide +kernel
theorem dL_law_1439 : decode cL_law 1439 = .ok (.iconst 1, 1) := by decide +kernel
theorem dL_law_1440 : decode cL_law 1440 = .ok (.iadd, 1) := by decide +kernel
theorem dL_law_1441 : decode cL_law 1441 = .ok (.iaload, 1) := by decide +kernel
theorem dL_law_1442 : decode cL_law 1442 = .ok (.invokevirtual 218, 3) := by decide +kernel
theorem dL_law_1445 : decode cL_law 1445 = .ok (.if_icmp .eq 5, 3) := by decide +kernel
theorem dL_law_1448 : decode cL_law 1448 = .ok (.iconst 0, 1) := by decide +kernel
theorem dL_law_1449 : decode cL_law 1449 = .ok (.ireturn, 1) := by decide +kernel
theorem dL_law_1450 : decode cL_law 1450 = .ok (.iinc 3 6, 3) := by decide +kernel
theorem dL_law_1453 : decode cL_law 1453 = .ok (.goto (-1435), 3) := by decide +kernel
theorem dL_law_1456 : decode cL_law 1456 = .ok (.iconst 1, 1) := by decide +kernel
theorem dL_law_1457 : decode cL_law 1457 = .ok (.ireturn, 1) := by decide +kernel
theorem g_fx0 {E : g_E} (j : Nat) : g_r (g_fx E 0 j) := g_rof _
theorem s_L_law_18 {E : g_E} {l : Launch} {nc ns : Nat} {D : g_D} {v3 : Int} (hnc : nc ≤ 600000) (hns : ns ≤ 7302250) (hF : g_okD D → g_r v3 → (g_fl E 0 ≤ 2147483647) ∧ ((g_r (((g_fl E 0 : Nat) : Int) - 6)) ∧ (((((g_fl E 0 : Nat) : Int) - 6) < v3 → True) ∧ (¬ (((g_fl E 0 : Nat) : Int) - 6) < v3 → (0 ≤ (v3 : Int) ∧ (v3 : Int) < g_fl E 0) ∧ (((g_and (g_fx E 0 v3.toNat) 63) = 0 → n_L_law E l nc ns D 248 [some (g_F 0), some (g_R 0), some (g_R 208), some (g_I v3)]) ∧ ((g_and (g_fx E 0 v3.toNat) 63) = 1 → n_L_law E l nc ns D 311 [some (g_F 0), some (g_R 0), some (g_R 208), some (g_I v3)]) ∧ ((g_and (g_fx E 0 v3.toNat) 63) = 2 → n_L_law E l nc ns D 334 [some (g_F 0), some (g_R 0), some (g_R 208), some (g_I v3)]) ∧ ((g_and (g_fx E 0 v3.toNat) 63) = 3 → n_L_law E l nc ns D 357 [some (g_F 0), some (g_R 0), some (g_R 208), some (g_I v3)]) ∧ ((g_and (g_fx E 0 v3.toNat) 63) = 4 → n_L_law E l nc ns D 390 [some (g_F 0), some (g_R 0), some (g_R 208), some (g_I v3)]) ∧ ((g_and (g_fx E 0 v3.toNat) 63) = 5 → n_L_law E l nc ns D 423 [some (g_F 0), some (g_R 0), some (g_R 208), some (g_I v3)]) ∧ ((g_and (g_fx E 0 v3.toNat) 63) = 6 → n_L_law E l nc ns D 446 [some (g_F 0), some (g_R 0), some (g_R 208), some (g_I v3)]) ∧ ((g_and (g_fx E 0 v3.toNat) 63) = 7 → n_L_law E l nc ns D 469 [some (g_F 0), some (g_R 0), some (g_R 208), some (g_I v3)]) ∧ ((g_and (g_fx E 0 v3.toNat) 63) = 8 → n_L_law E l nc ns D 492 [some (g_F 0), some (g_R 0), some (g_R 208), some (g_I v3)]) ∧ ((g_and (g_fx E 0 v3.toNat) 63) = 9 → n_L_law E l nc ns D 525 [some (g_F 0), some (g_R 0), some (g_R 208), some (g_I v3)]) ∧ ((g_and (g_fx E 0 v3.toNat) 63) = 10 → n_L_law E l nc ns D 548 [some (g_F 0), some (g_R 0), some (g_R 208), some (g_I v3)]) ∧ ((g_and (g_fx E 0 v3.toNat) 63) = 11 → n_L_law E l nc ns D 561 [some (g_F 0), some (g_R 0), some (g_R 208), some (g_I v3)]) ∧ ((g_and (g_fx E 0 v3.toNat) 63) = 12 → n_L_law E l nc ns D 574 [some (g_F 0), some (g_R 0), some (g_R 208), some (g_I v3)]) ∧ ((g_and (g_fx E 0 v3.toNat) 63) = 13 → n_L_law E l nc ns D 607 [some (g_F 0), some (g_R 0), some (g_R 208), some (g_I v3)]) ∧ ((g_and (g_fx E 0 v3.toNat) 63) = 14 → n_L_law E l nc ns D 640 [some (g_F 0), some (g_R 0), some (g_R 208), some (g_I v3)]) ∧ ((g_and (g_fx E 0 v3.toNat) 63) = 15 → n_L_law E l nc ns D 653 [some (g_F 0), some (g_R 0), some (g_R 208), some (g_I v3)]) ∧ ((g_and (g_fx E 0 v3.toNat) 63) = 16 → n_L_law E l nc ns D 686 [some (g_F 0), some (g_R 0), some (g_R 208), some (g_I v3)]) ∧ ((g_and (g_fx E 0 v3.toNat) 63) = 17 → n_L_law E l nc ns D 709 [some (g_F 0), some (g_R 0), some (g_R 208), some (g_I v3)]) ∧ ((g_and (g_fx E 0 v3.toNat) 63) = 18 → n_L_law E l nc ns D 722 [some (g_F 0), some (g_R 0), some (g_R 208), some (g_I v3)]) ∧ ((g_and (g_fx E 0 v3.toNat) 63) = 19 → n_L_law E l nc ns D 755 [some (g_F 0), some (g_R 0), some (g_R 208), some (g_I v3)]) ∧ ((g_and (g_fx E 0 v3.toNat) 63) = 20 → n_L_law E l nc ns D 778 [some (g_F 0), some (g_R 0), some (g_R 208), some (g_I v3)]) ∧ ((g_and (g_fx E 0 v3.toNat) 63) = 21 → n_L_law E l nc ns D 801 [some (g_F 0), some (g_R 0), some (g_R 208), some (g_I v3)]) ∧ ((g_and (g_fx E 0 v3.toNat) 63) = 22 → n_L_law E l nc ns D 814 [some (g_F 0), some (g_R 0), some (g_R 208), some (g_I v3)]) ∧ ((g_and (g_fx E 0 v3.toNat) 63) = 23 → n_L_law E l nc ns D 837 [some (g_F 0), some (g_R 0), some (g_R 208), some (g_I v3)]) ∧ ((g_and (g_fx E 0 v3.toNat) 63) = 24 → n_L_law E l nc ns D 850 [some (g_F 0), some (g_R 0), some (g_R 208), some (g_I v3)]) ∧ ((g_and (g_fx E 0 v3.toNat) 63) = 25 → n_L_law E l nc ns D 873 [some (g_F 0), some (g_R 0), some (g_R 208), some (g_I v3)]) ∧ ((g_and (g_fx E 0 v3.toNat) 63) = 26 → n_L_law E l nc ns D 896 [some (g_F 0), some (g_R 0), some (g_R 208), some (g_I v3)]) ∧ ((g_and (g_fx E 0 v3.toNat) 63) = 27 → n_L_law E l nc ns D 909 [some (g_F 0), some (g_R 0), some (g_R 208), some (g_I v3)]) ∧ ((g_and (g_fx E 0 v3.toNat) 63) = 28 → n_L_law E l nc ns D 922 [some (g_F 0), some (g_R 0), some (g_R 208), some (g_I v3)]) ∧ ((g_and (g_fx E 0 v3.toNat) 63) = 29 → n_L_law E l nc ns D 945 [some (g_F 0), some (g_R 0), some (g_R 208), some (g_I v3)]) ∧ ((g_and (g_fx E 0 v3.toNat) 63) = 30 → n_L_law E l nc ns D 968 [some (g_F 0), some (g_R 0), some (g_R 208), some (g_I v3)]) ∧ ((g_and (g_fx E 0 v3.toNat) 63) = 31 → n_L_law E l nc ns D 981 [some (g_F 0), some (g_R 0), some (g_R 208), some (g_I v3)]) ∧ ((g_and (g_fx E 0 v3.toNat) 63) = 32 → n_L_law E l nc ns D 1014 [some (g_F 0), some (g_R 0), some (g_R 208), some (g_I v3)]) ∧ ((g_and (g_fx E 0 v3.toNat) 63) = 33 → n_L_law E l nc ns D 1037 [some (g_F 0), some (g_R 0), some (g_R 208), some (g_I v3)]) ∧ ((g_and (g_fx E 0 v3.toNat) 63) = 34 → n_L_law E l nc ns D 1070 [some (g_F 0), some (g_R 0), some (g_R 208), some (g_I v3)]) ∧ ((g_and (g_fx E 0 v3.toNat) 63) = 35 → n_L_law E l nc ns D 1083 [some (g_F 0), some (g_R 0), some (g_R 208), some (g_I v3)]) ∧ ((g_and (g_fx E 0 v3.toNat) 63) = 36 → n_L_law E l nc ns D 1096 [some (g_F 0), some (g_R 0), some (g_R 208), some (g_I v3)]) ∧ ((g_and (g_fx E 0 v3.toNat) 63) = 37 → n_L_law E l nc ns D 1129 [some (g_F 0), some (g_R 0), some (g_R 208), some (g_I v3)]) ∧ ((g_and (g_fx E 0 v3.toNat) 63) = 38 → n_L_law E l nc ns D 1152 [some (g_F 0), some (g_R 0), some (g_R 208), some (g_I v3)]) ∧ ((g_and (g_fx E 0 v3.toNat) 63) = 39 → n_L_law E l nc ns D 1176 [some (g_F 0), some (g_R 0), some (g_R 208), some (g_I v3)]) ∧ ((g_and (g_fx E 0 v3.toNat) 63) = 40 → n_L_law E l nc ns D 1210 [some (g_F 0), some (g_R 0), some (g_R 208), some (g_I v3)]) ∧ ((g_and (g_fx E 0 v3.toNat) 63) = 41 → n_L_law E l nc ns D 1233 [some (g_F 0), some (g_R 0), some (g_R 208), some (g_I v3)]) ∧ ((g_and (g_fx E 0 v3.toNat) 63) = 42 → n_L_law E l nc ns D 1246 [some (g_F 0), some (g_R 0), some (g_R 208), some (g_I v3)]) ∧ ((g_and (g_fx E 0 v3.toNat) 63) = 43 → n_L_law E l nc ns D 1269 [some (g_F 0), some (g_R 0), some (g_R 208), some (g_I v3)]) ∧ ((g_and (g_fx E 0 v3.toNat) 63) = 44 → n_L_law E l nc ns D 1292 [some (g_F 0), some (g_R 0), some (g_R 208), some (g_I v3)]) ∧ ((g_and (g_fx E 0 v3.toNat) 63) = 45 → n_L_law E l nc ns D 1315 [some (g_F 0), some (g_R 0), some (g_R 208), some (g_I v3)]) ∧ ((g_and (g_fx E 0 v3.toNat) 63) = 46 → n_L_law E l nc ns D 1348 [some (g_F 0), some (g_R 0), some (g_R 208), some (g_I v3)]) ∧ ((g_and (g_fx E 0 v3.toNat) 63) = 47 → n_L_law E l nc ns D 1381 [some (g_F 0), some (g_R 0), some (g_R 208), some (g_I v3)]) ∧ ((g_and (g_fx E 0 v3.toNat) 63) = 48 → n_L_law E l nc ns D 1404 [some (g_F 0), some (g_R 0), some (g_R 208), some (g_I v3)]) ∧ ((g_and (g_fx E 0 v3.toNat) 63) = 49 → n_L_law E l nc ns D 1427 [some (g_F 0), some (g_R 0), some (g_R 208), some (g_I v3)]) ∧ (((g_and (g_fx E 0 v3.toNat) 63) < 0 ∨ 49 < (g_and (g_fx E 0 v3.toNat) 63)) → n_L_law E l nc ns D 1450 [some (g_F 0), some (g_R 0), some (g_R 208), some (g_I v3)])))))) : n_L_law E l nc ns D 18 [some (g_F 0), some (g_R 0), some (g_R 208), some (g_I v3)] := by
  refine g_use (fun ok => ?_)
  have hF := hF ok.2.1 (ok.loc (i := 3) rfl)
  refine g_iload_n dL_law_18 rfl ?_
  refine g_aload_nF dL_law_19 rfl ?_
  obtain ⟨hc, hF⟩ := hF
  refine g_alenF dL_law_20 (by decide) hc ?_
  refine g_bipush dL_law_21 ⟨by decide, by decide⟩ ?_
  obtain ⟨hc, hF⟩ := hF
  refine g_isub dL_law_23 hc ?_
  refine g_cgt dL_law_24 rfl (fun q => ?_) (fun q => ?_)
  · have hF := hF.1 q
    refine g_iconst dL_law_1456 ⟨by decide, by decide⟩ ?_
    exact g_zret dL_law_1457 rfl (by decide) hnc hns rfl
  · have hF := hF.2 q
    refine g_aload_nF dL_law_27 rfl ?_
    refine g_iload_n dL_law_28 rfl ?_
    obtain ⟨hc, hF⟩ := hF
    refine g_ialdF dL_law_29 (by decide) hc.1 hc.2 (g_fx0 _) ?_
    refine g_bipush dL_law_30 ⟨by decide, by decide⟩ ?_
    refine g_iand dL_law_32 ?_
    rcases Decidable.em ((g_and (g_fx E 0 v3.toNat) 63) = 0) with q33_0 | q33_0
    · have hF := hF.1 q33_0
      refine g_tsIn dL_law_33 (by omega) (by omega) (by rw [q33_0] <;> rfl) rfl ?_
      exact hF
    rcases Decidable.em ((g_and (g_fx E 0 v3.toNat) 63) = 1) with q33_1 | q33_1
    · have hF := hF.2.1 q33_1
      refine g_tsIn dL_law_33 (by omega) (by omega) (by rw [q33_1] <;> rfl) rfl ?_
      exact hF
    rcases Decidable.em ((g_and (g_fx E 0 v3.toNat) 63) = 2) with q33_2 | q33_2
    · have hF := hF.2.2.1 q33_2
      refine g_tsIn dL_law_33 (by omega) (by omega) (by rw [q33_2] <;> rfl) rfl ?_
      exact hF
    rcases Decidable.em ((g_and (g_fx E 0 v3.toNat) 63) = 3) with q33_3 | q33_3
    · have hF := hF.2.2.2.1 q33_3
      refine g_tsIn dL_law_33 (by omega) (by omega) (by rw [q33_3] <;> rfl) rfl ?_
      exact hF
    rcases Decidable.em ((g_and (g_fx E 0 v3.toNat) 63) = 4) with q33_4 | q33_4
    · have hF := hF.2.2.2.2.1 q33_4
      refine g_tsIn dL_law_33 (by omega) (by omega) (by rw [q33_4] <;> rfl) rfl ?_
      exact hF
    rcases Decidable.em ((g_and (g_fx E 0 v3.toNat) 63) = 5) with q33_5 | q33_5
    · have hF := hF.2.2.2.2.2.1 q33_5
      refine g_tsIn dL_law_33 (by omega) (by omega) (by rw [q33_5] <;> rfl) rfl ?_
      exact hF
    rcases Decidable.em ((g_and (g_fx E 0 v3.toNat) 63) = 6) with q33_6 | q33_6
    · have hF := hF.2.2.2.2.2.2.1 q33_6
      refine g_tsIn dL_law_33 (by omega) (by omega) (by rw [q33_6] <;> rfl) rfl ?_
      exact hF
    rcases Decidable.em ((g_and (g_fx E 0 v3.toNat) 63) = 7) with q33_7 | q33_7
    · have hF := hF.2.2.2.2.2.2.2.1 q33_7
      refine g_tsIn dL_law_33 (by omega) (by omega) (by rw [q33_7] <;> rfl) rfl ?_
      exact hF
    rcases Decidable.em ((g_and (g_fx E 0 v3.toNat) 63) = 8) with q33_8 | q33_8
    · have hF := hF.2.2.2.2.2.2.2.2.1 q33_8
      refine g_tsIn dL_law_33 (by omega) (by omega) (by rw [q33_8] <;> rfl) rfl ?_
      exact hF
    rcases Decidable.em ((g_and (g_fx E 0 v3.toNat) 63) = 9) with q33_9 | q33_9
    · have hF := hF.2.2.2.2.2.2.2.2.2.1 q33_9
      refine g_tsIn dL_law_33 (by omega) (by omega) (by rw [q33_9] <;> rfl) rfl ?_
      exact hF
    rcases Decidable.em ((g_and (g_fx E 0 v3.toNat) 63) = 10) with q33_10 | q33_10
    · have hF := hF.2.2.2.2.2.2.2.2.2.2.1 q33_10
      refine g_tsIn dL_law_33 (by omega) (by omega) (by rw [q33_10] <;> rfl) rfl ?_
      exact hF
    rcases Decidable.em ((g_and (g_fx E 0 v3.toNat) 63) = 11) with q33_11 | q33_11
    · have hF := hF.2.2.2.2.2.2.2.2.2.2.2.1 q33_11
      refine g_tsIn dL_law_33 (by omega) (by omega) (by rw [q33_11] <;> rfl) rfl ?_
      exact hF
    rcases Decidable.em ((g_and (g_fx E 0 v3.toNat) 63) = 12) with q33_12 | q33_12
    · have hF := hF.2.2.2.2.2.2.2.2.2.2.2.2.1 q33_12
      refine g_tsIn dL_law_33 (by omega) (by omega) (by rw [q33_12] <;> rfl) rfl ?_
      exact hF
    rcases Decidable.em ((g_and (g_fx E 0 v3.toNat) 63) = 13) with q33_13 | q33_13
    · have hF := hF.2.2.2.2.2.2.2.2.2.2.2.2.2.1 q33_13
      refine g_tsIn dL_law_33 (by omega) (by omega) (by rw [q33_13] <;> rfl) rfl ?_
      exact hF
    rcases Decidable.em ((g_and (g_fx E 0 v3.toNat) 63) = 14) with q33_14 | q33_14
    · have hF := hF.2.2.2.2.2.2.2.2.2.2.2.2.2.2.1 q33_14
      refine g_tsIn dL_law_33 (by omega) (by omega) (by rw [q33_14] <;> rfl) rfl ?_
      exact hF
    rcases Decidable.em ((g_and (g_fx E 0 v3.toNat) 63) = 15) with q33_15 | q33_15
    · have hF := hF.2.2.2.2.2.2.2.2.2.2.2.2.2.2.2.1 q33_15
      refine g_tsIn dL_law_33 (by omega) (by omega) (by rw [q33_15] <;> rfl) rfl ?_
      exact hF
    rcases Decidable.em ((g_and (g_fx E 0 v3.toNat) 63) = 16) with q33_16 | q33_16
    · have hF := hF.2.2.2.2.2.2.2.2.2.2.2.2.2.2.2.2.1 q33_16
      refine g_tsIn dL_law_33 (by omega) (by omega) (by rw [q33_16] <;> rfl) rfl ?_
      exact hF
    rcases Decidable.em ((g_and (g_fx E 0 v3.toNat) 63) = 17) with q33_17 | q33_17
    · have hF := hF.2.2.2.2.2.2.2.2.2.2.2.2.2.2.2.2.2.1 q33_17
      refine g_tsIn dL_law_33 (by omega) (by omega) (by rw [q33_17] <;> rfl) rfl ?_
      exact hF
    rcases Decidable.em ((g_and (g_fx E 0 v3.toNat) 63) = 18) with q33_18 | q33_18
    · have hF := hF.2.2.2.2.2.2.2.2.2.2.2.2.2.2.2.2.2.2.1 q33_18
      refine g_tsIn dL_law_33 (by omega) (by omega) (by rw [q33_18] <;> rfl) rfl ?_
      exact hF
    rcases Decidable.em ((g_and (g_fx E 0 v3.toNat) 63) = 19) with q33_19 | q33_19
    · have hF := hF.2.2.2.2.2.2.2.2.2.2.2.2.2.2.2.2.2.2.2.1 q33_19
      refine g_tsIn dL_law_33 (by omega) (by omega) (by rw [q33_19] <;> rfl) rfl ?_
      exact hF
    rcases Decidable.em ((g_and (g_fx E 0 v3.toNat) 63) = 20) with q33_20 | q33_20
    · have hF := hF.2.2.2.2.2.2.2.2.2.2.2.2.2.2.2.2.2.2.2.2.1 q33_20
      refine g_tsIn dL_law_33 (by omega) (by omega) (by rw [q33_20] <;> rfl) rfl ?_
      exact hF
    rcases Decidable.em ((g_and (g_fx E 0 v3.toNat) 63) = 21) with q33_21 | q33_21
    · have hF := hF.2.2.2.2.2.2.2.2.2.2.2.2.2.2.2.2.2.2.2.2.2.1 q33_21
      refine g_tsIn dL_law_33 (by omega) (by omega) (by rw [q33_21] <;> rfl) rfl ?_
      exact hF
    rcases Decidable.em ((g_and (g_fx E 0 v3.toNat) 63) = 22) with q33_22 | q33_22
    · have hF := hF.2.2.2.2.2.2.2.2.2.2.2.2.2.2.2.2.2.2.2.2.2.2.1 q33_22
      refine g_tsIn dL_law_33 (by omega) (by omega) (by rw [q33_22] <;> rfl) rfl ?_
      exact hF
    rcases Decidable.em ((g_and (g_fx E 0 v3.toNat) 63) = 23) with q33_23 | q33_23
    · have hF := hF.2.2.2.2.2.2.2.2.2.2.2.2.2.2.2.2.2.2.2.2.2.2.2.1 q33_23
      refine g_tsIn dL_law_33 (by omega) (by omega) (by rw [q33_23] <;> rfl) rfl ?_
      exact hF
    rcases Decidable.em ((g_and (g_fx E 0 v3.toNat) 63) = 24) with q33_24 | q33_24
    · have hF := hF.2.2.2.2.2.2.2.2.2.2.2.2.2.2.2.2.2.2.2.2.2.2.2.2.1 q33_24
      refine g_tsIn dL_law_33 (by omega) (by omega) (by rw [q33_24] <;> rfl) rfl ?_
      exact hF
    rcases Decidable.em ((g_and (g_fx E 0 v3.toNat) 63) = 25) with q33_25 | q33_25
    · have hF := hF.2.2.2.2.2.2.2.2.2.2.2.2.2.2.2.2.2.2.2.2.2.2.2.2.2.1 q33_25
      refine g_tsIn dL_law_33 (by omega) (by omega) (by rw [q33_25] <;> rfl) rfl ?_
      exact hF
    rcases Decidable.em ((g_and (g_fx E 0 v3.toNat) 63) = 26) with q33_26 | q33_26
    · have hF := hF.2.2.2.2.2.2.2.2.2.2.2.2.2.2.2.2.2.2.2.2.2.2.2.2.2.2.1 q33_26
      refine g_tsIn dL_law_33 (by omega) (by omega) (by rw [q33_26] <;> rfl) rfl ?_
      exact hF
    rcases Decidable.em ((g_and (g_fx E 0 v3.toNat) 63) = 27) with q33_27 | q33_27
    · have hF := hF.2.2.2.2.2.2.2.2.2.2.2.2.2.2.2.2.2.2.2.2.2.2.2.2.2.2.2.1 q33_27
      refine g_tsIn dL_law_33 (by omega) (by omega) (by rw [q33_27] <;> rfl) rfl ?_
      exact hF
    rcases Decidable.em ((g_and (g_fx E 0 v3.toNat) 63) = 28) with q33_28 | q33_28
    · have hF := hF.2.2.2.2.2.2.2.2.2.2.2.2.2.2.2.2.2.2.2.2.2.2.2.2.2.2.2.2.1 q33_28
      refine g_tsIn dL_law_33 (by omega) (by omega) (by rw [q33_28] <;> rfl) rfl ?_
      exact hF
    rcases Decidable.em ((g_and (g_fx E 0 v3.toNat) 63) = 29) with q33_29 | q33_29
    · have hF := hF.2.2.2.2.2.2.2.2.2.2.2.2.2.2.2.2.2.2.2.2.2.2.2.2.2.2.2.2.2.1 q33_29
      refine g_tsIn dL_law_33 (by omega) (by omega) (by rw [q33_29] <;> rfl) rfl ?_
      exact hF
    rcases Decidable.em ((g_and (g_fx E 0 v3.toNat) 63) = 30) with q33_30 | q33_30
    · have hF := hF.2.2.2.2.2.2.2.2.2.2.2.2.2.2.2.2.2.2.2.2.2.2.2.2.2.2.2.2.2.2.1 q33_30
      refine g_tsIn dL_law_33 (by omega) (by omega) (by rw [q33_30] <;> rfl) rfl ?_
      exact hF
    rcases Decidable.em ((g_and (g_fx E 0 v3.toNat) 63) = 31) with q33_31 | q33_31
    · have hF := hF.2.2.2.2.2.2.2.2.2.2.2.2.2.2.2.2.2.2.2.2.2.2.2.2.2.2.2.2.2.2.2.1 q33_31
      refine g_tsIn dL_law_33 (by omega) (by omega) (by rw [q33_31] <;> rfl) rfl ?_
      exact hF
    rcases Decidable.em ((g_and (g_fx E 0 v3.toNat) 63) = 32) with q33_32 | q33_32
    · have hF := hF.2.2.2.2.2.2.2.2.2.2.2.2.2.2.2.2.2.2.2.2.2.2.2.2.2.2.2.2.2.2.2.2.1 q33_32
      refine g_tsIn dL_law_33 (by omega) (by omega) (by rw [q33_32] <;> rfl) rfl ?_
      exact hF
    rcases Decidable.em ((g_and (g_fx E 0 v3.toNat) 63) = 33) with q33_33 | q33_33
    · have hF := hF.2.2.2.2.2.2.2.2.2.2.2.2.2.2.2.2.2.2.2.2.2.2.2.2.2.2.2.2.2.2.2.2.2.1 q33_33
      refine g_tsIn dL_law_33 (by omega) (by omega) (by rw [q33_33] <;> rfl) rfl ?_
      exact hF
    rcases Decidable.em ((g_and (g_fx E 0 v3.toNat) 63) = 34) with q33_34 | q33_34
    · have hF := hF.2.2.2.2.2.2.2.2.2.2.2.2.2.2.2.2.2.2.2.2.2.2.2.2.2.2.2.2.2.2.2.2.2.2.1 q33_34
      refine g_tsIn dL_law_33 (by omega) (by omega) (by rw [q33_34] <;> rfl) rfl ?_
      exact hF
    rcases Decidable.em ((g_and (g_fx E 0 v3.toNat) 63) = 35) with q33_35 | q33_35
    · have hF := hF.2.2.2.2.2.2.2.2.2.2.2.2.2.2.2.2.2.2.2.2.2.2.2.2.2.2.2.2.2.2.2.2.2.2.2.1 q33_35
      refine g_tsIn dL_law_33 (by omega) (by omega) (by rw [q33_35] <;> rfl) rfl ?_
      exact hF
    rcases Decidable.em ((g_and (g_fx E 0 v3.toNat) 63) = 36) with q33_36 | q33_36
    · have hF := hF.2.2.2.2.2.2.2.2.2.2.2.2.2.2.2.2.2.2.2.2.2.2.2.2.2.2.2.2.2.2.2.2.2.2.2.2.1 q33_36
      refine g_tsIn dL_law_33 (by omega) (by omega) (by rw [q33_36] <;> rfl) rfl ?_
      exact hF
    rcases Decidable.em ((g_and (g_fx E 0 v3.toNat) 63) = 37) with q33_37 | q33_37
    · have hF := hF.2.2.2.2.2.2.2.2.2.2.2.2.2.2.2.2.2.2.2.2.2.2.2.2.2.2.2.2.2.2.2.2.2.2.2.2.2.1 q33_37
      refine g_tsIn dL_law_33 (by omega) (by omega) (by rw [q33_37] <;> rfl) rfl ?_
      exact hF
    rcases Decidable.em ((g_and (g_fx E 0 v3.toNat) 63) = 38) with q33_38 | q33_38
    · have hF := hF.2.2.2.2.2.2.2.2.2.2.2.2.2.2.2.2.2.2.2.2.2.2.2.2.2.2.2.2.2.2.2.2.2.2.2.2.2.2.1 q33_38
      refine g_tsIn dL_law_33 (by omega) (by omega) (by rw [q33_38] <;> rfl) rfl ?_
      exact hF
    rcases Decidable.em ((g_and (g_fx E 0 v3.toNat) 63) = 39) with q33_39 | q33_39
    · have hF := hF.2.2.2.2.2.2.2.2.2.2.2.2.2.2.2.2.2.2.2.2.2.2.2.2.2.2.2.2.2.2.2.2.2.2.2.2.2.2.2.1 q33_39
      refine g_tsIn dL_law_33 (by omega) (by omega) (by rw [q33_39] <;> rfl) rfl ?_
      exact hF
    rcases Decidable.em ((g_and (g_fx E 0 v3.toNat) 63) = 40) with q33_40 | q33_40
    · have hF := hF.2.2.2.2.2.2.2.2.2.2.2.2.2.2.2.2.2.2.2.2.2.2.2.2.2.2.2.2.2.2.2.2.2.2.2.2.2.2.2.2.1 q33_40
      refine g_tsIn dL_law_33 (by omega) (by omega) (by rw [q33_40] <;> rfl) rfl ?_
      exact hF
    rcases Decidable.em ((g_and (g_fx E 0 v3.toNat) 63) = 41) with q33_41 | q33_41
    · have hF := hF.2.2.2.2.2.2.2.2.2.2.2.2.2.2.2.2.2.2.2.2.2.2.2.2.2.2.2.2.2.2.2.2.2.2.2.2.2.2.2.2.2.1 q33_41
      refine g_tsIn dL_law_33 (by omega) (by omega) (by rw [q33_41] <;> rfl) rfl ?_
      exact hF
    rcases Decidable.em ((g_and (g_fx E 0 v3.toNat) 63) = 42) with q33_42 | q33_42
    · have hF := hF.2.2.2.2.2.2.2.2.2.2.2.2.2.2.2.2.2.2.2.2.2.2.2.2.2.2.2.2.2.2.2.2.2.2.2.2.2.2.2.2.2.2.1 q33_42
      refine g_tsIn dL_law_33 (by omega) (by omega) (by rw [q33_42] <;> rfl) rfl ?_
      exact hF
    rcases Decidable.em ((g_and (g_fx E 0 v3.toNat) 63) = 43) with q33_43 | q33_43
    · have hF := hF.2.2.2.2.2.2.2.2.2.2.2.2.2.2.2.2.2.2.2.2.2.2.2.2.2.2.2.2.2.2.2.2.2.2.2.2.2.2.2.2.2.2.2.1 q33_43
      refine g_tsIn dL_law_33 (by omega) (by omega) (by rw [q33_43] <;> rfl) rfl ?_
      exact hF
    rcases Decidable.em ((g_and (g_fx E 0 v3.toNat) 63) = 44) with q33_44 | q33_44
    · have hF := hF.2.2.2.2.2.2.2.2.2.2.2.2.2.2.2.2.2.2.2.2.2.2.2.2.2.2.2.2.2.2.2.2.2.2.2.2.2.2.2.2.2.2.2.2.1 q33_44
      refine g_tsIn dL_law_33 (by omega) (by omega) (by rw [q33_44] <;> rfl) rfl ?_
      exact hF
    rcases Decidable.em ((g_and (g_fx E 0 v3.toNat) 63) = 45) with q33_45 | q33_45
    · have hF := hF.2.2.2.2.2.2.2.2.2.2.2.2.2.2.2.2.2.2.2.2.2.2.2.2.2.2.2.2.2.2.2.2.2.2.2.2.2.2.2.2.2.2.2.2.2.1 q33_45
      refine g_tsIn dL_law_33 (by omega) (by omega) (by rw [q33_45] <;> rfl) rfl ?_
      exact hF
    rcases Decidable.em ((g_and (g_fx E 0 v3.toNat) 63) = 46) with q33_46 | q33_46
    · have hF := hF.2.2.2.2.2.2.2.2.2.2.2.2.2.2.2.2.2.2.2.2.2.2.2.2.2.2.2.2.2.2.2.2.2.2.2.2.2.2.2.2.2.2.2.2.2.2.1 q33_46
      refine g_tsIn dL_law_33 (by omega) (by omega) (by rw [q33_46] <;> rfl) rfl ?_
      exact hF
    rcases Decidable.em ((g_and (g_fx E 0 v3.toNat) 63) = 47) with q33_47 | q33_47
    · have hF := hF.2.2.2.2.2.2.2.2.2.2.2.2.2.2.2.2.2.2.2.2.2.2.2.2.2.2.2.2.2.2.2.2.2.2.2.2.2.2.2.2.2.2.2.2.2.2.2.1 q33_47
      refine g_tsIn dL_law_33 (by omega) (by omega) (by rw [q33_47] <;> rfl) rfl ?_
      exact hF
    rcases Decidable.em ((g_and (g_fx E 0 v3.toNat) 63) = 48) with q33_48 | q33_48
    · have hF := hF.2.2.2.2.2.2.2.2.2.2.2.2.2.2.2.2.2.2.2.2.2.2.2.2.2.2.2.2.2.2.2.2.2.2.2.2.2.2.2.2.2.2.2.2.2.2.2.2.1 q33_48
      refine g_tsIn dL_law_33 (by omega) (by omega) (by rw [q33_48] <;> rfl) rfl ?_
      exact hF
    rcases Decidable.em ((g_and (g_fx E 0 v3.toNat) 63) = 49) with q33_49 | q33_49
    · have hF := hF.2.2.2.2.2.2.2.2.2.2.2.2.2.2.2.2.2.2.2.2.2.2.2.2.2.2.2.2.2.2.2.2.2.2.2.2.2.2.2.2.2.2.2.2.2.2.2.2.2.1 q33_49
      refine g_tsIn dL_law_33 (by omega) (by omega) (by rw [q33_49] <;> rfl) rfl ?_
      exact hF
    have q33 : (g_and (g_fx E 0 v3.toNat) 63) < 0 ∨ 49 < (g_and (g_fx E 0 v3.toNat) 63) := by omega
    have hF := hF.2.2.2.2.2.2.2.2.2.2.2.2.2.2.2.2.2.2.2.2.2.2.2.2.2.2.2.2.2.2.2.2.2.2.2.2.2.2.2.2.2.2.2.2.2.2.2.2.2.2 q33
    refine g_tsOut dL_law_33 q33 rfl ?_
    exact hF
theorem s_L_law_248 {E : g_E} {l : Launch} {nc ns : Nat} {D : g_D} {v3 : Int} (hnc : nc ≤ 600000) (hns : ns ≤ 7302250) (hF : g_okD D → g_r v3 → (g_r (v3 + 1)) ∧ ((0 ≤ ((v3 + 1) : Int) ∧ ((v3 + 1) : Int) < g_fl E 0) ∧ ((g_r (v3 + 2)) ∧ ((0 ≤ ((v3 + 2) : Int) ∧ ((v3 + 2) : Int) < g_fl E 0) ∧ ((g_r (v3 + 3)) ∧ ((0 ≤ ((v3 + 3) : Int) ∧ ((v3 + 3) : Int) < g_fl E 0) ∧ ((g_r (v3 + 4)) ∧ ((0 ≤ ((v3 + 4) : Int) ∧ ((v3 + 4) : Int) < g_fl E 0) ∧ ((g_r (v3 + 5)) ∧ ((0 ≤ ((v3 + 5) : Int) ∧ ((v3 + 5) : Int) < g_fl E 0) ∧ (k_X11_feed E l D (g_fx E 0 (v3 + 1).toNat) (g_fx E 0 (v3 + 2).toNat) (g_fx E 0 (v3 + 3).toNat) (g_fx E 0 (v3 + 4).toNat) (g_fx E 0 (v3 + 5).toNat) (fun x1 D1 => g_r x1 → (g_r (v3 + 1)) ∧ ((0 ≤ ((v3 + 1) : Int) ∧ ((v3 + 1) : Int) < g_fl E 0) ∧ ((g_r (v3 + 2)) ∧ ((0 ≤ ((v3 + 2) : Int) ∧ ((v3 + 2) : Int) < g_fl E 0) ∧ ((g_r (v3 + 3)) ∧ ((0 ≤ ((v3 + 3) : Int) ∧ ((v3 + 3) : Int) < g_fl E 0) ∧ ((g_r (v3 + 4)) ∧ ((0 ≤ ((v3 + 4) : Int) ∧ ((v3 + 4) : Int) < g_fl E 0) ∧ ((g_r (v3 + 5)) ∧ ((0 ≤ ((v3 + 5) : Int) ∧ ((v3 + 5) : Int) < g_fl E 0) ∧ (k_X12_feed E l D1 (g_fx E 0 (v3 + 1).toNat) (g_fx E 0 (v3 + 2).toNat) (g_fx E 0 (v3 + 3).toNat) (g_fx E 0 (v3 + 4).toNat) (g_fx E 0 (v3 + 5).toNat) (fun x2 D2 => g_r x2 → (x1 = x2 → n_L_law E l nc ns D2 1450 [some (g_F 0), some (g_R 0), some (g_R 208), some (g_I v3)]) ∧ (¬ x1 = x2 → False)))))))))))))))))))))))) : n_L_law E l nc ns D 248 [some (g_F 0), some (g_R 0), some (g_R 208), some (g_I v3)] := by
  refine g_use (fun ok => ?_)
  have hF := hF ok.2.1 (ok.loc (i := 3) rfl)
  refine g_aload_n dL_law_248 rfl ?_
  refine g_aload_nF dL_law_249 rfl ?_
  refine g_iload_n dL_law_250 rfl ?_
  refine g_iconst dL_law_251 ⟨by decide, by decide⟩ ?_
  obtain ⟨hc, hF⟩ := hF
  refine g_iadd dL_law_252 hc ?_
  obtain ⟨hc, hF⟩ := hF
  refine g_ialdF dL_law_253 (by decide) hc.1 hc.2 (g_fx0 _) ?_
  refine g_aload_nF dL_law_254 rfl ?_
  refine g_iload_n dL_law_255 rfl ?_
  refine g_iconst dL_law_256 ⟨by decide, by decide⟩ ?_
  obtain ⟨hc, hF⟩ := hF
  refine g_iadd dL_law_257 hc ?_
  obtain ⟨hc, hF⟩ := hF
  refine g_ialdF dL_law_258 (by decide) hc.1 hc.2 (g_fx0 _) ?_
  refine g_aload_nF dL_law_259 rfl ?_
  refine g_iload_n dL_law_260 rfl ?_
  refine g_iconst dL_law_261 ⟨by decide, by decide⟩ ?_
  obtain ⟨hc, hF⟩ := hF
  refine g_iadd dL_law_262 hc ?_
  obtain ⟨hc, hF⟩ := hF
  refine g_ialdF dL_law_263 (by decide) hc.1 hc.2 (g_fx0 _) ?_
  refine g_aload_nF dL_law_264 rfl ?_
  refine g_iload_n dL_law_265 rfl ?_
  refine g_iconst dL_law_266 ⟨by decide, by decide⟩ ?_
  obtain ⟨hc, hF⟩ := hF
  refine g_iadd dL_law_267 hc ?_
  obtain ⟨hc, hF⟩ := hF
  refine g_ialdF dL_law_268 (by decide) hc.1 hc.2 (g_fx0 _) ?_
  refine g_aload_nF dL_law_269 rfl ?_
  refine g_iload_n dL_law_270 rfl ?_
  refine g_iconst dL_law_271 ⟨by decide, by decide⟩ ?_
  obtain ⟨hc, hF⟩ := hF
  refine g_iadd dL_law_272 hc ?_
  obtain ⟨hc, hF⟩ := hF
  refine g_ialdF dL_law_273 (by decide) hc.1 hc.2 (g_fx0 _) ?_
  refine gl_cVi (b := 0) (As := [g_I (g_fx E 0 (v3 + 1).toNat), g_I (g_fx E 0 (v3 + 2).toNat), g_I (g_fx E 0 (v3 + 3).toNat), g_I (g_fx E 0 (v3 + 4).toNat), g_I (g_fx E 0 (v3 + 5).toNat)]) (rest := []) dL_law_274 mv_L_13 sh_0 rfl (Nat.le_of_ble_eq_true rfl) (by decide) hnc hns rfl hF ?_
  intro x1 D1 hx1 hF
  have hF := hF hx1
  refine g_aload_n dL_law_277 rfl ?_
  refine g_aload_nF dL_law_278 rfl ?_
  refine g_iload_n dL_law_279 rfl ?_
  refine g_iconst dL_law_280 ⟨by decide, by decide⟩ ?_
  obtain ⟨hc, hF⟩ := hF
  refine g_iadd dL_law_281 hc ?_
  obtain ⟨hc, hF⟩ := hF
  refine g_ialdF dL_law_282 (by decide) hc.1 hc.2 (g_fx0 _) ?_
  refine g_aload_nF dL_law_283 rfl ?_
  refine g_iload_n dL_law_284 rfl ?_
  refine g_iconst dL_law_285 ⟨by decide, by decide⟩ ?_
  obtain ⟨hc, hF⟩ := hF
  refine g_iadd dL_law_286 hc ?_
  obtain ⟨hc, hF⟩ := hF
  refine g_ialdF dL_law_287 (by decide) hc.1 hc.2 (g_fx0 _) ?_
  refine g_aload_nF dL_law_288 rfl ?_
  refine g_iload_n dL_law_289 rfl ?_
  refine g_iconst dL_law_290 ⟨by decide, by decide⟩ ?_
  obtain ⟨hc, hF⟩ := hF
  refine g_iadd dL_law_291 hc ?_
  obtain ⟨hc, hF⟩ := hF
  refine g_ialdF dL_law_292 (by decide) hc.1 hc.2 (g_fx0 _) ?_
  refine g_aload_nF dL_law_293 rfl ?_
  refine g_iload_n dL_law_294 rfl ?_
  refine g_iconst dL_law_295 ⟨by decide, by decide⟩ ?_
  obtain ⟨hc, hF⟩ := hF
  refine g_iadd dL_law_296 hc ?_
  obtain ⟨hc, hF⟩ := hF
  refine g_ialdF dL_law_297 (by decide) hc.1 hc.2 (g_fx0 _) ?_
  refine g_aload_nF dL_law_298 rfl ?_
  refine g_iload_n dL_law_299 rfl ?_
  refine g_iconst dL_law_300 ⟨by decide, by decide⟩ ?_
  obtain ⟨hc, hF⟩ := hF
  refine g_iadd dL_law_301 hc ?_
  obtain ⟨hc, hF⟩ := hF
  refine g_ialdF dL_law_302 (by decide) hc.1 hc.2 (g_fx0 _) ?_
  refine gl_cVi (b := 208) (As := [g_I (g_fx E 0 (v3 + 1).toNat), g_I (g_fx E 0 (v3 + 2).toNat), g_I (g_fx E 0 (v3 + 3).toNat), g_I (g_fx E 0 (v3 + 4).toNat), g_I (g_fx E 0 (v3 + 5).toNat)]) (rest := [g_I x1]) dL_law_303 mv_L_17 sh_208 rfl (Nat.le_of_ble_eq_true rfl) (by decide) hnc hns rfl hF ?_
  intro x2 D2 hx2 hF
  have hF := hF hx2
  refine g_ceq dL_law_306 rfl (fun q => ?_) (fun q => ?_)
  · have hF := hF.1 q
    exact hF
  · have hF := hF.2 q
    refine g_iconst dL_law_309 ⟨by decide, by decide⟩ ?_
    exact hF.elim
theorem s_L_law_311 {E : g_E} {l : Launch} {nc ns : Nat} {D : g_D} {v3 : Int} (hnc : nc ≤ 600000) (hns : ns ≤ 7302250) (hF : g_okD D → g_r v3 → (g_r (v3 + 1)) ∧ ((0 ≤ ((v3 + 1) : Int) ∧ ((v3 + 1) : Int) < g_fl E 0) ∧ (k_X11_old E l D (g_fx E 0 (v3 + 1).toNat) (fun x1 D1 => g_r x1 → (g_r (v3 + 1)) ∧ ((0 ≤ ((v3 + 1) : Int) ∧ ((v3 + 1) : Int) < g_fl E 0) ∧ (k_X12_old E l D1 (g_fx E 0 (v3 + 1).toNat) (fun x2 D2 => g_r x2 → (x1 = x2 → n_L_law E l nc ns D2 1450 [some (g_F 0), some (g_R 0), some (g_R 208), some (g_I v3)]) ∧ (¬ x1 = x2 → False)))))))) : n_L_law E l nc ns D 311 [some (g_F 0), some (g_R 0), some (g_R 208), some (g_I v3)] := by
  refine g_use (fun ok => ?_)
  have hF := hF ok.2.1 (ok.loc (i := 3) rfl)
  refine g_aload_n dL_law_311 rfl ?_
  refine g_aload_nF dL_law_312 rfl ?_
  refine g_iload_n dL_law_313 rfl ?_
  refine g_iconst dL_law_314 ⟨by decide, by decide⟩ ?_
  obtain ⟨hc, hF⟩ := hF
  refine g_iadd dL_law_315 hc ?_
  obtain ⟨hc, hF⟩ := hF
  refine g_ialdF dL_law_316 (by decide) hc.1 hc.2 (g_fx0 _) ?_
  refine gl_cVi (b := 0) (As := [g_I (g_fx E 0 (v3 + 1).toNat)]) (rest := []) dL_law_317 mv_L_18 sh_0 rfl (Nat.le_of_ble_eq_true rfl) (by decide) hnc hns rfl hF ?_
  intro x1 D1 hx1 hF
  have hF := hF hx1
  refine g_aload_n dL_law_320 rfl ?_
  refine g_aload_nF dL_law_321 rfl ?_
  refine g_iload_n dL_law_322 rfl ?_
  refine g_iconst dL_law_323 ⟨by decide, by decide⟩ ?_
  obtain ⟨hc, hF⟩ := hF
  refine g_iadd dL_law_324 hc ?_
  obtain ⟨hc, hF⟩ := hF
  refine g_ialdF dL_law_325 (by decide) hc.1 hc.2 (g_fx0 _) ?_
  refine gl_cVi (b := 208) (As := [g_I (g_fx E 0 (v3 + 1).toNat)]) (rest := [g_I x1]) dL_law_326 mv_L_22 sh_208 rfl (Nat.le_of_ble_eq_true rfl) (by decide) hnc hns rfl hF ?_
  intro x2 D2 hx2 hF
  have hF := hF hx2
  refine g_ceq dL_law_329 rfl (fun q => ?_) (fun q => ?_)
  · have hF := hF.1 q
    exact hF
  · have hF := hF.2 q
    refine g_iconst dL_law_332 ⟨by decide, by decide⟩ ?_
    exact hF.elim
theorem s_L_law_334 {E : g_E} {l : Launch} {nc ns : Nat} {D : g_D} {v3 : Int} (hnc : nc ≤ 600000) (hns : ns ≤ 7302250) (hF : g_okD D → g_r v3 → (g_r (v3 + 1)) ∧ ((0 ≤ ((v3 + 1) : Int) ∧ ((v3 + 1) : Int) < g_fl E 0) ∧ (k_X11_fresh E l D (g_fx E 0 (v3 + 1).toNat) (fun x1 D1 => g_r x1 → (g_r (v3 + 1)) ∧ ((0 ≤ ((v3 + 1) : Int) ∧ ((v3 + 1) : Int) < g_fl E 0) ∧ (k_X12_fresh E l D1 (g_fx E 0 (v3 + 1).toNat) (fun x2 D2 => g_r x2 → (x1 = x2 → n_L_law E l nc ns D2 1450 [some (g_F 0), some (g_R 0), some (g_R 208), some (g_I v3)]) ∧ (¬ x1 = x2 → False)))))))) : n_L_law E l nc ns D 334 [some (g_F 0), some (g_R 0), some (g_R 208), some (g_I v3)] := by
  refine g_use (fun ok => ?_)
  have hF := hF ok.2.1 (ok.loc (i := 3) rfl)
  refine g_aload_n dL_law_334 rfl ?_
  refine g_aload_nF dL_law_335 rfl ?_
  refine g_iload_n dL_law_336 rfl ?_
  refine g_iconst dL_law_337 ⟨by decide, by decide⟩ ?_
  obtain ⟨hc, hF⟩ := hF
  refine g_iadd dL_law_338 hc ?_
  obtain ⟨hc, hF⟩ := hF
  refine g_ialdF dL_law_339 (by decide) hc.1 hc.2 (g_fx0 _) ?_
  refine gl_cVi (b := 0) (As := [g_I (g_fx E 0 (v3 + 1).toNat)]) (rest := []) dL_law_340 mv_L_23 sh_0 rfl (Nat.le_of_ble_eq_true rfl) (by decide) hnc hns rfl hF ?_
  intro x1 D1 hx1 hF
  have hF := hF hx1
  refine g_aload_n dL_law_343 rfl ?_
  refine g_aload_nF dL_law_344 rfl ?_
  refine g_iload_n dL_law_345 rfl ?_
  refine g_iconst dL_law_346 ⟨by decide, by decide⟩ ?_
  obtain ⟨hc, hF⟩ := hF
  refine g_iadd dL_law_347 hc ?_
  obtain ⟨hc, hF⟩ := hF
  refine g_ialdF dL_law_348 (by decide) hc.1 hc.2 (g_fx0 _) ?_
  refine gl_cVi (b := 208) (As := [g_I (g_fx E 0 (v3 + 1).toNat)]) (rest := [g_I x1]) dL_law_349 mv_L_26 sh_208 rfl (Nat.le_of_ble_eq_true rfl) (by decide) hnc hns rfl hF ?_
  intro x2 D2 hx2 hF
  have hF := hF hx2
  refine g_ceq dL_law_352 rfl (fun q => ?_) (fun q => ?_)
  · have hF := hF.1 q
    exact hF
  · have hF := hF.2 q
    refine g_iconst dL_law_355 ⟨by decide, by decide⟩ ?_
    exact hF.elim
theorem s_L_law_357 {E : g_E} {l : Launch} {nc ns : Nat} {D : g_D} {v3 : Int} (hnc : nc ≤ 600000) (hns : ns ≤ 7302250) (hF : g_okD D → g_r v3 → (g_r (v3 + 1)) ∧ ((0 ≤ ((v3 + 1) : Int) ∧ ((v3 + 1) : Int) < g_fl E 0) ∧ ((g_r (v3 + 2)) ∧ ((0 ≤ ((v3 + 2) : Int) ∧ ((v3 + 2) : Int) < g_fl E 0) ∧ (k_X11_cell E l D (g_fx E 0 (v3 + 1).toNat) (g_fx E 0 (v3 + 2).toNat) (fun x1 D1 => g_r x1 → (g_r (v3 + 1)) ∧ ((0 ≤ ((v3 + 1) : Int) ∧ ((v3 + 1) : Int) < g_fl E 0) ∧ ((g_r (v3 + 2)) ∧ ((0 ≤ ((v3 + 2) : Int) ∧ ((v3 + 2) : Int) < g_fl E 0) ∧ (k_X12_cell E l D1 (g_fx E 0 (v3 + 1).toNat) (g_fx E 0 (v3 + 2).toNat) (fun x2 D2 => g_r x2 → (x1 = x2 → n_L_law E l nc ns D2 1450 [some (g_F 0), some (g_R 0), some (g_R 208), some (g_I v3)]) ∧ (¬ x1 = x2 → False)))))))))))) : n_L_law E l nc ns D 357 [some (g_F 0), some (g_R 0), some (g_R 208), some (g_I v3)] := by
  refine g_use (fun ok => ?_)
  have hF := hF ok.2.1 (ok.loc (i := 3) rfl)
  refine g_aload_n dL_law_357 rfl ?_
  refine g_aload_nF dL_law_358 rfl ?_
  refine g_iload_n dL_law_359 rfl ?_
  refine g_iconst dL_law_360 ⟨by decide, by decide⟩ ?_
  obtain ⟨hc, hF⟩ := hF
  refine g_iadd dL_law_361 hc ?_
  obtain ⟨hc, hF⟩ := hF
  refine g_ialdF dL_law_362 (by decide) hc.1 hc.2 (g_fx0 _) ?_
  refine g_aload_nF dL_law_363 rfl ?_
  refine g_iload_n dL_law_364 rfl ?_
  refine g_iconst dL_law_365 ⟨by decide, by decide⟩ ?_
  obtain ⟨hc, hF⟩ := hF
  refine g_iadd dL_law_366 hc ?_
  obtain ⟨hc, hF⟩ := hF
  refine g_ialdF dL_law_367 (by decide) hc.1 hc.2 (g_fx0 _) ?_
  refine gl_cVi (b := 0) (As := [g_I (g_fx E 0 (v3 + 1).toNat), g_I (g_fx E 0 (v3 + 2).toNat)]) (rest := []) dL_law_368 mv_L_27 sh_0 rfl (Nat.le_of_ble_eq_true rfl) (by decide) hnc hns rfl hF ?_
  intro x1 D1 hx1 hF
  have hF := hF hx1
  refine g_aload_n dL_law_371 rfl ?_
  refine g_aload_nF dL_law_372 rfl ?_
  refine g_iload_n dL_law_373 rfl ?_
  refine g_iconst dL_law_374 ⟨by decide, by decide⟩ ?_
  obtain ⟨hc, hF⟩ := hF
  refine g_iadd dL_law_375 hc ?_
  obtain ⟨hc, hF⟩ := hF
  refine g_ialdF dL_law_376 (by decide) hc.1 hc.2 (g_fx0 _) ?_
  refine g_aload_nF dL_law_377 rfl ?_
  refine g_iload_n dL_law_378 rfl ?_
  refine g_iconst dL_law_379 ⟨by decide, by decide⟩ ?_
  obtain ⟨hc, hF⟩ := hF
  refine g_iadd dL_law_380 hc ?_
  obtain ⟨hc, hF⟩ := hF
  refine g_ialdF dL_law_381 (by decide) hc.1 hc.2 (g_fx0 _) ?_
  refine gl_cVi (b := 208) (As := [g_I (g_fx E 0 (v3 + 1).toNat), g_I (g_fx E 0 (v3 + 2).toNat)]) (rest := [g_I x1]) dL_law_382 mv_L_31 sh_208 rfl (Nat.le_of_ble_eq_true rfl) (by decide) hnc hns rfl hF ?_
  intro x2 D2 hx2 hF
  have hF := hF hx2
  refine g_ceq dL_law_385 rfl (fun q => ?_) (fun q => ?_)
  · have hF := hF.1 q
    exact hF
  · have hF := hF.2 q
    refine g_iconst dL_law_388 ⟨by decide, by decide⟩ ?_
    exact hF.elim
theorem s_L_law_390 {E : g_E} {l : Launch} {nc ns : Nat} {D : g_D} {v3 : Int} (hnc : nc ≤ 600000) (hns : ns ≤ 7302250) (hF : g_okD D → g_r v3 → (g_r (v3 + 1)) ∧ ((0 ≤ ((v3 + 1) : Int) ∧ ((v3 + 1) : Int) < g_fl E 0) ∧ ((g_r (v3 + 2)) ∧ ((0 ≤ ((v3 + 2) : Int) ∧ ((v3 + 2) : Int) < g_fl E 0) ∧ (k_X11_terms E l D (g_fx E 0 (v3 + 1).toNat) (g_fx E 0 (v3 + 2).toNat) (fun x1 D1 => g_r x1 → (g_r (v3 + 1)) ∧ ((0 ≤ ((v3 + 1) : Int) ∧ ((v3 + 1) : Int) < g_fl E 0) ∧ ((g_r (v3 + 2)) ∧ ((0 ≤ ((v3 + 2) : Int) ∧ ((v3 + 2) : Int) < g_fl E 0) ∧ (k_X12_terms E l D1 (g_fx E 0 (v3 + 1).toNat) (g_fx E 0 (v3 + 2).toNat) (fun x2 D2 => g_r x2 → (x1 = x2 → n_L_law E l nc ns D2 1450 [some (g_F 0), some (g_R 0), some (g_R 208), some (g_I v3)]) ∧ (¬ x1 = x2 → False)))))))))))) : n_L_law E l nc ns D 390 [some (g_F 0), some (g_R 0), some (g_R 208), some (g_I v3)] := by
  refine g_use (fun ok => ?_)
  have hF := hF ok.2.1 (ok.loc (i := 3) rfl)
  refine g_aload_n dL_law_390 rfl ?_
  refine g_aload_nF dL_law_391 rfl ?_
  refine g_iload_n dL_law_392 rfl ?_
  refine g_iconst dL_law_393 ⟨by decide, by decide⟩ ?_
  obtain ⟨hc, hF⟩ := hF
  refine g_iadd dL_law_394 hc ?_
  obtain ⟨hc, hF⟩ := hF
  refine g_ialdF dL_law_395 (by decide) hc.1 hc.2 (g_fx0 _) ?_
  refine g_aload_nF dL_law_396 rfl ?_
  refine g_iload_n dL_law_397 rfl ?_
  refine g_iconst dL_law_398 ⟨by decide, by decide⟩ ?_
  obtain ⟨hc, hF⟩ := hF
  refine g_iadd dL_law_399 hc ?_
  obtain ⟨hc, hF⟩ := hF
  refine g_ialdF dL_law_400 (by decide) hc.1 hc.2 (g_fx0 _) ?_
  refine gl_cVi (b := 0) (As := [g_I (g_fx E 0 (v3 + 1).toNat), g_I (g_fx E 0 (v3 + 2).toNat)]) (rest := []) dL_law_401 mv_L_32 sh_0 rfl (Nat.le_of_ble_eq_true rfl) (by decide) hnc hns rfl hF ?_
  intro x1 D1 hx1 hF
  have hF := hF hx1
  refine g_aload_n dL_law_404 rfl ?_
  refine g_aload_nF dL_law_405 rfl ?_
  refine g_iload_n dL_law_406 rfl ?_
  refine g_iconst dL_law_407 ⟨by decide, by decide⟩ ?_
  obtain ⟨hc, hF⟩ := hF
  refine g_iadd dL_law_408 hc ?_
  obtain ⟨hc, hF⟩ := hF
  refine g_ialdF dL_law_409 (by decide) hc.1 hc.2 (g_fx0 _) ?_
  refine g_aload_nF dL_law_410 rfl ?_
  refine g_iload_n dL_law_411 rfl ?_
  refine g_iconst dL_law_412 ⟨by decide, by decide⟩ ?_
  obtain ⟨hc, hF⟩ := hF
  refine g_iadd dL_law_413 hc ?_
  obtain ⟨hc, hF⟩ := hF
  refine g_ialdF dL_law_414 (by decide) hc.1 hc.2 (g_fx0 _) ?_
  refine gl_cVi (b := 208) (As := [g_I (g_fx E 0 (v3 + 1).toNat), g_I (g_fx E 0 (v3 + 2).toNat)]) (rest := [g_I x1]) dL_law_415 mv_L_35 sh_208 rfl (Nat.le_of_ble_eq_true rfl) (by decide) hnc hns rfl hF ?_
  intro x2 D2 hx2 hF
  have hF := hF hx2
  refine g_ceq dL_law_418 rfl (fun q => ?_) (fun q => ?_)
  · have hF := hF.1 q
    exact hF
  · have hF := hF.2 q
    refine g_iconst dL_law_421 ⟨by decide, by decide⟩ ?_
    exact hF.elim
theorem s_L_law_423 {E : g_E} {l : Launch} {nc ns : Nat} {D : g_D} {v3 : Int} (hnc : nc ≤ 600000) (hns : ns ≤ 7302250) (hF : g_okD D → g_r v3 → (g_r (v3 + 1)) ∧ ((0 ≤ ((v3 + 1) : Int) ∧ ((v3 + 1) : Int) < g_fl E 0) ∧ (k_X11_suffix E l D (g_fx E 0 (v3 + 1).toNat) (fun x1 D1 => g_r x1 → (g_r (v3 + 1)) ∧ ((0 ≤ ((v3 + 1) : Int) ∧ ((v3 + 1) : Int) < g_fl E 0) ∧ (k_X12_suffix E l D1 (g_fx E 0 (v3 + 1).toNat) (fun x2 D2 => g_r x2 → (x1 = x2 → n_L_law E l nc ns D2 1450 [some (g_F 0), some (g_R 0), some (g_R 208), some (g_I v3)]) ∧ (¬ x1 = x2 → False)))))))) : n_L_law E l nc ns D 423 [some (g_F 0), some (g_R 0), some (g_R 208), some (g_I v3)] := by
  refine g_use (fun ok => ?_)
  have hF := hF ok.2.1 (ok.loc (i := 3) rfl)
  refine g_aload_n dL_law_423 rfl ?_
  refine g_aload_nF dL_law_424 rfl ?_
  refine g_iload_n dL_law_425 rfl ?_
  refine g_iconst dL_law_426 ⟨by decide, by decide⟩ ?_
  obtain ⟨hc, hF⟩ := hF
  refine g_iadd dL_law_427 hc ?_
  obtain ⟨hc, hF⟩ := hF
  refine g_ialdF dL_law_428 (by decide) hc.1 hc.2 (g_fx0 _) ?_
  refine gl_cVi (b := 0) (As := [g_I (g_fx E 0 (v3 + 1).toNat)]) (rest := []) dL_law_429 mv_L_36 sh_0 rfl (Nat.le_of_ble_eq_true rfl) (by decide) hnc hns rfl hF ?_
  intro x1 D1 hx1 hF
  have hF := hF hx1
  refine g_aload_n dL_law_432 rfl ?_
  refine g_aload_nF dL_law_433 rfl ?_
  refine g_iload_n dL_law_434 rfl ?_
  refine g_iconst dL_law_435 ⟨by decide, by decide⟩ ?_
  obtain ⟨hc, hF⟩ := hF
  refine g_iadd dL_law_436 hc ?_
  obtain ⟨hc, hF⟩ := hF
  refine g_ialdF dL_law_437 (by decide) hc.1 hc.2 (g_fx0 _) ?_
  refine gl_cVi (b := 208) (As := [g_I (g_fx E 0 (v3 + 1).toNat)]) (rest := [g_I x1]) dL_law_438 mv_L_39 sh_208 rfl (Nat.le_of_ble_eq_true rfl) (by decide) hnc hns rfl hF ?_
  intro x2 D2 hx2 hF
  have hF := hF hx2
  refine g_ceq dL_law_441 rfl (fun q => ?_) (fun q => ?_)
  · have hF := hF.1 q
    exact hF
  · have hF := hF.2 q
    refine g_iconst dL_law_444 ⟨by decide, by decide⟩ ?_
    exact hF.elim
theorem s_L_law_446 {E : g_E} {l : Launch} {nc ns : Nat} {D : g_D} {v3 : Int} (hnc : nc ≤ 600000) (hns : ns ≤ 7302250) (hF : g_okD D → g_r v3 → (g_r (v3 + 1)) ∧ ((0 ≤ ((v3 + 1) : Int) ∧ ((v3 + 1) : Int) < g_fl E 0) ∧ (k_X11_shared E l D (g_fx E 0 (v3 + 1).toNat) (fun x1 D1 => g_r x1 → (g_r (v3 + 1)) ∧ ((0 ≤ ((v3 + 1) : Int) ∧ ((v3 + 1) : Int) < g_fl E 0) ∧ (k_X12_shared E l D1 (g_fx E 0 (v3 + 1).toNat) (fun x2 D2 => g_r x2 → (x1 = x2 → n_L_law E l nc ns D2 1450 [some (g_F 0), some (g_R 0), some (g_R 208), some (g_I v3)]) ∧ (¬ x1 = x2 → False)))))))) : n_L_law E l nc ns D 446 [some (g_F 0), some (g_R 0), some (g_R 208), some (g_I v3)] := by
  refine g_use (fun ok => ?_)
  have hF := hF ok.2.1 (ok.loc (i := 3) rfl)
  refine g_aload_n dL_law_446 rfl ?_
  refine g_aload_nF dL_law_447 rfl ?_
  refine g_iload_n dL_law_448 rfl ?_
  refine g_iconst dL_law_449 ⟨by decide, by decide⟩ ?_
  obtain ⟨hc, hF⟩ := hF
  refine g_iadd dL_law_450 hc ?_
  obtain ⟨hc, hF⟩ := hF
  refine g_ialdF dL_law_451 (by decide) hc.1 hc.2 (g_fx0 _) ?_
  refine gl_cVi (b := 0) (As := [g_I (g_fx E 0 (v3 + 1).toNat)]) (rest := []) dL_law_452 mv_L_40 sh_0 rfl (Nat.le_of_ble_eq_true rfl) (by decide) hnc hns rfl hF ?_
  intro x1 D1 hx1 hF
  have hF := hF hx1
  refine g_aload_n dL_law_455 rfl ?_
  refine g_aload_nF dL_law_456 rfl ?_
  refine g_iload_n dL_law_457 rfl ?_
  refine g_iconst dL_law_458 ⟨by decide, by decide⟩ ?_
  obtain ⟨hc, hF⟩ := hF
  refine g_iadd dL_law_459 hc ?_
  obtain ⟨hc, hF⟩ := hF
  refine g_ialdF dL_law_460 (by decide) hc.1 hc.2 (g_fx0 _) ?_
  refine gl_cVi (b := 208) (As := [g_I (g_fx E 0 (v3 + 1).toNat)]) (rest := [g_I x1]) dL_law_461 mv_L_43 sh_208 rfl (Nat.le_of_ble_eq_true rfl) (by decide) hnc hns rfl hF ?_
  intro x2 D2 hx2 hF
  have hF := hF hx2
  refine g_ceq dL_law_464 rfl (fun q => ?_) (fun q => ?_)
  · have hF := hF.1 q
    exact hF
  · have hF := hF.2 q
    refine g_iconst dL_law_467 ⟨by decide, by decide⟩ ?_
    exact hF.elim
theorem s_L_law_469 {E : g_E} {l : Launch} {nc ns : Nat} {D : g_D} {v3 : Int} (hnc : nc ≤ 600000) (hns : ns ≤ 7302250) (hF : g_okD D → g_r v3 → (g_r (v3 + 1)) ∧ ((0 ≤ ((v3 + 1) : Int) ∧ ((v3 + 1) : Int) < g_fl E 0) ∧ (k_X11_unlike E l D (g_fx E 0 (v3 + 1).toNat) (fun x1 D1 => g_r x1 → (g_r (v3 + 1)) ∧ ((0 ≤ ((v3 + 1) : Int) ∧ ((v3 + 1) : Int) < g_fl E 0) ∧ (k_X12_unlike E l D1 (g_fx E 0 (v3 + 1).toNat) (fun x2 D2 => g_r x2 → (x1 = x2 → n_L_law E l nc ns D2 1450 [some (g_F 0), some (g_R 0), some (g_R 208), some (g_I v3)]) ∧ (¬ x1 = x2 → False)))))))) : n_L_law E l nc ns D 469 [some (g_F 0), some (g_R 0), some (g_R 208), some (g_I v3)] := by
  refine g_use (fun ok => ?_)
  have hF := hF ok.2.1 (ok.loc (i := 3) rfl)
  refine g_aload_n dL_law_469 rfl ?_
  refine g_aload_nF dL_law_470 rfl ?_
  refine g_iload_n dL_law_471 rfl ?_
  refine g_iconst dL_law_472 ⟨by decide, by decide⟩ ?_
  obtain ⟨hc, hF⟩ := hF
  refine g_iadd dL_law_473 hc ?_
  obtain ⟨hc, hF⟩ := hF
  refine g_ialdF dL_law_474 (by decide) hc.1 hc.2 (g_fx0 _) ?_
  refine gl_cVi (b := 0) (As := [g_I (g_fx E 0 (v3 + 1).toNat)]) (rest := []) dL_law_475 mv_L_44 sh_0 rfl (Nat.le_of_ble_eq_true rfl) (by decide) hnc hns rfl hF ?_
  intro x1 D1 hx1 hF
  have hF := hF hx1
  refine g_aload_n dL_law_478 rfl ?_
  refine g_aload_nF dL_law_479 rfl ?_
  refine g_iload_n dL_law_480 rfl ?_
  refine g_iconst dL_law_481 ⟨by decide, by decide⟩ ?_
  obtain ⟨hc, hF⟩ := hF
  refine g_iadd dL_law_482 hc ?_
  obtain ⟨hc, hF⟩ := hF
  refine g_ialdF dL_law_483 (by decide) hc.1 hc.2 (g_fx0 _) ?_
  refine gl_cVi (b := 208) (As := [g_I (g_fx E 0 (v3 + 1).toNat)]) (rest := [g_I x1]) dL_law_484 mv_L_47 sh_208 rfl (Nat.le_of_ble_eq_true rfl) (by decide) hnc hns rfl hF ?_
  intro x2 D2 hx2 hF
  have hF := hF hx2
  refine g_ceq dL_law_487 rfl (fun q => ?_) (fun q => ?_)
  · have hF := hF.1 q
    exact hF
  · have hF := hF.2 q
    refine g_iconst dL_law_490 ⟨by decide, by decide⟩ ?_
    exact hF.elim
theorem s_L_law_492 {E : g_E} {l : Launch} {nc ns : Nat} {D : g_D} {v3 : Int} (hnc : nc ≤ 600000) (hns : ns ≤ 7302250) (hF : g_okD D → g_r v3 → (g_r (v3 + 1)) ∧ ((0 ≤ ((v3 + 1) : Int) ∧ ((v3 + 1) : Int) < g_fl E 0) ∧ ((g_r (v3 + 2)) ∧ ((0 ≤ ((v3 + 2) : Int) ∧ ((v3 + 2) : Int) < g_fl E 0) ∧ (k_X11_run E l D (g_fx E 0 (v3 + 1).toNat) (g_fx E 0 (v3 + 2).toNat) (fun x1 D1 => g_r x1 → (g_r (v3 + 1)) ∧ ((0 ≤ ((v3 + 1) : Int) ∧ ((v3 + 1) : Int) < g_fl E 0) ∧ ((g_r (v3 + 2)) ∧ ((0 ≤ ((v3 + 2) : Int) ∧ ((v3 + 2) : Int) < g_fl E 0) ∧ (k_X12_run E l D1 (g_fx E 0 (v3 + 1).toNat) (g_fx E 0 (v3 + 2).toNat) (fun x2 D2 => g_r x2 → (x1 = x2 → n_L_law E l nc ns D2 1450 [some (g_F 0), some (g_R 0), some (g_R 208), some (g_I v3)]) ∧ (¬ x1 = x2 → False)))))))))))) : n_L_law E l nc ns D 492 [some (g_F 0), some (g_R 0), some (g_R 208), some (g_I v3)] := by
  refine g_use (fun ok => ?_)
  have hF := hF ok.2.1 (ok.loc (i := 3) rfl)
  refine g_aload_n dL_law_492 rfl ?_
  refine g_aload_nF dL_law_493 rfl ?_
  refine g_iload_n dL_law_494 rfl ?_
  refine g_iconst dL_law_495 ⟨by decide, by decide⟩ ?_
  obtain ⟨hc, hF⟩ := hF
  refine g_iadd dL_law_496 hc ?_
  obtain ⟨hc, hF⟩ := hF
  refine g_ialdF dL_law_497 (by decide) hc.1 hc.2 (g_fx0 _) ?_
  refine g_aload_nF dL_law_498 rfl ?_
  refine g_iload_n dL_law_499 rfl ?_
  refine g_iconst dL_law_500 ⟨by decide, by decide⟩ ?_
  obtain ⟨hc, hF⟩ := hF
  refine g_iadd dL_law_501 hc ?_
  obtain ⟨hc, hF⟩ := hF
  refine g_ialdF dL_law_502 (by decide) hc.1 hc.2 (g_fx0 _) ?_
  refine gl_cVi (b := 0) (As := [g_I (g_fx E 0 (v3 + 1).toNat), g_I (g_fx E 0 (v3 + 2).toNat)]) (rest := []) dL_law_503 mv_L_48 sh_0 rfl (Nat.le_of_ble_eq_true rfl) (by decide) hnc hns rfl hF ?_
  intro x1 D1 hx1 hF
  have hF := hF hx1
  refine g_aload_n dL_law_506 rfl ?_
  refine g_aload_nF dL_law_507 rfl ?_
  refine g_iload_n dL_law_508 rfl ?_
  refine g_iconst dL_law_509 ⟨by decide, by decide⟩ ?_
  obtain ⟨hc, hF⟩ := hF
  refine g_iadd dL_law_510 hc ?_
  obtain ⟨hc, hF⟩ := hF
  refine g_ialdF dL_law_511 (by decide) hc.1 hc.2 (g_fx0 _) ?_
  refine g_aload_nF dL_law_512 rfl ?_
  refine g_iload_n dL_law_513 rfl ?_
  refine g_iconst dL_law_514 ⟨by decide, by decide⟩ ?_
  obtain ⟨hc, hF⟩ := hF
  refine g_iadd dL_law_515 hc ?_
  obtain ⟨hc, hF⟩ := hF
  refine g_ialdF dL_law_516 (by decide) hc.1 hc.2 (g_fx0 _) ?_
  refine gl_cVi (b := 208) (As := [g_I (g_fx E 0 (v3 + 1).toNat), g_I (g_fx E 0 (v3 + 2).toNat)]) (rest := [g_I x1]) dL_law_517 mv_L_51 sh_208 rfl (Nat.le_of_ble_eq_true rfl) (by decide) hnc hns rfl hF ?_
  intro x2 D2 hx2 hF
  have hF := hF hx2
  refine g_ceq dL_law_520 rfl (fun q => ?_) (fun q => ?_)
  · have hF := hF.1 q
    exact hF
  · have hF := hF.2 q
    refine g_iconst dL_law_523 ⟨by decide, by decide⟩ ?_
    exact hF.elim
theorem s_L_law_525 {E : g_E} {l : Launch} {nc ns : Nat} {D : g_D} {v3 : Int} (hnc : nc ≤ 600000) (hns : ns ≤ 7302250) (hF : g_okD D → g_r v3 → (g_r (v3 + 1)) ∧ ((0 ≤ ((v3 + 1) : Int) ∧ ((v3 + 1) : Int) < g_fl E 0) ∧ (k_X11_widest E l D (g_fx E 0 (v3 + 1).toNat) (fun x1 D1 => g_r x1 → (g_r (v3 + 1)) ∧ ((0 ≤ ((v3 + 1) : Int) ∧ ((v3 + 1) : Int) < g_fl E 0) ∧ (k_X12_widest E l D1 (g_fx E 0 (v3 + 1).toNat) (fun x2 D2 => g_r x2 → (x1 = x2 → n_L_law E l nc ns D2 1450 [some (g_F 0), some (g_R 0), some (g_R 208), some (g_I v3)]) ∧ (¬ x1 = x2 → False)))))))) : n_L_law E l nc ns D 525 [some (g_F 0), some (g_R 0), some (g_R 208), some (g_I v3)] := by
  refine g_use (fun ok => ?_)
  have hF := hF ok.2.1 (ok.loc (i := 3) rfl)
  refine g_aload_n dL_law_525 rfl ?_
  refine g_aload_nF dL_law_526 rfl ?_
  refine g_iload_n dL_law_527 rfl ?_
  refine g_iconst dL_law_528 ⟨by decide, by decide⟩ ?_
  obtain ⟨hc, hF⟩ := hF
  refine g_iadd dL_law_529 hc ?_
  obtain ⟨hc, hF⟩ := hF
  refine g_ialdF dL_law_530 (by decide) hc.1 hc.2 (g_fx0 _) ?_
  refine gl_cVi (b := 0) (As := [g_I (g_fx E 0 (v3 + 1).toNat)]) (rest := []) dL_law_531 mv_L_52 sh_0 rfl (Nat.le_of_ble_eq_true rfl) (by decide) hnc hns rfl hF ?_
  intro x1 D1 hx1 hF
  have hF := hF hx1
  refine g_aload_n dL_law_534 rfl ?_
  refine g_aload_nF dL_law_535 rfl ?_
  refine g_iload_n dL_law_536 rfl ?_
  refine g_iconst dL_law_537 ⟨by decide, by decide⟩ ?_
  obtain ⟨hc, hF⟩ := hF
  refine g_iadd dL_law_538 hc ?_
  obtain ⟨hc, hF⟩ := hF
  refine g_ialdF dL_law_539 (by decide) hc.1 hc.2 (g_fx0 _) ?_
  refine gl_cVi (b := 208) (As := [g_I (g_fx E 0 (v3 + 1).toNat)]) (rest := [g_I x1]) dL_law_540 mv_L_55 sh_208 rfl (Nat.le_of_ble_eq_true rfl) (by decide) hnc hns rfl hF ?_
  intro x2 D2 hx2 hF
  have hF := hF hx2
  refine g_ceq dL_law_543 rfl (fun q => ?_) (fun q => ?_)
  · have hF := hF.1 q
    exact hF
  · have hF := hF.2 q
    refine g_iconst dL_law_546 ⟨by decide, by decide⟩ ?_
    exact hF.elim
theorem s_L_law_548 {E : g_E} {l : Launch} {nc ns : Nat} {D : g_D} {v3 : Int} (hnc : nc ≤ 600000) (hns : ns ≤ 7302250) (hF : g_okD D → g_r v3 → k_X11_least E l D (fun x1 D1 => g_r x1 → k_X12_least E l D1 (fun x2 D2 => g_r x2 → (x1 = x2 → n_L_law E l nc ns D2 1450 [some (g_F 0), some (g_R 0), some (g_R 208), some (g_I v3)]) ∧ (¬ x1 = x2 → False)))) : n_L_law E l nc ns D 548 [some (g_F 0), some (g_R 0), some (g_R 208), some (g_I v3)] := by
  refine g_use (fun ok => ?_)
  have hF := hF ok.2.1 (ok.loc (i := 3) rfl)
  refine g_aload_n dL_law_548 rfl ?_
  refine gl_cVi (b := 0) (As := []) (rest := []) dL_law_549 mv_L_56 sh_0 rfl (Nat.le_of_ble_eq_true rfl) (by decide) hnc hns rfl hF ?_
  intro x1 D1 hx1 hF
  have hF := hF hx1
  refine g_aload_n dL_law_552 rfl ?_
  refine gl_cVi (b := 208) (As := []) (rest := [g_I x1]) dL_law_553 mv_L_60 sh_208 rfl (Nat.le_of_ble_eq_true rfl) (by decide) hnc hns rfl hF ?_
  intro x2 D2 hx2 hF
  have hF := hF hx2
  refine g_ceq dL_law_556 rfl (fun q => ?_) (fun q => ?_)
  · have hF := hF.1 q
    exact hF
  · have hF := hF.2 q
    refine g_iconst dL_law_559 ⟨by decide, by decide⟩ ?_
    exact hF.elim
theorem s_L_law_561 {E : g_E} {l : Launch} {nc ns : Nat} {D : g_D} {v3 : Int} (hnc : nc ≤ 600000) (hns : ns ≤ 7302250) (hF : g_okD D → g_r v3 → k_X11_commands E l D (fun x1 D1 => g_r x1 → k_X12_commands E l D1 (fun x2 D2 => g_r x2 → (x1 = x2 → n_L_law E l nc ns D2 1450 [some (g_F 0), some (g_R 0), some (g_R 208), some (g_I v3)]) ∧ (¬ x1 = x2 → False)))) : n_L_law E l nc ns D 561 [some (g_F 0), some (g_R 0), some (g_R 208), some (g_I v3)] := by
  refine g_use (fun ok => ?_)
  have hF := hF ok.2.1 (ok.loc (i := 3) rfl)
  refine g_aload_n dL_law_561 rfl ?_
  refine gl_cVi (b := 0) (As := []) (rest := []) dL_law_562 mv_L_61 sh_0 rfl (Nat.le_of_ble_eq_true rfl) (by decide) hnc hns rfl hF ?_
  intro x1 D1 hx1 hF
  have hF := hF hx1
  refine g_aload_n dL_law_565 rfl ?_
  refine gl_cVi (b := 208) (As := []) (rest := [g_I x1]) dL_law_566 mv_L_64 sh_208 rfl (Nat.le_of_ble_eq_true rfl) (by decide) hnc hns rfl hF ?_
  intro x2 D2 hx2 hF
  have hF := hF hx2
  refine g_ceq dL_law_569 rfl (fun q => ?_) (fun q => ?_)
  · have hF := hF.1 q
    exact hF
  · have hF := hF.2 q
    refine g_iconst dL_law_572 ⟨by decide, by decide⟩ ?_
    exact hF.elim
theorem s_L_law_574 {E : g_E} {l : Launch} {nc ns : Nat} {D : g_D} {v3 : Int} (hnc : nc ≤ 600000) (hns : ns ≤ 7302250) (hF : g_okD D → g_r v3 → (g_r (v3 + 1)) ∧ ((0 ≤ ((v3 + 1) : Int) ∧ ((v3 + 1) : Int) < g_fl E 0) ∧ ((g_r (v3 + 2)) ∧ ((0 ≤ ((v3 + 2) : Int) ∧ ((v3 + 2) : Int) < g_fl E 0) ∧ (k_X11_command E l D (g_fx E 0 (v3 + 1).toNat) (g_fx E 0 (v3 + 2).toNat) (fun x1 D1 => g_r x1 → (g_r (v3 + 1)) ∧ ((0 ≤ ((v3 + 1) : Int) ∧ ((v3 + 1) : Int) < g_fl E 0) ∧ ((g_r (v3 + 2)) ∧ ((0 ≤ ((v3 + 2) : Int) ∧ ((v3 + 2) : Int) < g_fl E 0) ∧ (k_X12_command E l D1 (g_fx E 0 (v3 + 1).toNat) (g_fx E 0 (v3 + 2).toNat) (fun x2 D2 => g_r x2 → (x1 = x2 → n_L_law E l nc ns D2 1450 [some (g_F 0), some (g_R 0), some (g_R 208), some (g_I v3)]) ∧ (¬ x1 = x2 → False)))))))))))) : n_L_law E l nc ns D 574 [some (g_F 0), some (g_R 0), some (g_R 208), some (g_I v3)] := by
  refine g_use (fun ok => ?_)
  have hF := hF ok.2.1 (ok.loc (i := 3) rfl)
  refine g_aload_n dL_law_574 rfl ?_
  refine g_aload_nF dL_law_575 rfl ?_
  refine g_iload_n dL_law_576 rfl ?_
  refine g_iconst dL_law_577 ⟨by decide, by decide⟩ ?_
  obtain ⟨hc, hF⟩ := hF
  refine g_iadd dL_law_578 hc ?_
  obtain ⟨hc, hF⟩ := hF
  refine g_ialdF dL_law_579 (by decide) hc.1 hc.2 (g_fx0 _) ?_
  refine g_aload_nF dL_law_580 rfl ?_
  refine g_iload_n dL_law_581 rfl ?_
  refine g_iconst dL_law_582 ⟨by decide, by decide⟩ ?_
  obtain ⟨hc, hF⟩ := hF
  refine g_iadd dL_law_583 hc ?_
  obtain ⟨hc, hF⟩ := hF
  refine g_ialdF dL_law_584 (by decide) hc.1 hc.2 (g_fx0 _) ?_
  refine gl_cVi (b := 0) (As := [g_I (g_fx E 0 (v3 + 1).toNat), g_I (g_fx E 0 (v3 + 2).toNat)]) (rest := []) dL_law_585 mv_L_65 sh_0 rfl (Nat.le_of_ble_eq_true rfl) (by decide) hnc hns rfl hF ?_
  intro x1 D1 hx1 hF
  have hF := hF hx1
  refine g_aload_n dL_law_588 rfl ?_
  refine g_aload_nF dL_law_589 rfl ?_
  refine g_iload_n dL_law_590 rfl ?_
  refine g_iconst dL_law_591 ⟨by decide, by decide⟩ ?_
  obtain ⟨hc, hF⟩ := hF
  refine g_iadd dL_law_592 hc ?_
  obtain ⟨hc, hF⟩ := hF
  refine g_ialdF dL_law_593 (by decide) hc.1 hc.2 (g_fx0 _) ?_
  refine g_aload_nF dL_law_594 rfl ?_
  refine g_iload_n dL_law_595 rfl ?_
  refine g_iconst dL_law_596 ⟨by decide, by decide⟩ ?_
  obtain ⟨hc, hF⟩ := hF
  refine g_iadd dL_law_597 hc ?_
  obtain ⟨hc, hF⟩ := hF
  refine g_ialdF dL_law_598 (by decide) hc.1 hc.2 (g_fx0 _) ?_
  refine gl_cVi (b := 208) (As := [g_I (g_fx E 0 (v3 + 1).toNat), g_I (g_fx E 0 (v3 + 2).toNat)]) (rest := [g_I x1]) dL_law_599 mv_L_68 sh_208 rfl (Nat.le_of_ble_eq_true rfl) (by decide) hnc hns rfl hF ?_
  intro x2 D2 hx2 hF
  have hF := hF hx2
  refine g_ceq dL_law_602 rfl (fun q => ?_) (fun q => ?_)
  · have hF := hF.1 q
    exact hF
  · have hF := hF.2 q
    refine g_iconst dL_law_605 ⟨by decide, by decide⟩ ?_
    exact hF.elim
theorem s_L_law_607 {E : g_E} {l : Launch} {nc ns : Nat} {D : g_D} {v3 : Int} (hnc : nc ≤ 600000) (hns : ns ≤ 7302250) (hF : g_okD D → g_r v3 → (g_r (v3 + 1)) ∧ ((0 ≤ ((v3 + 1) : Int) ∧ ((v3 + 1) : Int) < g_fl E 0) ∧ ((g_r (v3 + 2)) ∧ ((0 ≤ ((v3 + 2) : Int) ∧ ((v3 + 2) : Int) < g_fl E 0) ∧ (k_X11_ahead E l D (g_fx E 0 (v3 + 1).toNat) (g_fx E 0 (v3 + 2).toNat) (fun x1 D1 => g_r x1 → (g_r (v3 + 1)) ∧ ((0 ≤ ((v3 + 1) : Int) ∧ ((v3 + 1) : Int) < g_fl E 0) ∧ ((g_r (v3 + 2)) ∧ ((0 ≤ ((v3 + 2) : Int) ∧ ((v3 + 2) : Int) < g_fl E 0) ∧ (k_X12_ahead E l D1 (g_fx E 0 (v3 + 1).toNat) (g_fx E 0 (v3 + 2).toNat) (fun x2 D2 => g_r x2 → (x1 = x2 → n_L_law E l nc ns D2 1450 [some (g_F 0), some (g_R 0), some (g_R 208), some (g_I v3)]) ∧ (¬ x1 = x2 → False)))))))))))) : n_L_law E l nc ns D 607 [some (g_F 0), some (g_R 0), some (g_R 208), some (g_I v3)] := by
  refine g_use (fun ok => ?_)
  have hF := hF ok.2.1 (ok.loc (i := 3) rfl)
  refine g_aload_n dL_law_607 rfl ?_
  refine g_aload_nF dL_law_608 rfl ?_
  refine g_iload_n dL_law_609 rfl ?_
  refine g_iconst dL_law_610 ⟨by decide, by decide⟩ ?_
  obtain ⟨hc, hF⟩ := hF
  refine g_iadd dL_law_611 hc ?_
  obtain ⟨hc, hF⟩ := hF
  refine g_ialdF dL_law_612 (by decide) hc.1 hc.2 (g_fx0 _) ?_
  refine g_aload_nF dL_law_613 rfl ?_
  refine g_iload_n dL_law_614 rfl ?_
  refine g_iconst dL_law_615 ⟨by decide, by decide⟩ ?_
  obtain ⟨hc, hF⟩ := hF
  refine g_iadd dL_law_616 hc ?_
  obtain ⟨hc, hF⟩ := hF
  refine g_ialdF dL_law_617 (by decide) hc.1 hc.2 (g_fx0 _) ?_
  refine gl_cVi (b := 0) (As := [g_I (g_fx E 0 (v3 + 1).toNat), g_I (g_fx E 0 (v3 + 2).toNat)]) (rest := []) dL_law_618 mv_L_69 sh_0 rfl (Nat.le_of_ble_eq_true rfl) (by decide) hnc hns rfl hF ?_
  intro x1 D1 hx1 hF
  have hF := hF hx1
  refine g_aload_n dL_law_621 rfl ?_
  refine g_aload_nF dL_law_622 rfl ?_
  refine g_iload_n dL_law_623 rfl ?_
  refine g_iconst dL_law_624 ⟨by decide, by decide⟩ ?_
  obtain ⟨hc, hF⟩ := hF
  refine g_iadd dL_law_625 hc ?_
  obtain ⟨hc, hF⟩ := hF
  refine g_ialdF dL_law_626 (by decide) hc.1 hc.2 (g_fx0 _) ?_
  refine g_aload_nF dL_law_627 rfl ?_
  refine g_iload_n dL_law_628 rfl ?_
  refine g_iconst dL_law_629 ⟨by decide, by decide⟩ ?_
  obtain ⟨hc, hF⟩ := hF
  refine g_iadd dL_law_630 hc ?_
  obtain ⟨hc, hF⟩ := hF
  refine g_ialdF dL_law_631 (by decide) hc.1 hc.2 (g_fx0 _) ?_
  refine gl_cVi (b := 208) (As := [g_I (g_fx E 0 (v3 + 1).toNat), g_I (g_fx E 0 (v3 + 2).toNat)]) (rest := [g_I x1]) dL_law_632 mv_L_72 sh_208 rfl (Nat.le_of_ble_eq_true rfl) (by decide) hnc hns rfl hF ?_
  intro x2 D2 hx2 hF
  have hF := hF hx2
  refine g_ceq dL_law_635 rfl (fun q => ?_) (fun q => ?_)
  · have hF := hF.1 q
    exact hF
  · have hF := hF.2 q
    refine g_iconst dL_law_638 ⟨by decide, by decide⟩ ?_
    exact hF.elim
theorem s_L_law_640 {E : g_E} {l : Launch} {nc ns : Nat} {D : g_D} {v3 : Int} (hnc : nc ≤ 600000) (hns : ns ≤ 7302250) (hF : g_okD D → g_r v3 → k_X11_ringed E l D (fun x1 D1 => g_r x1 → k_X12_ringed E l D1 (fun x2 D2 => g_r x2 → (x1 = x2 → n_L_law E l nc ns D2 1450 [some (g_F 0), some (g_R 0), some (g_R 208), some (g_I v3)]) ∧ (¬ x1 = x2 → False)))) : n_L_law E l nc ns D 640 [some (g_F 0), some (g_R 0), some (g_R 208), some (g_I v3)] := by
  refine g_use (fun ok => ?_)
  have hF := hF ok.2.1 (ok.loc (i := 3) rfl)
  refine g_aload_n dL_law_640 rfl ?_
  refine gl_cVi (b := 0) (As := []) (rest := []) dL_law_641 mv_L_73 sh_0 rfl (Nat.le_of_ble_eq_true rfl) (by decide) hnc hns rfl hF ?_
  intro x1 D1 hx1 hF
  have hF := hF hx1
  refine g_aload_n dL_law_644 rfl ?_
  refine gl_cVi (b := 208) (As := []) (rest := [g_I x1]) dL_law_645 mv_L_76 sh_208 rfl (Nat.le_of_ble_eq_true rfl) (by decide) hnc hns rfl hF ?_
  intro x2 D2 hx2 hF
  have hF := hF hx2
  refine g_ceq dL_law_648 rfl (fun q => ?_) (fun q => ?_)
  · have hF := hF.1 q
    exact hF
  · have hF := hF.2 q
    refine g_iconst dL_law_651 ⟨by decide, by decide⟩ ?_
    exact hF.elim
theorem s_L_law_653 {E : g_E} {l : Launch} {nc ns : Nat} {D : g_D} {v3 : Int} (hnc : nc ≤ 600000) (hns : ns ≤ 7302250) (hF : g_okD D → g_r v3 → (g_r (v3 + 1)) ∧ ((0 ≤ ((v3 + 1) : Int) ∧ ((v3 + 1) : Int) < g_fl E 0) ∧ ((g_r (v3 + 2)) ∧ ((0 ≤ ((v3 + 2) : Int) ∧ ((v3 + 2) : Int) < g_fl E 0) ∧ (k_X11_ring E l D (g_fx E 0 (v3 + 1).toNat) (g_fx E 0 (v3 + 2).toNat) (fun x1 D1 => g_r x1 → (g_r (v3 + 1)) ∧ ((0 ≤ ((v3 + 1) : Int) ∧ ((v3 + 1) : Int) < g_fl E 0) ∧ ((g_r (v3 + 2)) ∧ ((0 ≤ ((v3 + 2) : Int) ∧ ((v3 + 2) : Int) < g_fl E 0) ∧ (k_X12_ring E l D1 (g_fx E 0 (v3 + 1).toNat) (g_fx E 0 (v3 + 2).toNat) (fun x2 D2 => g_r x2 → (x1 = x2 → n_L_law E l nc ns D2 1450 [some (g_F 0), some (g_R 0), some (g_R 208), some (g_I v3)]) ∧ (¬ x1 = x2 → False)))))))))))) : n_L_law E l nc ns D 653 [some (g_F 0), some (g_R 0), some (g_R 208), some (g_I v3)] := by
  refine g_use (fun ok => ?_)
  have hF := hF ok.2.1 (ok.loc (i := 3) rfl)
  refine g_aload_n dL_law_653 rfl ?_
  refine g_aload_nF dL_law_654 rfl ?_
  refine g_iload_n dL_law_655 rfl ?_
  refine g_iconst dL_law_656 ⟨by decide, by decide⟩ ?_
  obtain ⟨hc, hF⟩ := hF
  refine g_iadd dL_law_657 hc ?_
  obtain ⟨hc, hF⟩ := hF
  refine g_ialdF dL_law_658 (by decide) hc.1 hc.2 (g_fx0 _) ?_
  refine g_aload_nF dL_law_659 rfl ?_
  refine g_iload_n dL_law_660 rfl ?_
  refine g_iconst dL_law_661 ⟨by decide, by decide⟩ ?_
  obtain ⟨hc, hF⟩ := hF
  refine g_iadd dL_law_662 hc ?_
  obtain ⟨hc, hF⟩ := hF
  refine g_ialdF dL_law_663 (by decide) hc.1 hc.2 (g_fx0 _) ?_
  refine gl_cVi (b := 0) (As := [g_I (g_fx E 0 (v3 + 1).toNat), g_I (g_fx E 0 (v3 + 2).toNat)]) (rest := []) dL_law_664 mv_L_77 sh_0 rfl (Nat.le_of_ble_eq_true rfl) (by decide) hnc hns rfl hF ?_
  intro x1 D1 hx1 hF
  have hF := hF hx1
  refine g_aload_n dL_law_667 rfl ?_
  refine g_aload_nF dL_law_668 rfl ?_
  refine g_iload_n dL_law_669 rfl ?_
  refine g_iconst dL_law_670 ⟨by decide, by decide⟩ ?_
  obtain ⟨hc, hF⟩ := hF
  refine g_iadd dL_law_671 hc ?_
  obtain ⟨hc, hF⟩ := hF
  refine g_ialdF dL_law_672 (by decide) hc.1 hc.2 (g_fx0 _) ?_
  refine g_aload_nF dL_law_673 rfl ?_
  refine g_iload_n dL_law_674 rfl ?_
  refine g_iconst dL_law_675 ⟨by decide, by decide⟩ ?_
  obtain ⟨hc, hF⟩ := hF
  refine g_iadd dL_law_676 hc ?_
  obtain ⟨hc, hF⟩ := hF
  refine g_ialdF dL_law_677 (by decide) hc.1 hc.2 (g_fx0 _) ?_
  refine gl_cVi (b := 208) (As := [g_I (g_fx E 0 (v3 + 1).toNat), g_I (g_fx E 0 (v3 + 2).toNat)]) (rest := [g_I x1]) dL_law_678 mv_L_80 sh_208 rfl (Nat.le_of_ble_eq_true rfl) (by decide) hnc hns rfl hF ?_
  intro x2 D2 hx2 hF
  have hF := hF hx2
  refine g_ceq dL_law_681 rfl (fun q => ?_) (fun q => ?_)
  · have hF := hF.1 q
    exact hF
  · have hF := hF.2 q
    refine g_iconst dL_law_684 ⟨by decide, by decide⟩ ?_
    exact hF.elim
theorem s_L_law_686 {E : g_E} {l : Launch} {nc ns : Nat} {D : g_D} {v3 : Int} (hnc : nc ≤ 600000) (hns : ns ≤ 7302250) (hF : g_okD D → g_r v3 → (g_r (v3 + 1)) ∧ ((0 ≤ ((v3 + 1) : Int) ∧ ((v3 + 1) : Int) < g_fl E 0) ∧ (k_X11_fewest E l D (g_fx E 0 (v3 + 1).toNat) (fun x1 D1 => g_r x1 → (g_r (v3 + 1)) ∧ ((0 ≤ ((v3 + 1) : Int) ∧ ((v3 + 1) : Int) < g_fl E 0) ∧ (k_X12_fewest E l D1 (g_fx E 0 (v3 + 1).toNat) (fun x2 D2 => g_r x2 → (x1 = x2 → n_L_law E l nc ns D2 1450 [some (g_F 0), some (g_R 0), some (g_R 208), some (g_I v3)]) ∧ (¬ x1 = x2 → False)))))))) : n_L_law E l nc ns D 686 [some (g_F 0), some (g_R 0), some (g_R 208), some (g_I v3)] := by
  refine g_use (fun ok => ?_)
  have hF := hF ok.2.1 (ok.loc (i := 3) rfl)
  refine g_aload_n dL_law_686 rfl ?_
  refine g_aload_nF dL_law_687 rfl ?_
  refine g_iload_n dL_law_688 rfl ?_
  refine g_iconst dL_law_689 ⟨by decide, by decide⟩ ?_
  obtain ⟨hc, hF⟩ := hF
  refine g_iadd dL_law_690 hc ?_
  obtain ⟨hc, hF⟩ := hF
  refine g_ialdF dL_law_691 (by decide) hc.1 hc.2 (g_fx0 _) ?_
  refine gl_cVi (b := 0) (As := [g_I (g_fx E 0 (v3 + 1).toNat)]) (rest := []) dL_law_692 mv_L_81 sh_0 rfl (Nat.le_of_ble_eq_true rfl) (by decide) hnc hns rfl hF ?_
  intro x1 D1 hx1 hF
  have hF := hF hx1
  refine g_aload_n dL_law_695 rfl ?_
  refine g_aload_nF dL_law_696 rfl ?_
  refine g_iload_n dL_law_697 rfl ?_
  refine g_iconst dL_law_698 ⟨by decide, by decide⟩ ?_
  obtain ⟨hc, hF⟩ := hF
  refine g_iadd dL_law_699 hc ?_
  obtain ⟨hc, hF⟩ := hF
  refine g_ialdF dL_law_700 (by decide) hc.1 hc.2 (g_fx0 _) ?_
  refine gl_cVi (b := 208) (As := [g_I (g_fx E 0 (v3 + 1).toNat)]) (rest := [g_I x1]) dL_law_701 mv_L_84 sh_208 rfl (Nat.le_of_ble_eq_true rfl) (by decide) hnc hns rfl hF ?_
  intro x2 D2 hx2 hF
  have hF := hF hx2
  refine g_ceq dL_law_704 rfl (fun q => ?_) (fun q => ?_)
  · have hF := hF.1 q
    exact hF
  · have hF := hF.2 q
    refine g_iconst dL_law_707 ⟨by decide, by decide⟩ ?_
    exact hF.elim
theorem s_L_law_709 {E : g_E} {l : Launch} {nc ns : Nat} {D : g_D} {v3 : Int} (hnc : nc ≤ 600000) (hns : ns ≤ 7302250) (hF : g_okD D → g_r v3 → k_X11_acts E l D (fun x1 D1 => g_r x1 → k_X12_acts E l D1 (fun x2 D2 => g_r x2 → (x1 = x2 → n_L_law E l nc ns D2 1450 [some (g_F 0), some (g_R 0), some (g_R 208), some (g_I v3)]) ∧ (¬ x1 = x2 → False)))) : n_L_law E l nc ns D 709 [some (g_F 0), some (g_R 0), some (g_R 208), some (g_I v3)] := by
  refine g_use (fun ok => ?_)
  have hF := hF ok.2.1 (ok.loc (i := 3) rfl)
  refine g_aload_n dL_law_709 rfl ?_
  refine gl_cVi (b := 0) (As := []) (rest := []) dL_law_710 mv_L_85 sh_0 rfl (Nat.le_of_ble_eq_true rfl) (by decide) hnc hns rfl hF ?_
  intro x1 D1 hx1 hF
  have hF := hF hx1
  refine g_aload_n dL_law_713 rfl ?_
  refine gl_cVi (b := 208) (As := []) (rest := [g_I x1]) dL_law_714 mv_L_88 sh_208 rfl (Nat.le_of_ble_eq_true rfl) (by decide) hnc hns rfl hF ?_
  intro x2 D2 hx2 hF
  have hF := hF hx2
  refine g_ceq dL_law_717 rfl (fun q => ?_) (fun q => ?_)
  · have hF := hF.1 q
    exact hF
  · have hF := hF.2 q
    refine g_iconst dL_law_720 ⟨by decide, by decide⟩ ?_
    exact hF.elim
theorem s_L_law_722 {E : g_E} {l : Launch} {nc ns : Nat} {D : g_D} {v3 : Int} (hnc : nc ≤ 600000) (hns : ns ≤ 7302250) (hF : g_okD D → g_r v3 → (g_r (v3 + 1)) ∧ ((0 ≤ ((v3 + 1) : Int) ∧ ((v3 + 1) : Int) < g_fl E 0) ∧ ((g_r (v3 + 2)) ∧ ((0 ≤ ((v3 + 2) : Int) ∧ ((v3 + 2) : Int) < g_fl E 0) ∧ (k_X11_act E l D (g_fx E 0 (v3 + 1).toNat) (g_fx E 0 (v3 + 2).toNat) (fun x1 D1 => g_r x1 → (g_r (v3 + 1)) ∧ ((0 ≤ ((v3 + 1) : Int) ∧ ((v3 + 1) : Int) < g_fl E 0) ∧ ((g_r (v3 + 2)) ∧ ((0 ≤ ((v3 + 2) : Int) ∧ ((v3 + 2) : Int) < g_fl E 0) ∧ (k_X12_act E l D1 (g_fx E 0 (v3 + 1).toNat) (g_fx E 0 (v3 + 2).toNat) (fun x2 D2 => g_r x2 → (x1 = x2 → n_L_law E l nc ns D2 1450 [some (g_F 0), some (g_R 0), some (g_R 208), some (g_I v3)]) ∧ (¬ x1 = x2 → False)))))))))))) : n_L_law E l nc ns D 722 [some (g_F 0), some (g_R 0), some (g_R 208), some (g_I v3)] := by
  refine g_use (fun ok => ?_)
  have hF := hF ok.2.1 (ok.loc (i := 3) rfl)
  refine g_aload_n dL_law_722 rfl ?_
  refine g_aload_nF dL_law_723 rfl ?_
  refine g_iload_n dL_law_724 rfl ?_
  refine g_iconst dL_law_725 ⟨by decide, by decide⟩ ?_
  obtain ⟨hc, hF⟩ := hF
  refine g_iadd dL_law_726 hc ?_
  obtain ⟨hc, hF⟩ := hF
  refine g_ialdF dL_law_727 (by decide) hc.1 hc.2 (g_fx0 _) ?_
  refine g_aload_nF dL_law_728 rfl ?_
  refine g_iload_n dL_law_729 rfl ?_
  refine g_iconst dL_law_730 ⟨by decide, by decide⟩ ?_
  obtain ⟨hc, hF⟩ := hF
  refine g_iadd dL_law_731 hc ?_
  obtain ⟨hc, hF⟩ := hF
  refine g_ialdF dL_law_732 (by decide) hc.1 hc.2 (g_fx0 _) ?_
  refine gl_cVi (b := 0) (As := [g_I (g_fx E 0 (v3 + 1).toNat), g_I (g_fx E 0 (v3 + 2).toNat)]) (rest := []) dL_law_733 mv_L_89 sh_0 rfl (Nat.le_of_ble_eq_true rfl) (by decide) hnc hns rfl hF ?_
  intro x1 D1 hx1 hF
  have hF := hF hx1
  refine g_aload_n dL_law_736 rfl ?_
  refine g_aload_nF dL_law_737 rfl ?_
  refine g_iload_n dL_law_738 rfl ?_
  refine g_iconst dL_law_739 ⟨by decide, by decide⟩ ?_
  obtain ⟨hc, hF⟩ := hF
  refine g_iadd dL_law_740 hc ?_
  obtain ⟨hc, hF⟩ := hF
  refine g_ialdF dL_law_741 (by decide) hc.1 hc.2 (g_fx0 _) ?_
  refine g_aload_nF dL_law_742 rfl ?_
  refine g_iload_n dL_law_743 rfl ?_
  refine g_iconst dL_law_744 ⟨by decide, by decide⟩ ?_
  obtain ⟨hc, hF⟩ := hF
  refine g_iadd dL_law_745 hc ?_
  obtain ⟨hc, hF⟩ := hF
  refine g_ialdF dL_law_746 (by decide) hc.1 hc.2 (g_fx0 _) ?_
  refine gl_cVi (b := 208) (As := [g_I (g_fx E 0 (v3 + 1).toNat), g_I (g_fx E 0 (v3 + 2).toNat)]) (rest := [g_I x1]) dL_law_747 mv_L_92 sh_208 rfl (Nat.le_of_ble_eq_true rfl) (by decide) hnc hns rfl hF ?_
  intro x2 D2 hx2 hF
  have hF := hF hx2
  refine g_ceq dL_law_750 rfl (fun q => ?_) (fun q => ?_)
  · have hF := hF.1 q
    exact hF
  · have hF := hF.2 q
    refine g_iconst dL_law_753 ⟨by decide, by decide⟩ ?_
    exact hF.elim
theorem s_L_law_755 {E : g_E} {l : Launch} {nc ns : Nat} {D : g_D} {v3 : Int} (hnc : nc ≤ 600000) (hns : ns ≤ 7302250) (hF : g_okD D → g_r v3 → (g_r (v3 + 1)) ∧ ((0 ≤ ((v3 + 1) : Int) ∧ ((v3 + 1) : Int) < g_fl E 0) ∧ (k_X11_plan E l D (g_fx E 0 (v3 + 1).toNat) (fun x1 D1 => g_r x1 → (g_r (v3 + 1)) ∧ ((0 ≤ ((v3 + 1) : Int) ∧ ((v3 + 1) : Int) < g_fl E 0) ∧ (k_X12_plan E l D1 (g_fx E 0 (v3 + 1).toNat) (fun x2 D2 => g_r x2 → (x1 = x2 → n_L_law E l nc ns D2 1450 [some (g_F 0), some (g_R 0), some (g_R 208), some (g_I v3)]) ∧ (¬ x1 = x2 → False)))))))) : n_L_law E l nc ns D 755 [some (g_F 0), some (g_R 0), some (g_R 208), some (g_I v3)] := by
  refine g_use (fun ok => ?_)
  have hF := hF ok.2.1 (ok.loc (i := 3) rfl)
  refine g_aload_n dL_law_755 rfl ?_
  refine g_aload_nF dL_law_756 rfl ?_
  refine g_iload_n dL_law_757 rfl ?_
  refine g_iconst dL_law_758 ⟨by decide, by decide⟩ ?_
  obtain ⟨hc, hF⟩ := hF
  refine g_iadd dL_law_759 hc ?_
  obtain ⟨hc, hF⟩ := hF
  refine g_ialdF dL_law_760 (by decide) hc.1 hc.2 (g_fx0 _) ?_
  refine gl_cVi (b := 0) (As := [g_I (g_fx E 0 (v3 + 1).toNat)]) (rest := []) dL_law_761 mv_L_93 sh_0 rfl (Nat.le_of_ble_eq_true rfl) (by decide) hnc hns rfl hF ?_
  intro x1 D1 hx1 hF
  have hF := hF hx1
  refine g_aload_n dL_law_764 rfl ?_
  refine g_aload_nF dL_law_765 rfl ?_
  refine g_iload_n dL_law_766 rfl ?_
  refine g_iconst dL_law_767 ⟨by decide, by decide⟩ ?_
  obtain ⟨hc, hF⟩ := hF
  refine g_iadd dL_law_768 hc ?_
  obtain ⟨hc, hF⟩ := hF
  refine g_ialdF dL_law_769 (by decide) hc.1 hc.2 (g_fx0 _) ?_
  refine gl_cVi (b := 208) (As := [g_I (g_fx E 0 (v3 + 1).toNat)]) (rest := [g_I x1]) dL_law_770 mv_L_96 sh_208 rfl (Nat.le_of_ble_eq_true rfl) (by decide) hnc hns rfl hF ?_
  intro x2 D2 hx2 hF
  have hF := hF hx2
  refine g_ceq dL_law_773 rfl (fun q => ?_) (fun q => ?_)
  · have hF := hF.1 q
    exact hF
  · have hF := hF.2 q
    refine g_iconst dL_law_776 ⟨by decide, by decide⟩ ?_
    exact hF.elim
theorem s_L_law_778 {E : g_E} {l : Launch} {nc ns : Nat} {D : g_D} {v3 : Int} (hnc : nc ≤ 600000) (hns : ns ≤ 7302250) (hF : g_okD D → g_r v3 → (g_r (v3 + 1)) ∧ ((0 ≤ ((v3 + 1) : Int) ∧ ((v3 + 1) : Int) < g_fl E 0) ∧ (k_X11_patch E l D (g_fx E 0 (v3 + 1).toNat) (fun x1 D1 => g_r x1 → (g_r (v3 + 1)) ∧ ((0 ≤ ((v3 + 1) : Int) ∧ ((v3 + 1) : Int) < g_fl E 0) ∧ (k_X12_patch E l D1 (g_fx E 0 (v3 + 1).toNat) (fun x2 D2 => g_r x2 → (x1 = x2 → n_L_law E l nc ns D2 1450 [some (g_F 0), some (g_R 0), some (g_R 208), some (g_I v3)]) ∧ (¬ x1 = x2 → False)))))))) : n_L_law E l nc ns D 778 [some (g_F 0), some (g_R 0), some (g_R 208), some (g_I v3)] := by
  refine g_use (fun ok => ?_)
  have hF := hF ok.2.1 (ok.loc (i := 3) rfl)
  refine g_aload_n dL_law_778 rfl ?_
  refine g_aload_nF dL_law_779 rfl ?_
  refine g_iload_n dL_law_780 rfl ?_
  refine g_iconst dL_law_781 ⟨by decide, by decide⟩ ?_
  obtain ⟨hc, hF⟩ := hF
  refine g_iadd dL_law_782 hc ?_
  obtain ⟨hc, hF⟩ := hF
  refine g_ialdF dL_law_783 (by decide) hc.1 hc.2 (g_fx0 _) ?_
  refine gl_cVi (b := 0) (As := [g_I (g_fx E 0 (v3 + 1).toNat)]) (rest := []) dL_law_784 mv_L_97 sh_0 rfl (Nat.le_of_ble_eq_true rfl) (by decide) hnc hns rfl hF ?_
  intro x1 D1 hx1 hF
  have hF := hF hx1
  refine g_aload_n dL_law_787 rfl ?_
  refine g_aload_nF dL_law_788 rfl ?_
  refine g_iload_n dL_law_789 rfl ?_
  refine g_iconst dL_law_790 ⟨by decide, by decide⟩ ?_
  obtain ⟨hc, hF⟩ := hF
  refine g_iadd dL_law_791 hc ?_
  obtain ⟨hc, hF⟩ := hF
  refine g_ialdF dL_law_792 (by decide) hc.1 hc.2 (g_fx0 _) ?_
  refine gl_cVi (b := 208) (As := [g_I (g_fx E 0 (v3 + 1).toNat)]) (rest := [g_I x1]) dL_law_793 mv_L_100 sh_208 rfl (Nat.le_of_ble_eq_true rfl) (by decide) hnc hns rfl hF ?_
  intro x2 D2 hx2 hF
  have hF := hF hx2
  refine g_ceq dL_law_796 rfl (fun q => ?_) (fun q => ?_)
  · have hF := hF.1 q
    exact hF
  · have hF := hF.2 q
    refine g_iconst dL_law_799 ⟨by decide, by decide⟩ ?_
    exact hF.elim
theorem s_L_law_801 {E : g_E} {l : Launch} {nc ns : Nat} {D : g_D} {v3 : Int} (hnc : nc ≤ 600000) (hns : ns ≤ 7302250) (hF : g_okD D → g_r v3 → k_X11_needs E l D (fun x1 D1 => g_r x1 → k_X12_needs E l D1 (fun x2 D2 => g_r x2 → (x1 = x2 → n_L_law E l nc ns D2 1450 [some (g_F 0), some (g_R 0), some (g_R 208), some (g_I v3)]) ∧ (¬ x1 = x2 → False)))) : n_L_law E l nc ns D 801 [some (g_F 0), some (g_R 0), some (g_R 208), some (g_I v3)] := by
  refine g_use (fun ok => ?_)
  have hF := hF ok.2.1 (ok.loc (i := 3) rfl)
  refine g_aload_n dL_law_801 rfl ?_
  refine gl_cVi (b := 0) (As := []) (rest := []) dL_law_802 mv_L_101 sh_0 rfl (Nat.le_of_ble_eq_true rfl) (by decide) hnc hns rfl hF ?_
  intro x1 D1 hx1 hF
  have hF := hF hx1
  refine g_aload_n dL_law_805 rfl ?_
  refine gl_cVi (b := 208) (As := []) (rest := [g_I x1]) dL_law_806 mv_L_104 sh_208 rfl (Nat.le_of_ble_eq_true rfl) (by decide) hnc hns rfl hF ?_
  intro x2 D2 hx2 hF
  have hF := hF hx2
  refine g_ceq dL_law_809 rfl (fun q => ?_) (fun q => ?_)
  · have hF := hF.1 q
    exact hF
  · have hF := hF.2 q
    refine g_iconst dL_law_812 ⟨by decide, by decide⟩ ?_
    exact hF.elim
theorem s_L_law_814 {E : g_E} {l : Launch} {nc ns : Nat} {D : g_D} {v3 : Int} (hnc : nc ≤ 600000) (hns : ns ≤ 7302250) (hF : g_okD D → g_r v3 → (g_r (v3 + 1)) ∧ ((0 ≤ ((v3 + 1) : Int) ∧ ((v3 + 1) : Int) < g_fl E 0) ∧ (k_X11_sized E l D (g_fx E 0 (v3 + 1).toNat) (fun x1 D1 => g_r x1 → (g_r (v3 + 1)) ∧ ((0 ≤ ((v3 + 1) : Int) ∧ ((v3 + 1) : Int) < g_fl E 0) ∧ (k_X12_sized E l D1 (g_fx E 0 (v3 + 1).toNat) (fun x2 D2 => g_r x2 → (x1 = x2 → n_L_law E l nc ns D2 1450 [some (g_F 0), some (g_R 0), some (g_R 208), some (g_I v3)]) ∧ (¬ x1 = x2 → False)))))))) : n_L_law E l nc ns D 814 [some (g_F 0), some (g_R 0), some (g_R 208), some (g_I v3)] := by
  refine g_use (fun ok => ?_)
  have hF := hF ok.2.1 (ok.loc (i := 3) rfl)
  refine g_aload_n dL_law_814 rfl ?_
  refine g_aload_nF dL_law_815 rfl ?_
  refine g_iload_n dL_law_816 rfl ?_
  refine g_iconst dL_law_817 ⟨by decide, by decide⟩ ?_
  obtain ⟨hc, hF⟩ := hF
  refine g_iadd dL_law_818 hc ?_
  obtain ⟨hc, hF⟩ := hF
  refine g_ialdF dL_law_819 (by decide) hc.1 hc.2 (g_fx0 _) ?_
  refine gl_cVi (b := 0) (As := [g_I (g_fx E 0 (v3 + 1).toNat)]) (rest := []) dL_law_820 mv_L_105 sh_0 rfl (Nat.le_of_ble_eq_true rfl) (by decide) hnc hns rfl hF ?_
  intro x1 D1 hx1 hF
  have hF := hF hx1
  refine g_aload_n dL_law_823 rfl ?_
  refine g_aload_nF dL_law_824 rfl ?_
  refine g_iload_n dL_law_825 rfl ?_
  refine g_iconst dL_law_826 ⟨by decide, by decide⟩ ?_
  obtain ⟨hc, hF⟩ := hF
  refine g_iadd dL_law_827 hc ?_
  obtain ⟨hc, hF⟩ := hF
  refine g_ialdF dL_law_828 (by decide) hc.1 hc.2 (g_fx0 _) ?_
  refine gl_cVi (b := 208) (As := [g_I (g_fx E 0 (v3 + 1).toNat)]) (rest := [g_I x1]) dL_law_829 mv_L_108 sh_208 rfl (Nat.le_of_ble_eq_true rfl) (by decide) hnc hns rfl hF ?_
  intro x2 D2 hx2 hF
  have hF := hF hx2
  refine g_ceq dL_law_832 rfl (fun q => ?_) (fun q => ?_)
  · have hF := hF.1 q
    exact hF
  · have hF := hF.2 q
    refine g_iconst dL_law_835 ⟨by decide, by decide⟩ ?_
    exact hF.elim
theorem s_L_law_837 {E : g_E} {l : Launch} {nc ns : Nat} {D : g_D} {v3 : Int} (hnc : nc ≤ 600000) (hns : ns ≤ 7302250) (hF : g_okD D → g_r v3 → k_X11_turned E l D (fun x1 D1 => g_r x1 → k_X12_turned E l D1 (fun x2 D2 => g_r x2 → (x1 = x2 → n_L_law E l nc ns D2 1450 [some (g_F 0), some (g_R 0), some (g_R 208), some (g_I v3)]) ∧ (¬ x1 = x2 → False)))) : n_L_law E l nc ns D 837 [some (g_F 0), some (g_R 0), some (g_R 208), some (g_I v3)] := by
  refine g_use (fun ok => ?_)
  have hF := hF ok.2.1 (ok.loc (i := 3) rfl)
  refine g_aload_n dL_law_837 rfl ?_
  refine gl_cVi (b := 0) (As := []) (rest := []) dL_law_838 mv_L_109 sh_0 rfl (Nat.le_of_ble_eq_true rfl) (by decide) hnc hns rfl hF ?_
  intro x1 D1 hx1 hF
  have hF := hF hx1
  refine g_aload_n dL_law_841 rfl ?_
  refine gl_cVi (b := 208) (As := []) (rest := [g_I x1]) dL_law_842 mv_L_112 sh_208 rfl (Nat.le_of_ble_eq_true rfl) (by decide) hnc hns rfl hF ?_
  intro x2 D2 hx2 hF
  have hF := hF hx2
  refine g_ceq dL_law_845 rfl (fun q => ?_) (fun q => ?_)
  · have hF := hF.1 q
    exact hF
  · have hF := hF.2 q
    refine g_iconst dL_law_848 ⟨by decide, by decide⟩ ?_
    exact hF.elim
theorem s_L_law_850 {E : g_E} {l : Launch} {nc ns : Nat} {D : g_D} {v3 : Int} (hnc : nc ≤ 600000) (hns : ns ≤ 7302250) (hF : g_okD D → g_r v3 → (g_r (v3 + 1)) ∧ ((0 ≤ ((v3 + 1) : Int) ∧ ((v3 + 1) : Int) < g_fl E 0) ∧ (k_X11_best E l D (g_fx E 0 (v3 + 1).toNat) (fun x1 D1 => g_r x1 → (g_r (v3 + 1)) ∧ ((0 ≤ ((v3 + 1) : Int) ∧ ((v3 + 1) : Int) < g_fl E 0) ∧ (k_X12_best E l D1 (g_fx E 0 (v3 + 1).toNat) (fun x2 D2 => g_r x2 → (x1 = x2 → n_L_law E l nc ns D2 1450 [some (g_F 0), some (g_R 0), some (g_R 208), some (g_I v3)]) ∧ (¬ x1 = x2 → False)))))))) : n_L_law E l nc ns D 850 [some (g_F 0), some (g_R 0), some (g_R 208), some (g_I v3)] := by
  refine g_use (fun ok => ?_)
  have hF := hF ok.2.1 (ok.loc (i := 3) rfl)
  refine g_aload_n dL_law_850 rfl ?_
  refine g_aload_nF dL_law_851 rfl ?_
  refine g_iload_n dL_law_852 rfl ?_
  refine g_iconst dL_law_853 ⟨by decide, by decide⟩ ?_
  obtain ⟨hc, hF⟩ := hF
  refine g_iadd dL_law_854 hc ?_
  obtain ⟨hc, hF⟩ := hF
  refine g_ialdF dL_law_855 (by decide) hc.1 hc.2 (g_fx0 _) ?_
  refine gl_cVi (b := 0) (As := [g_I (g_fx E 0 (v3 + 1).toNat)]) (rest := []) dL_law_856 mv_L_113 sh_0 rfl (Nat.le_of_ble_eq_true rfl) (by decide) hnc hns rfl hF ?_
  intro x1 D1 hx1 hF
  have hF := hF hx1
  refine g_aload_n dL_law_859 rfl ?_
  refine g_aload_nF dL_law_860 rfl ?_
  refine g_iload_n dL_law_861 rfl ?_
  refine g_iconst dL_law_862 ⟨by decide, by decide⟩ ?_
  obtain ⟨hc, hF⟩ := hF
  refine g_iadd dL_law_863 hc ?_
  obtain ⟨hc, hF⟩ := hF
  refine g_ialdF dL_law_864 (by decide) hc.1 hc.2 (g_fx0 _) ?_
  refine gl_cVi (b := 208) (As := [g_I (g_fx E 0 (v3 + 1).toNat)]) (rest := [g_I x1]) dL_law_865 mv_L_116 sh_208 rfl (Nat.le_of_ble_eq_true rfl) (by decide) hnc hns rfl hF ?_
  intro x2 D2 hx2 hF
  have hF := hF hx2
  refine g_ceq dL_law_868 rfl (fun q => ?_) (fun q => ?_)
  · have hF := hF.1 q
    exact hF
  · have hF := hF.2 q
    refine g_iconst dL_law_871 ⟨by decide, by decide⟩ ?_
    exact hF.elim
theorem s_L_law_873 {E : g_E} {l : Launch} {nc ns : Nat} {D : g_D} {v3 : Int} (hnc : nc ≤ 600000) (hns : ns ≤ 7302250) (hF : g_okD D → g_r v3 → (g_r (v3 + 1)) ∧ ((0 ≤ ((v3 + 1) : Int) ∧ ((v3 + 1) : Int) < g_fl E 0) ∧ (k_X11_share E l D (g_fx E 0 (v3 + 1).toNat) (fun x1 D1 => g_r x1 → (g_r (v3 + 1)) ∧ ((0 ≤ ((v3 + 1) : Int) ∧ ((v3 + 1) : Int) < g_fl E 0) ∧ (k_X12_share E l D1 (g_fx E 0 (v3 + 1).toNat) (fun x2 D2 => g_r x2 → (x1 = x2 → n_L_law E l nc ns D2 1450 [some (g_F 0), some (g_R 0), some (g_R 208), some (g_I v3)]) ∧ (¬ x1 = x2 → False)))))))) : n_L_law E l nc ns D 873 [some (g_F 0), some (g_R 0), some (g_R 208), some (g_I v3)] := by
  refine g_use (fun ok => ?_)
  have hF := hF ok.2.1 (ok.loc (i := 3) rfl)
  refine g_aload_n dL_law_873 rfl ?_
  refine g_aload_nF dL_law_874 rfl ?_
  refine g_iload_n dL_law_875 rfl ?_
  refine g_iconst dL_law_876 ⟨by decide, by decide⟩ ?_
  obtain ⟨hc, hF⟩ := hF
  refine g_iadd dL_law_877 hc ?_
  obtain ⟨hc, hF⟩ := hF
  refine g_ialdF dL_law_878 (by decide) hc.1 hc.2 (g_fx0 _) ?_
  refine gl_cVi (b := 0) (As := [g_I (g_fx E 0 (v3 + 1).toNat)]) (rest := []) dL_law_879 mv_L_117 sh_0 rfl (Nat.le_of_ble_eq_true rfl) (by decide) hnc hns rfl hF ?_
  intro x1 D1 hx1 hF
  have hF := hF hx1
  refine g_aload_n dL_law_882 rfl ?_
  refine g_aload_nF dL_law_883 rfl ?_
  refine g_iload_n dL_law_884 rfl ?_
  refine g_iconst dL_law_885 ⟨by decide, by decide⟩ ?_
  obtain ⟨hc, hF⟩ := hF
  refine g_iadd dL_law_886 hc ?_
  obtain ⟨hc, hF⟩ := hF
  refine g_ialdF dL_law_887 (by decide) hc.1 hc.2 (g_fx0 _) ?_
  refine gl_cVi (b := 208) (As := [g_I (g_fx E 0 (v3 + 1).toNat)]) (rest := [g_I x1]) dL_law_888 mv_L_120 sh_208 rfl (Nat.le_of_ble_eq_true rfl) (by decide) hnc hns rfl hF ?_
  intro x2 D2 hx2 hF
  have hF := hF hx2
  refine g_ceq dL_law_891 rfl (fun q => ?_) (fun q => ?_)
  · have hF := hF.1 q
    exact hF
  · have hF := hF.2 q
    refine g_iconst dL_law_894 ⟨by decide, by decide⟩ ?_
    exact hF.elim
theorem s_L_law_896 {E : g_E} {l : Launch} {nc ns : Nat} {D : g_D} {v3 : Int} (hnc : nc ≤ 600000) (hns : ns ≤ 7302250) (hF : g_okD D → g_r v3 → k_X11_burn E l D (fun x1 D1 => g_r x1 → k_X12_burn E l D1 (fun x2 D2 => g_r x2 → (x1 = x2 → n_L_law E l nc ns D2 1450 [some (g_F 0), some (g_R 0), some (g_R 208), some (g_I v3)]) ∧ (¬ x1 = x2 → False)))) : n_L_law E l nc ns D 896 [some (g_F 0), some (g_R 0), some (g_R 208), some (g_I v3)] := by
  refine g_use (fun ok => ?_)
  have hF := hF ok.2.1 (ok.loc (i := 3) rfl)
  refine g_aload_n dL_law_896 rfl ?_
  refine gl_cVi (b := 0) (As := []) (rest := []) dL_law_897 mv_L_121 sh_0 rfl (Nat.le_of_ble_eq_true rfl) (by decide) hnc hns rfl hF ?_
  intro x1 D1 hx1 hF
  have hF := hF hx1
  refine g_aload_n dL_law_900 rfl ?_
  refine gl_cVi (b := 208) (As := []) (rest := [g_I x1]) dL_law_901 mv_L_124 sh_208 rfl (Nat.le_of_ble_eq_true rfl) (by decide) hnc hns rfl hF ?_
  intro x2 D2 hx2 hF
  have hF := hF hx2
  refine g_ceq dL_law_904 rfl (fun q => ?_) (fun q => ?_)
  · have hF := hF.1 q
    exact hF
  · have hF := hF.2 q
    refine g_iconst dL_law_907 ⟨by decide, by decide⟩ ?_
    exact hF.elim
theorem s_L_law_909 {E : g_E} {l : Launch} {nc ns : Nat} {D : g_D} {v3 : Int} (hnc : nc ≤ 600000) (hns : ns ≤ 7302250) (hF : g_okD D → g_r v3 → k_X11_take E l D (fun x1 D1 => g_r x1 → k_X12_take E l D1 (fun x2 D2 => g_r x2 → (x1 = x2 → n_L_law E l nc ns D2 1450 [some (g_F 0), some (g_R 0), some (g_R 208), some (g_I v3)]) ∧ (¬ x1 = x2 → False)))) : n_L_law E l nc ns D 909 [some (g_F 0), some (g_R 0), some (g_R 208), some (g_I v3)] := by
  refine g_use (fun ok => ?_)
  have hF := hF ok.2.1 (ok.loc (i := 3) rfl)
  refine g_aload_n dL_law_909 rfl ?_
  refine gl_cVi (b := 0) (As := []) (rest := []) dL_law_910 mv_L_125 sh_0 rfl (Nat.le_of_ble_eq_true rfl) (by decide) hnc hns rfl hF ?_
  intro x1 D1 hx1 hF
  have hF := hF hx1
  refine g_aload_n dL_law_913 rfl ?_
  refine gl_cVi (b := 208) (As := []) (rest := [g_I x1]) dL_law_914 mv_L_128 sh_208 rfl (Nat.le_of_ble_eq_true rfl) (by decide) hnc hns rfl hF ?_
  intro x2 D2 hx2 hF
  have hF := hF hx2
  refine g_ceq dL_law_917 rfl (fun q => ?_) (fun q => ?_)
  · have hF := hF.1 q
    exact hF
  · have hF := hF.2 q
    refine g_iconst dL_law_920 ⟨by decide, by decide⟩ ?_
    exact hF.elim
theorem s_L_law_922 {E : g_E} {l : Launch} {nc ns : Nat} {D : g_D} {v3 : Int} (hnc : nc ≤ 600000) (hns : ns ≤ 7302250) (hF : g_okD D → g_r v3 → (g_r (v3 + 1)) ∧ ((0 ≤ ((v3 + 1) : Int) ∧ ((v3 + 1) : Int) < g_fl E 0) ∧ (k_X11_load E l D (g_fx E 0 (v3 + 1).toNat) (fun x1 D1 => g_r x1 → (g_r (v3 + 1)) ∧ ((0 ≤ ((v3 + 1) : Int) ∧ ((v3 + 1) : Int) < g_fl E 0) ∧ (k_X12_load E l D1 (g_fx E 0 (v3 + 1).toNat) (fun x2 D2 => g_r x2 → (x1 = x2 → n_L_law E l nc ns D2 1450 [some (g_F 0), some (g_R 0), some (g_R 208), some (g_I v3)]) ∧ (¬ x1 = x2 → False)))))))) : n_L_law E l nc ns D 922 [some (g_F 0), some (g_R 0), some (g_R 208), some (g_I v3)] := by
  refine g_use (fun ok => ?_)
  have hF := hF ok.2.1 (ok.loc (i := 3) rfl)
  refine g_aload_n dL_law_922 rfl ?_
  refine g_aload_nF dL_law_923 rfl ?_
  refine g_iload_n dL_law_924 rfl ?_
  refine g_iconst dL_law_925 ⟨by decide, by decide⟩ ?_
  obtain ⟨hc, hF⟩ := hF
  refine g_iadd dL_law_926 hc ?_
  obtain ⟨hc, hF⟩ := hF
  refine g_ialdF dL_law_927 (by decide) hc.1 hc.2 (g_fx0 _) ?_
  refine gl_cVi (b := 0) (As := [g_I (g_fx E 0 (v3 + 1).toNat)]) (rest := []) dL_law_928 mv_L_129 sh_0 rfl (Nat.le_of_ble_eq_true rfl) (by decide) hnc hns rfl hF ?_
  intro x1 D1 hx1 hF
  have hF := hF hx1
  refine g_aload_n dL_law_931 rfl ?_
  refine g_aload_nF dL_law_932 rfl ?_
  refine g_iload_n dL_law_933 rfl ?_
  refine g_iconst dL_law_934 ⟨by decide, by decide⟩ ?_
  obtain ⟨hc, hF⟩ := hF
  refine g_iadd dL_law_935 hc ?_
  obtain ⟨hc, hF⟩ := hF
  refine g_ialdF dL_law_936 (by decide) hc.1 hc.2 (g_fx0 _) ?_
  refine gl_cVi (b := 208) (As := [g_I (g_fx E 0 (v3 + 1).toNat)]) (rest := [g_I x1]) dL_law_937 mv_L_132 sh_208 rfl (Nat.le_of_ble_eq_true rfl) (by decide) hnc hns rfl hF ?_
  intro x2 D2 hx2 hF
  have hF := hF hx2
  refine g_ceq dL_law_940 rfl (fun q => ?_) (fun q => ?_)
  · have hF := hF.1 q
    exact hF
  · have hF := hF.2 q
    refine g_iconst dL_law_943 ⟨by decide, by decide⟩ ?_
    exact hF.elim
theorem s_L_law_945 {E : g_E} {l : Launch} {nc ns : Nat} {D : g_D} {v3 : Int} (hnc : nc ≤ 600000) (hns : ns ≤ 7302250) (hF : g_okD D → g_r v3 → (g_r (v3 + 1)) ∧ ((0 ≤ ((v3 + 1) : Int) ∧ ((v3 + 1) : Int) < g_fl E 0) ∧ (k_X11_fault E l D (g_fx E 0 (v3 + 1).toNat) (fun x1 D1 => g_r x1 → (g_r (v3 + 1)) ∧ ((0 ≤ ((v3 + 1) : Int) ∧ ((v3 + 1) : Int) < g_fl E 0) ∧ (k_X12_fault E l D1 (g_fx E 0 (v3 + 1).toNat) (fun x2 D2 => g_r x2 → (x1 = x2 → n_L_law E l nc ns D2 1450 [some (g_F 0), some (g_R 0), some (g_R 208), some (g_I v3)]) ∧ (¬ x1 = x2 → False)))))))) : n_L_law E l nc ns D 945 [some (g_F 0), some (g_R 0), some (g_R 208), some (g_I v3)] := by
  refine g_use (fun ok => ?_)
  have hF := hF ok.2.1 (ok.loc (i := 3) rfl)
  refine g_aload_n dL_law_945 rfl ?_
  refine g_aload_nF dL_law_946 rfl ?_
  refine g_iload_n dL_law_947 rfl ?_
  refine g_iconst dL_law_948 ⟨by decide, by decide⟩ ?_
  obtain ⟨hc, hF⟩ := hF
  refine g_iadd dL_law_949 hc ?_
  obtain ⟨hc, hF⟩ := hF
  refine g_ialdF dL_law_950 (by decide) hc.1 hc.2 (g_fx0 _) ?_
  refine gl_cVi (b := 0) (As := [g_I (g_fx E 0 (v3 + 1).toNat)]) (rest := []) dL_law_951 mv_L_133 sh_0 rfl (Nat.le_of_ble_eq_true rfl) (by decide) hnc hns rfl hF ?_
  intro x1 D1 hx1 hF
  have hF := hF hx1
  refine g_aload_n dL_law_954 rfl ?_
  refine g_aload_nF dL_law_955 rfl ?_
  refine g_iload_n dL_law_956 rfl ?_
  refine g_iconst dL_law_957 ⟨by decide, by decide⟩ ?_
  obtain ⟨hc, hF⟩ := hF
  refine g_iadd dL_law_958 hc ?_
  obtain ⟨hc, hF⟩ := hF
  refine g_ialdF dL_law_959 (by decide) hc.1 hc.2 (g_fx0 _) ?_
  refine gl_cVi (b := 208) (As := [g_I (g_fx E 0 (v3 + 1).toNat)]) (rest := [g_I x1]) dL_law_960 mv_L_136 sh_208 rfl (Nat.le_of_ble_eq_true rfl) (by decide) hnc hns rfl hF ?_
  intro x2 D2 hx2 hF
  have hF := hF hx2
  refine g_ceq dL_law_963 rfl (fun q => ?_) (fun q => ?_)
  · have hF := hF.1 q
    exact hF
  · have hF := hF.2 q
    refine g_iconst dL_law_966 ⟨by decide, by decide⟩ ?_
    exact hF.elim
theorem s_L_law_968 {E : g_E} {l : Launch} {nc ns : Nat} {D : g_D} {v3 : Int} (hnc : nc ≤ 600000) (hns : ns ≤ 7302250) (hF : g_okD D → g_r v3 → k_X11_steps E l D (fun x1 D1 => g_r x1 → k_X12_steps E l D1 (fun x2 D2 => g_r x2 → (x1 = x2 → n_L_law E l nc ns D2 1450 [some (g_F 0), some (g_R 0), some (g_R 208), some (g_I v3)]) ∧ (¬ x1 = x2 → False)))) : n_L_law E l nc ns D 968 [some (g_F 0), some (g_R 0), some (g_R 208), some (g_I v3)] := by
  refine g_use (fun ok => ?_)
  have hF := hF ok.2.1 (ok.loc (i := 3) rfl)
  refine g_aload_n dL_law_968 rfl ?_
  refine gl_cVi (b := 0) (As := []) (rest := []) dL_law_969 mv_L_137 sh_0 rfl (Nat.le_of_ble_eq_true rfl) (by decide) hnc hns rfl hF ?_
  intro x1 D1 hx1 hF
  have hF := hF hx1
  refine g_aload_n dL_law_972 rfl ?_
  refine gl_cVi (b := 208) (As := []) (rest := [g_I x1]) dL_law_973 mv_L_140 sh_208 rfl (Nat.le_of_ble_eq_true rfl) (by decide) hnc hns rfl hF ?_
  intro x2 D2 hx2 hF
  have hF := hF hx2
  refine g_ceq dL_law_976 rfl (fun q => ?_) (fun q => ?_)
  · have hF := hF.1 q
    exact hF
  · have hF := hF.2 q
    refine g_iconst dL_law_979 ⟨by decide, by decide⟩ ?_
    exact hF.elim
theorem s_L_law_981 {E : g_E} {l : Launch} {nc ns : Nat} {D : g_D} {v3 : Int} (hnc : nc ≤ 600000) (hns : ns ≤ 7302250) (hF : g_okD D → g_r v3 → (g_r (v3 + 1)) ∧ ((0 ≤ ((v3 + 1) : Int) ∧ ((v3 + 1) : Int) < g_fl E 0) ∧ ((g_r (v3 + 2)) ∧ ((0 ≤ ((v3 + 2) : Int) ∧ ((v3 + 2) : Int) < g_fl E 0) ∧ (k_X11_step E l D (g_fx E 0 (v3 + 1).toNat) (g_fx E 0 (v3 + 2).toNat) (fun x1 D1 => g_r x1 → (g_r (v3 + 1)) ∧ ((0 ≤ ((v3 + 1) : Int) ∧ ((v3 + 1) : Int) < g_fl E 0) ∧ ((g_r (v3 + 2)) ∧ ((0 ≤ ((v3 + 2) : Int) ∧ ((v3 + 2) : Int) < g_fl E 0) ∧ (k_X12_step E l D1 (g_fx E 0 (v3 + 1).toNat) (g_fx E 0 (v3 + 2).toNat) (fun x2 D2 => g_r x2 → (x1 = x2 → n_L_law E l nc ns D2 1450 [some (g_F 0), some (g_R 0), some (g_R 208), some (g_I v3)]) ∧ (¬ x1 = x2 → False)))))))))))) : n_L_law E l nc ns D 981 [some (g_F 0), some (g_R 0), some (g_R 208), some (g_I v3)] := by
  refine g_use (fun ok => ?_)
  have hF := hF ok.2.1 (ok.loc (i := 3) rfl)
  refine g_aload_n dL_law_981 rfl ?_
  refine g_aload_nF dL_law_982 rfl ?_
  refine g_iload_n dL_law_983 rfl ?_
  refine g_iconst dL_law_984 ⟨by decide, by decide⟩ ?_
  obtain ⟨hc, hF⟩ := hF
  refine g_iadd dL_law_985 hc ?_
  obtain ⟨hc, hF⟩ := hF
  refine g_ialdF dL_law_986 (by decide) hc.1 hc.2 (g_fx0 _) ?_
  refine g_aload_nF dL_law_987 rfl ?_
  refine g_iload_n dL_law_988 rfl ?_
  refine g_iconst dL_law_989 ⟨by decide, by decide⟩ ?_
  obtain ⟨hc, hF⟩ := hF
  refine g_iadd dL_law_990 hc ?_
  obtain ⟨hc, hF⟩ := hF
  refine g_ialdF dL_law_991 (by decide) hc.1 hc.2 (g_fx0 _) ?_
  refine gl_cVi (b := 0) (As := [g_I (g_fx E 0 (v3 + 1).toNat), g_I (g_fx E 0 (v3 + 2).toNat)]) (rest := []) dL_law_992 mv_L_141 sh_0 rfl (Nat.le_of_ble_eq_true rfl) (by decide) hnc hns rfl hF ?_
  intro x1 D1 hx1 hF
  have hF := hF hx1
  refine g_aload_n dL_law_995 rfl ?_
  refine g_aload_nF dL_law_996 rfl ?_
  refine g_iload_n dL_law_997 rfl ?_
  refine g_iconst dL_law_998 ⟨by decide, by decide⟩ ?_
  obtain ⟨hc, hF⟩ := hF
  refine g_iadd dL_law_999 hc ?_
  obtain ⟨hc, hF⟩ := hF
  refine g_ialdF dL_law_1000 (by decide) hc.1 hc.2 (g_fx0 _) ?_
  refine g_aload_nF dL_law_1001 rfl ?_
  refine g_iload_n dL_law_1002 rfl ?_
  refine g_iconst dL_law_1003 ⟨by decide, by decide⟩ ?_
  obtain ⟨hc, hF⟩ := hF
  refine g_iadd dL_law_1004 hc ?_
  obtain ⟨hc, hF⟩ := hF
  refine g_ialdF dL_law_1005 (by decide) hc.1 hc.2 (g_fx0 _) ?_
  refine gl_cVi (b := 208) (As := [g_I (g_fx E 0 (v3 + 1).toNat), g_I (g_fx E 0 (v3 + 2).toNat)]) (rest := [g_I x1]) dL_law_1006 mv_L_144 sh_208 rfl (Nat.le_of_ble_eq_true rfl) (by decide) hnc hns rfl hF ?_
  intro x2 D2 hx2 hF
  have hF := hF hx2
  refine g_ceq dL_law_1009 rfl (fun q => ?_) (fun q => ?_)
  · have hF := hF.1 q
    exact hF
  · have hF := hF.2 q
    refine g_iconst dL_law_1012 ⟨by decide, by decide⟩ ?_
    exact hF.elim
theorem s_L_law_1014 {E : g_E} {l : Launch} {nc ns : Nat} {D : g_D} {v3 : Int} (hnc : nc ≤ 600000) (hns : ns ≤ 7302250) (hF : g_okD D → g_r v3 → (g_r (v3 + 1)) ∧ ((0 ≤ ((v3 + 1) : Int) ∧ ((v3 + 1) : Int) < g_fl E 0) ∧ (k_X11_go E l D (g_fx E 0 (v3 + 1).toNat) (fun x1 D1 => g_r x1 → (g_r (v3 + 1)) ∧ ((0 ≤ ((v3 + 1) : Int) ∧ ((v3 + 1) : Int) < g_fl E 0) ∧ (k_X12_go E l D1 (g_fx E 0 (v3 + 1).toNat) (fun x2 D2 => g_r x2 → (x1 = x2 → n_L_law E l nc ns D2 1450 [some (g_F 0), some (g_R 0), some (g_R 208), some (g_I v3)]) ∧ (¬ x1 = x2 → False)))))))) : n_L_law E l nc ns D 1014 [some (g_F 0), some (g_R 0), some (g_R 208), some (g_I v3)] := by
  refine g_use (fun ok => ?_)
  have hF := hF ok.2.1 (ok.loc (i := 3) rfl)
  refine g_aload_n dL_law_1014 rfl ?_
  refine g_aload_nF dL_law_1015 rfl ?_
  refine g_iload_n dL_law_1016 rfl ?_
  refine g_iconst dL_law_1017 ⟨by decide, by decide⟩ ?_
  obtain ⟨hc, hF⟩ := hF
  refine g_iadd dL_law_1018 hc ?_
  obtain ⟨hc, hF⟩ := hF
  refine g_ialdF dL_law_1019 (by decide) hc.1 hc.2 (g_fx0 _) ?_
  refine gl_cVi (b := 0) (As := [g_I (g_fx E 0 (v3 + 1).toNat)]) (rest := []) dL_law_1020 mv_L_145 sh_0 rfl (Nat.le_of_ble_eq_true rfl) (by decide) hnc hns rfl hF ?_
  intro x1 D1 hx1 hF
  have hF := hF hx1
  refine g_aload_n dL_law_1023 rfl ?_
  refine g_aload_nF dL_law_1024 rfl ?_
  refine g_iload_n dL_law_1025 rfl ?_
  refine g_iconst dL_law_1026 ⟨by decide, by decide⟩ ?_
  obtain ⟨hc, hF⟩ := hF
  refine g_iadd dL_law_1027 hc ?_
  obtain ⟨hc, hF⟩ := hF
  refine g_ialdF dL_law_1028 (by decide) hc.1 hc.2 (g_fx0 _) ?_
  refine gl_cVi (b := 208) (As := [g_I (g_fx E 0 (v3 + 1).toNat)]) (rest := [g_I x1]) dL_law_1029 mv_L_148 sh_208 rfl (Nat.le_of_ble_eq_true rfl) (by decide) hnc hns rfl hF ?_
  intro x2 D2 hx2 hF
  have hF := hF hx2
  refine g_ceq dL_law_1032 rfl (fun q => ?_) (fun q => ?_)
  · have hF := hF.1 q
    exact hF
  · have hF := hF.2 q
    refine g_iconst dL_law_1035 ⟨by decide, by decide⟩ ?_
    exact hF.elim
theorem s_L_law_1037 {E : g_E} {l : Launch} {nc ns : Nat} {D : g_D} {v3 : Int} (hnc : nc ≤ 600000) (hns : ns ≤ 7302250) (hF : g_okD D → g_r v3 → (g_r (v3 + 1)) ∧ ((0 ≤ ((v3 + 1) : Int) ∧ ((v3 + 1) : Int) < g_fl E 0) ∧ ((g_r (v3 + 2)) ∧ ((0 ≤ ((v3 + 2) : Int) ∧ ((v3 + 2) : Int) < g_fl E 0) ∧ (k_X11_cut E l D (g_fx E 0 (v3 + 1).toNat) (g_fx E 0 (v3 + 2).toNat) (fun x1 D1 => g_r x1 → (g_r (v3 + 1)) ∧ ((0 ≤ ((v3 + 1) : Int) ∧ ((v3 + 1) : Int) < g_fl E 0) ∧ ((g_r (v3 + 2)) ∧ ((0 ≤ ((v3 + 2) : Int) ∧ ((v3 + 2) : Int) < g_fl E 0) ∧ (k_X12_cut E l D1 (g_fx E 0 (v3 + 1).toNat) (g_fx E 0 (v3 + 2).toNat) (fun x2 D2 => g_r x2 → (x1 = x2 → n_L_law E l nc ns D2 1450 [some (g_F 0), some (g_R 0), some (g_R 208), some (g_I v3)]) ∧ (¬ x1 = x2 → False)))))))))))) : n_L_law E l nc ns D 1037 [some (g_F 0), some (g_R 0), some (g_R 208), some (g_I v3)] := by
  refine g_use (fun ok => ?_)
  have hF := hF ok.2.1 (ok.loc (i := 3) rfl)
  refine g_aload_n dL_law_1037 rfl ?_
  refine g_aload_nF dL_law_1038 rfl ?_
  refine g_iload_n dL_law_1039 rfl ?_
  refine g_iconst dL_law_1040 ⟨by decide, by decide⟩ ?_
  obtain ⟨hc, hF⟩ := hF
  refine g_iadd dL_law_1041 hc ?_
  obtain ⟨hc, hF⟩ := hF
  refine g_ialdF dL_law_1042 (by decide) hc.1 hc.2 (g_fx0 _) ?_
  refine g_aload_nF dL_law_1043 rfl ?_
  refine g_iload_n dL_law_1044 rfl ?_
  refine g_iconst dL_law_1045 ⟨by decide, by decide⟩ ?_
  obtain ⟨hc, hF⟩ := hF
  refine g_iadd dL_law_1046 hc ?_
  obtain ⟨hc, hF⟩ := hF
  refine g_ialdF dL_law_1047 (by decide) hc.1 hc.2 (g_fx0 _) ?_
  refine gl_cVi (b := 0) (As := [g_I (g_fx E 0 (v3 + 1).toNat), g_I (g_fx E 0 (v3 + 2).toNat)]) (rest := []) dL_law_1048 mv_L_149 sh_0 rfl (Nat.le_of_ble_eq_true rfl) (by decide) hnc hns rfl hF ?_
  intro x1 D1 hx1 hF
  have hF := hF hx1
  refine g_aload_n dL_law_1051 rfl ?_
  refine g_aload_nF dL_law_1052 rfl ?_
  refine g_iload_n dL_law_1053 rfl ?_
  refine g_iconst dL_law_1054 ⟨by decide, by decide⟩ ?_
  obtain ⟨hc, hF⟩ := hF
  refine g_iadd dL_law_1055 hc ?_
  obtain ⟨hc, hF⟩ := hF
  refine g_ialdF dL_law_1056 (by decide) hc.1 hc.2 (g_fx0 _) ?_
  refine g_aload_nF dL_law_1057 rfl ?_
  refine g_iload_n dL_law_1058 rfl ?_
  refine g_iconst dL_law_1059 ⟨by decide, by decide⟩ ?_
  obtain ⟨hc, hF⟩ := hF
  refine g_iadd dL_law_1060 hc ?_
  obtain ⟨hc, hF⟩ := hF
  refine g_ialdF dL_law_1061 (by decide) hc.1 hc.2 (g_fx0 _) ?_
  refine gl_cVi (b := 208) (As := [g_I (g_fx E 0 (v3 + 1).toNat), g_I (g_fx E 0 (v3 + 2).toNat)]) (rest := [g_I x1]) dL_law_1062 mv_L_152 sh_208 rfl (Nat.le_of_ble_eq_true rfl) (by decide) hnc hns rfl hF ?_
  intro x2 D2 hx2 hF
  have hF := hF hx2
  refine g_ceq dL_law_1065 rfl (fun q => ?_) (fun q => ?_)
  · have hF := hF.1 q
    exact hF
  · have hF := hF.2 q
    refine g_iconst dL_law_1068 ⟨by decide, by decide⟩ ?_
    exact hF.elim
theorem s_L_law_1070 {E : g_E} {l : Launch} {nc ns : Nat} {D : g_D} {v3 : Int} (hnc : nc ≤ 600000) (hns : ns ≤ 7302250) (hF : g_okD D → g_r v3 → k_X11_forget E l D (fun x1 D1 => g_r x1 → k_X12_forget E l D1 (fun x2 D2 => g_r x2 → (x1 = x2 → n_L_law E l nc ns D2 1450 [some (g_F 0), some (g_R 0), some (g_R 208), some (g_I v3)]) ∧ (¬ x1 = x2 → False)))) : n_L_law E l nc ns D 1070 [some (g_F 0), some (g_R 0), some (g_R 208), some (g_I v3)] := by
  refine g_use (fun ok => ?_)
  have hF := hF ok.2.1 (ok.loc (i := 3) rfl)
  refine g_aload_n dL_law_1070 rfl ?_
  refine gl_cVi (b := 0) (As := []) (rest := []) dL_law_1071 mv_L_153 sh_0 rfl (Nat.le_of_ble_eq_true rfl) (by decide) hnc hns rfl hF ?_
  intro x1 D1 hx1 hF
  have hF := hF hx1
  refine g_aload_n dL_law_1074 rfl ?_
  refine gl_cVi (b := 208) (As := []) (rest := [g_I x1]) dL_law_1075 mv_L_156 sh_208 rfl (Nat.le_of_ble_eq_true rfl) (by decide) hnc hns rfl hF ?_
  intro x2 D2 hx2 hF
  have hF := hF hx2
  refine g_ceq dL_law_1078 rfl (fun q => ?_) (fun q => ?_)
  · have hF := hF.1 q
    exact hF
  · have hF := hF.2 q
    refine g_iconst dL_law_1081 ⟨by decide, by decide⟩ ?_
    exact hF.elim
theorem s_L_law_1083 {E : g_E} {l : Launch} {nc ns : Nat} {D : g_D} {v3 : Int} (hnc : nc ≤ 600000) (hns : ns ≤ 7302250) (hF : g_okD D → g_r v3 → k_X11_boot E l D (fun x1 D1 => g_r x1 → k_X12_boot E l D1 (fun x2 D2 => g_r x2 → (x1 = x2 → n_L_law E l nc ns D2 1450 [some (g_F 0), some (g_R 0), some (g_R 208), some (g_I v3)]) ∧ (¬ x1 = x2 → False)))) : n_L_law E l nc ns D 1083 [some (g_F 0), some (g_R 0), some (g_R 208), some (g_I v3)] := by
  refine g_use (fun ok => ?_)
  have hF := hF ok.2.1 (ok.loc (i := 3) rfl)
  refine g_aload_n dL_law_1083 rfl ?_
  refine gl_cVi (b := 0) (As := []) (rest := []) dL_law_1084 mv_L_157 sh_0 rfl (Nat.le_of_ble_eq_true rfl) (by decide) hnc hns rfl hF ?_
  intro x1 D1 hx1 hF
  have hF := hF hx1
  refine g_aload_n dL_law_1087 rfl ?_
  refine gl_cVi (b := 208) (As := []) (rest := [g_I x1]) dL_law_1088 mv_L_160 sh_208 rfl (Nat.le_of_ble_eq_true rfl) (by decide) hnc hns rfl hF ?_
  intro x2 D2 hx2 hF
  have hF := hF hx2
  refine g_ceq dL_law_1091 rfl (fun q => ?_) (fun q => ?_)
  · have hF := hF.1 q
    exact hF
  · have hF := hF.2 q
    refine g_iconst dL_law_1094 ⟨by decide, by decide⟩ ?_
    exact hF.elim
theorem s_L_law_1096 {E : g_E} {l : Launch} {nc ns : Nat} {D : g_D} {v3 : Int} (hnc : nc ≤ 600000) (hns : ns ≤ 7302250) (hF : g_okD D → g_r v3 → (g_r (v3 + 1)) ∧ ((0 ≤ ((v3 + 1) : Int) ∧ ((v3 + 1) : Int) < g_fl E 0) ∧ ((g_r (v3 + 2)) ∧ ((0 ≤ ((v3 + 2) : Int) ∧ ((v3 + 2) : Int) < g_fl E 0) ∧ (k_X11_spoil E l D (g_fx E 0 (v3 + 1).toNat) (g_fx E 0 (v3 + 2).toNat) (fun x1 D1 => g_r x1 → (g_r (v3 + 1)) ∧ ((0 ≤ ((v3 + 1) : Int) ∧ ((v3 + 1) : Int) < g_fl E 0) ∧ ((g_r (v3 + 2)) ∧ ((0 ≤ ((v3 + 2) : Int) ∧ ((v3 + 2) : Int) < g_fl E 0) ∧ (k_X12_spoil E l D1 (g_fx E 0 (v3 + 1).toNat) (g_fx E 0 (v3 + 2).toNat) (fun x2 D2 => g_r x2 → (x1 = x2 → n_L_law E l nc ns D2 1450 [some (g_F 0), some (g_R 0), some (g_R 208), some (g_I v3)]) ∧ (¬ x1 = x2 → False)))))))))))) : n_L_law E l nc ns D 1096 [some (g_F 0), some (g_R 0), some (g_R 208), some (g_I v3)] := by
  refine g_use (fun ok => ?_)
  have hF := hF ok.2.1 (ok.loc (i := 3) rfl)
  refine g_aload_n dL_law_1096 rfl ?_
  refine g_aload_nF dL_law_1097 rfl ?_
  refine g_iload_n dL_law_1098 rfl ?_
  refine g_iconst dL_law_1099 ⟨by decide, by decide⟩ ?_
  obtain ⟨hc, hF⟩ := hF
  refine g_iadd dL_law_1100 hc ?_
  obtain ⟨hc, hF⟩ := hF
  refine g_ialdF dL_law_1101 (by decide) hc.1 hc.2 (g_fx0 _) ?_
  refine g_aload_nF dL_law_1102 rfl ?_
  refine g_iload_n dL_law_1103 rfl ?_
  refine g_iconst dL_law_1104 ⟨by decide, by decide⟩ ?_
  obtain ⟨hc, hF⟩ := hF
  refine g_iadd dL_law_1105 hc ?_
  obtain ⟨hc, hF⟩ := hF
  refine g_ialdF dL_law_1106 (by decide) hc.1 hc.2 (g_fx0 _) ?_
  refine gl_cVi (b := 0) (As := [g_I (g_fx E 0 (v3 + 1).toNat), g_I (g_fx E 0 (v3 + 2).toNat)]) (rest := []) dL_law_1107 mv_L_161 sh_0 rfl (Nat.le_of_ble_eq_true rfl) (by decide) hnc hns rfl hF ?_
  intro x1 D1 hx1 hF
  have hF := hF hx1
  refine g_aload_n dL_law_1110 rfl ?_
  refine g_aload_nF dL_law_1111 rfl ?_
  refine g_iload_n dL_law_1112 rfl ?_
  refine g_iconst dL_law_1113 ⟨by decide, by decide⟩ ?_
  obtain ⟨hc, hF⟩ := hF
  refine g_iadd dL_law_1114 hc ?_
  obtain ⟨hc, hF⟩ := hF
  refine g_ialdF dL_law_1115 (by decide) hc.1 hc.2 (g_fx0 _) ?_
  refine g_aload_nF dL_law_1116 rfl ?_
  refine g_iload_n dL_law_1117 rfl ?_
  refine g_iconst dL_law_1118 ⟨by decide, by decide⟩ ?_
  obtain ⟨hc, hF⟩ := hF
  refine g_iadd dL_law_1119 hc ?_
  obtain ⟨hc, hF⟩ := hF
  refine g_ialdF dL_law_1120 (by decide) hc.1 hc.2 (g_fx0 _) ?_
  refine gl_cVi (b := 208) (As := [g_I (g_fx E 0 (v3 + 1).toNat), g_I (g_fx E 0 (v3 + 2).toNat)]) (rest := [g_I x1]) dL_law_1121 mv_L_164 sh_208 rfl (Nat.le_of_ble_eq_true rfl) (by decide) hnc hns rfl hF ?_
  intro x2 D2 hx2 hF
  have hF := hF hx2
  refine g_ceq dL_law_1124 rfl (fun q => ?_) (fun q => ?_)
  · have hF := hF.1 q
    exact hF
  · have hF := hF.2 q
    refine g_iconst dL_law_1127 ⟨by decide, by decide⟩ ?_
    exact hF.elim
theorem s_L_law_1129 {E : g_E} {l : Launch} {nc ns : Nat} {D : g_D} {v3 : Int} (hnc : nc ≤ 600000) (hns : ns ≤ 7302250) (hF : g_okD D → g_r v3 → (g_r (v3 + 1)) ∧ ((0 ≤ ((v3 + 1) : Int) ∧ ((v3 + 1) : Int) < g_fl E 0) ∧ (k_X11_undo E l D (g_fx E 0 (v3 + 1).toNat) (fun x1 D1 => g_r x1 → (g_r (v3 + 1)) ∧ ((0 ≤ ((v3 + 1) : Int) ∧ ((v3 + 1) : Int) < g_fl E 0) ∧ (k_X12_undo E l D1 (g_fx E 0 (v3 + 1).toNat) (fun x2 D2 => g_r x2 → (x1 = x2 → n_L_law E l nc ns D2 1450 [some (g_F 0), some (g_R 0), some (g_R 208), some (g_I v3)]) ∧ (¬ x1 = x2 → False)))))))) : n_L_law E l nc ns D 1129 [some (g_F 0), some (g_R 0), some (g_R 208), some (g_I v3)] := by
  refine g_use (fun ok => ?_)
  have hF := hF ok.2.1 (ok.loc (i := 3) rfl)
  refine g_aload_n dL_law_1129 rfl ?_
  refine g_aload_nF dL_law_1130 rfl ?_
  refine g_iload_n dL_law_1131 rfl ?_
  refine g_iconst dL_law_1132 ⟨by decide, by decide⟩ ?_
  obtain ⟨hc, hF⟩ := hF
  refine g_iadd dL_law_1133 hc ?_
  obtain ⟨hc, hF⟩ := hF
  refine g_ialdF dL_law_1134 (by decide) hc.1 hc.2 (g_fx0 _) ?_
  refine gl_cVi (b := 0) (As := [g_I (g_fx E 0 (v3 + 1).toNat)]) (rest := []) dL_law_1135 mv_L_165 sh_0 rfl (Nat.le_of_ble_eq_true rfl) (by decide) hnc hns rfl hF ?_
  intro x1 D1 hx1 hF
  have hF := hF hx1
  refine g_aload_n dL_law_1138 rfl ?_
  refine g_aload_nF dL_law_1139 rfl ?_
  refine g_iload_n dL_law_1140 rfl ?_
  refine g_iconst dL_law_1141 ⟨by decide, by decide⟩ ?_
  obtain ⟨hc, hF⟩ := hF
  refine g_iadd dL_law_1142 hc ?_
  obtain ⟨hc, hF⟩ := hF
  refine g_ialdF dL_law_1143 (by decide) hc.1 hc.2 (g_fx0 _) ?_
  refine gl_cVi (b := 208) (As := [g_I (g_fx E 0 (v3 + 1).toNat)]) (rest := [g_I x1]) dL_law_1144 mv_L_168 sh_208 rfl (Nat.le_of_ble_eq_true rfl) (by decide) hnc hns rfl hF ?_
  intro x2 D2 hx2 hF
  have hF := hF hx2
  refine g_ceq dL_law_1147 rfl (fun q => ?_) (fun q => ?_)
  · have hF := hF.1 q
    exact hF
  · have hF := hF.2 q
    refine g_iconst dL_law_1150 ⟨by decide, by decide⟩ ?_
    exact hF.elim
theorem s_L_law_1152 {E : g_E} {l : Launch} {nc ns : Nat} {D : g_D} {v3 : Int} (hnc : nc ≤ 600000) (hns : ns ≤ 7302250) (hF : g_okD D → g_r v3 → (g_r (v3 + 1)) ∧ ((0 ≤ ((v3 + 1) : Int) ∧ ((v3 + 1) : Int) < g_fl E 0) ∧ (k_X11_digest E l D (g_fx E 0 (v3 + 1).toNat) (fun x1 D1 => g_r8 x1 → (g_r (v3 + 1)) ∧ ((0 ≤ ((v3 + 1) : Int) ∧ ((v3 + 1) : Int) < g_fl E 0) ∧ (k_X12_digest E l D1 (g_fx E 0 (v3 + 1).toNat) (fun x2 D2 => g_r8 x2 → (x1 = x2 → n_L_law E l nc ns D2 1450 [some (g_F 0), some (g_R 0), some (g_R 208), some (g_I v3)]) ∧ (¬ x1 = x2 → False)))))))) : n_L_law E l nc ns D 1152 [some (g_F 0), some (g_R 0), some (g_R 208), some (g_I v3)] := by
  refine g_use (fun ok => ?_)
  have hF := hF ok.2.1 (ok.loc (i := 3) rfl)
  refine g_aload_n dL_law_1152 rfl ?_
  refine g_aload_nF dL_law_1153 rfl ?_
  refine g_iload_n dL_law_1154 rfl ?_
  refine g_iconst dL_law_1155 ⟨by decide, by decide⟩ ?_
  obtain ⟨hc, hF⟩ := hF
  refine g_iadd dL_law_1156 hc ?_
  obtain ⟨hc, hF⟩ := hF
  refine g_ialdF dL_law_1157 (by decide) hc.1 hc.2 (g_fx0 _) ?_
  refine gl_cVl (b := 0) (As := [g_I (g_fx E 0 (v3 + 1).toNat)]) (rest := []) dL_law_1158 mv_L_169 sh_0 rfl (Nat.le_of_ble_eq_true rfl) (by decide) hnc hns rfl hF ?_
  intro x1 D1 hx1 hF
  have hF := hF hx1
  refine g_aload_n dL_law_1161 rfl ?_
  refine g_aload_nF dL_law_1162 rfl ?_
  refine g_iload_n dL_law_1163 rfl ?_
  refine g_iconst dL_law_1164 ⟨by decide, by decide⟩ ?_
  obtain ⟨hc, hF⟩ := hF
  refine g_iadd dL_law_1165 hc ?_
  obtain ⟨hc, hF⟩ := hF
  refine g_ialdF dL_law_1166 (by decide) hc.1 hc.2 (g_fx0 _) ?_
  refine gl_cVl (b := 208) (As := [g_I (g_fx E 0 (v3 + 1).toNat)]) (rest := [g_J x1]) dL_law_1167 mv_L_173 sh_208 rfl (Nat.le_of_ble_eq_true rfl) (by decide) hnc hns rfl hF ?_
  intro x2 D2 hx2 hF
  have hF := hF hx2
  refine g_lcmp dL_law_1170 ?_
  refine g_ifeq dL_law_1171 rfl (fun q => ?_) (fun q => ?_)
  · have hF := hF.1 (g_cmp_eq.mp q)
    exact hF
  · have hF := hF.2 (g_cmp_eqn.mp q)
    refine g_iconst dL_law_1174 ⟨by decide, by decide⟩ ?_
    exact hF.elim
theorem s_L_law_1176 {E : g_E} {l : Launch} {nc ns : Nat} {D : g_D} {v3 : Int} (hnc : nc ≤ 600000) (hns : ns ≤ 7302250) (hF : g_okD D → g_r v3 → (g_r (v3 + 1)) ∧ ((0 ≤ ((v3 + 1) : Int) ∧ ((v3 + 1) : Int) < g_fl E 0) ∧ ((g_r (v3 + 2)) ∧ ((0 ≤ ((v3 + 2) : Int) ∧ ((v3 + 2) : Int) < g_fl E 0) ∧ (k_X11_due E l D (g_fx E 0 (v3 + 1).toNat) (g_fx E 0 (v3 + 2).toNat) (fun x1 D1 => g_r8 x1 → (g_r (v3 + 1)) ∧ ((0 ≤ ((v3 + 1) : Int) ∧ ((v3 + 1) : Int) < g_fl E 0) ∧ ((g_r (v3 + 2)) ∧ ((0 ≤ ((v3 + 2) : Int) ∧ ((v3 + 2) : Int) < g_fl E 0) ∧ (k_X12_due E l D1 (g_fx E 0 (v3 + 1).toNat) (g_fx E 0 (v3 + 2).toNat) (fun x2 D2 => g_r8 x2 → (x1 = x2 → n_L_law E l nc ns D2 1450 [some (g_F 0), some (g_R 0), some (g_R 208), some (g_I v3)]) ∧ (¬ x1 = x2 → False)))))))))))) : n_L_law E l nc ns D 1176 [some (g_F 0), some (g_R 0), some (g_R 208), some (g_I v3)] := by
  refine g_use (fun ok => ?_)
  have hF := hF ok.2.1 (ok.loc (i := 3) rfl)
  refine g_aload_n dL_law_1176 rfl ?_
  refine g_aload_nF dL_law_1177 rfl ?_
  refine g_iload_n dL_law_1178 rfl ?_
  refine g_iconst dL_law_1179 ⟨by decide, by decide⟩ ?_
  obtain ⟨hc, hF⟩ := hF
  refine g_iadd dL_law_1180 hc ?_
  obtain ⟨hc, hF⟩ := hF
  refine g_ialdF dL_law_1181 (by decide) hc.1 hc.2 (g_fx0 _) ?_
  refine g_aload_nF dL_law_1182 rfl ?_
  refine g_iload_n dL_law_1183 rfl ?_
  refine g_iconst dL_law_1184 ⟨by decide, by decide⟩ ?_
  obtain ⟨hc, hF⟩ := hF
  refine g_iadd dL_law_1185 hc ?_
  obtain ⟨hc, hF⟩ := hF
  refine g_ialdF dL_law_1186 (by decide) hc.1 hc.2 (g_fx0 _) ?_
  refine gl_cVl (b := 0) (As := [g_I (g_fx E 0 (v3 + 1).toNat), g_I (g_fx E 0 (v3 + 2).toNat)]) (rest := []) dL_law_1187 mv_L_174 sh_0 rfl (Nat.le_of_ble_eq_true rfl) (by decide) hnc hns rfl hF ?_
  intro x1 D1 hx1 hF
  have hF := hF hx1
  refine g_aload_n dL_law_1190 rfl ?_
  refine g_aload_nF dL_law_1191 rfl ?_
  refine g_iload_n dL_law_1192 rfl ?_
  refine g_iconst dL_law_1193 ⟨by decide, by decide⟩ ?_
  obtain ⟨hc, hF⟩ := hF
  refine g_iadd dL_law_1194 hc ?_
  obtain ⟨hc, hF⟩ := hF
  refine g_ialdF dL_law_1195 (by decide) hc.1 hc.2 (g_fx0 _) ?_
  refine g_aload_nF dL_law_1196 rfl ?_
  refine g_iload_n dL_law_1197 rfl ?_
  refine g_iconst dL_law_1198 ⟨by decide, by decide⟩ ?_
  obtain ⟨hc, hF⟩ := hF
  refine g_iadd dL_law_1199 hc ?_
  obtain ⟨hc, hF⟩ := hF
  refine g_ialdF dL_law_1200 (by decide) hc.1 hc.2 (g_fx0 _) ?_
  refine gl_cVl (b := 208) (As := [g_I (g_fx E 0 (v3 + 1).toNat), g_I (g_fx E 0 (v3 + 2).toNat)]) (rest := [g_J x1]) dL_law_1201 mv_L_178 sh_208 rfl (Nat.le_of_ble_eq_true rfl) (by decide) hnc hns rfl hF ?_
  intro x2 D2 hx2 hF
  have hF := hF hx2
  refine g_lcmp dL_law_1204 ?_
  refine g_ifeq dL_law_1205 rfl (fun q => ?_) (fun q => ?_)
  · have hF := hF.1 (g_cmp_eq.mp q)
    exact hF
  · have hF := hF.2 (g_cmp_eqn.mp q)
    refine g_iconst dL_law_1208 ⟨by decide, by decide⟩ ?_
    exact hF.elim
theorem s_L_law_1210 {E : g_E} {l : Launch} {nc ns : Nat} {D : g_D} {v3 : Int} (hnc : nc ≤ 600000) (hns : ns ≤ 7302250) (hF : g_okD D → g_r v3 → (g_r (v3 + 1)) ∧ ((0 ≤ ((v3 + 1) : Int) ∧ ((v3 + 1) : Int) < g_fl E 0) ∧ (k_X11_fits E l D (g_fx E 0 (v3 + 1).toNat) (fun x1 D1 => g_r x1 → (g_r (v3 + 1)) ∧ ((0 ≤ ((v3 + 1) : Int) ∧ ((v3 + 1) : Int) < g_fl E 0) ∧ (k_X12_fits E l D1 (g_fx E 0 (v3 + 1).toNat) (fun x2 D2 => g_r x2 → (x1 = x2 → n_L_law E l nc ns D2 1450 [some (g_F 0), some (g_R 0), some (g_R 208), some (g_I v3)]) ∧ (¬ x1 = x2 → False)))))))) : n_L_law E l nc ns D 1210 [some (g_F 0), some (g_R 0), some (g_R 208), some (g_I v3)] := by
  refine g_use (fun ok => ?_)
  have hF := hF ok.2.1 (ok.loc (i := 3) rfl)
  refine g_aload_n dL_law_1210 rfl ?_
  refine g_aload_nF dL_law_1211 rfl ?_
  refine g_iload_n dL_law_1212 rfl ?_
  refine g_iconst dL_law_1213 ⟨by decide, by decide⟩ ?_
  obtain ⟨hc, hF⟩ := hF
  refine g_iadd dL_law_1214 hc ?_
  obtain ⟨hc, hF⟩ := hF
  refine g_ialdF dL_law_1215 (by decide) hc.1 hc.2 (g_fx0 _) ?_
  refine gl_cVi (b := 0) (As := [g_I (g_fx E 0 (v3 + 1).toNat)]) (rest := []) dL_law_1216 mv_L_179 sh_0 rfl (Nat.le_of_ble_eq_true rfl) (by decide) hnc hns rfl hF ?_
  intro x1 D1 hx1 hF
  have hF := hF hx1
  refine g_aload_n dL_law_1219 rfl ?_
  refine g_aload_nF dL_law_1220 rfl ?_
  refine g_iload_n dL_law_1221 rfl ?_
  refine g_iconst dL_law_1222 ⟨by decide, by decide⟩ ?_
  obtain ⟨hc, hF⟩ := hF
  refine g_iadd dL_law_1223 hc ?_
  obtain ⟨hc, hF⟩ := hF
  refine g_ialdF dL_law_1224 (by decide) hc.1 hc.2 (g_fx0 _) ?_
  refine gl_cVi (b := 208) (As := [g_I (g_fx E 0 (v3 + 1).toNat)]) (rest := [g_I x1]) dL_law_1225 mv_L_182 sh_208 rfl (Nat.le_of_ble_eq_true rfl) (by decide) hnc hns rfl hF ?_
  intro x2 D2 hx2 hF
  have hF := hF hx2
  refine g_ceq dL_law_1228 rfl (fun q => ?_) (fun q => ?_)
  · have hF := hF.1 q
    exact hF
  · have hF := hF.2 q
    refine g_iconst dL_law_1231 ⟨by decide, by decide⟩ ?_
    exact hF.elim
theorem s_L_law_1233 {E : g_E} {l : Launch} {nc ns : Nat} {D : g_D} {v3 : Int} (hnc : nc ≤ 600000) (hns : ns ≤ 7302250) (hF : g_okD D → g_r v3 → k_X11_right E l D (fun x1 D1 => g_r x1 → k_X12_right E l D1 (fun x2 D2 => g_r x2 → (x1 = x2 → n_L_law E l nc ns D2 1450 [some (g_F 0), some (g_R 0), some (g_R 208), some (g_I v3)]) ∧ (¬ x1 = x2 → False)))) : n_L_law E l nc ns D 1233 [some (g_F 0), some (g_R 0), some (g_R 208), some (g_I v3)] := by
  refine g_use (fun ok => ?_)
  have hF := hF ok.2.1 (ok.loc (i := 3) rfl)
  refine g_aload_n dL_law_1233 rfl ?_
  refine gl_cVi (b := 0) (As := []) (rest := []) dL_law_1234 mv_L_183 sh_0 rfl (Nat.le_of_ble_eq_true rfl) (by decide) hnc hns rfl hF ?_
  intro x1 D1 hx1 hF
  have hF := hF hx1
  refine g_aload_n dL_law_1237 rfl ?_
  refine gl_cVi (b := 208) (As := []) (rest := [g_I x1]) dL_law_1238 mv_L_186 sh_208 rfl (Nat.le_of_ble_eq_true rfl) (by decide) hnc hns rfl hF ?_
  intro x2 D2 hx2 hF
  have hF := hF hx2
  refine g_ceq dL_law_1241 rfl (fun q => ?_) (fun q => ?_)
  · have hF := hF.1 q
    exact hF
  · have hF := hF.2 q
    refine g_iconst dL_law_1244 ⟨by decide, by decide⟩ ?_
    exact hF.elim
theorem s_L_law_1246 {E : g_E} {l : Launch} {nc ns : Nat} {D : g_D} {v3 : Int} (hnc : nc ≤ 600000) (hns : ns ≤ 7302250) (hF : g_okD D → g_r v3 → (g_r (v3 + 1)) ∧ ((0 ≤ ((v3 + 1) : Int) ∧ ((v3 + 1) : Int) < g_fl E 0) ∧ (k_X11_hazard E l D (g_fx E 0 (v3 + 1).toNat) (fun x1 D1 => g_r x1 → (g_r (v3 + 1)) ∧ ((0 ≤ ((v3 + 1) : Int) ∧ ((v3 + 1) : Int) < g_fl E 0) ∧ (k_X12_hazard E l D1 (g_fx E 0 (v3 + 1).toNat) (fun x2 D2 => g_r x2 → (x1 = x2 → n_L_law E l nc ns D2 1450 [some (g_F 0), some (g_R 0), some (g_R 208), some (g_I v3)]) ∧ (¬ x1 = x2 → False)))))))) : n_L_law E l nc ns D 1246 [some (g_F 0), some (g_R 0), some (g_R 208), some (g_I v3)] := by
  refine g_use (fun ok => ?_)
  have hF := hF ok.2.1 (ok.loc (i := 3) rfl)
  refine g_aload_n dL_law_1246 rfl ?_
  refine g_aload_nF dL_law_1247 rfl ?_
  refine g_iload_n dL_law_1248 rfl ?_
  refine g_iconst dL_law_1249 ⟨by decide, by decide⟩ ?_
  obtain ⟨hc, hF⟩ := hF
  refine g_iadd dL_law_1250 hc ?_
  obtain ⟨hc, hF⟩ := hF
  refine g_ialdF dL_law_1251 (by decide) hc.1 hc.2 (g_fx0 _) ?_
  refine gl_cVi (b := 0) (As := [g_I (g_fx E 0 (v3 + 1).toNat)]) (rest := []) dL_law_1252 mv_L_187 sh_0 rfl (Nat.le_of_ble_eq_true rfl) (by decide) hnc hns rfl hF ?_
  intro x1 D1 hx1 hF
  have hF := hF hx1
  refine g_aload_n dL_law_1255 rfl ?_
  refine g_aload_nF dL_law_1256 rfl ?_
  refine g_iload_n dL_law_1257 rfl ?_
  refine g_iconst dL_law_1258 ⟨by decide, by decide⟩ ?_
  obtain ⟨hc, hF⟩ := hF
  refine g_iadd dL_law_1259 hc ?_
  obtain ⟨hc, hF⟩ := hF
  refine g_ialdF dL_law_1260 (by decide) hc.1 hc.2 (g_fx0 _) ?_
  refine gl_cVi (b := 208) (As := [g_I (g_fx E 0 (v3 + 1).toNat)]) (rest := [g_I x1]) dL_law_1261 mv_L_190 sh_208 rfl (Nat.le_of_ble_eq_true rfl) (by decide) hnc hns rfl hF ?_
  intro x2 D2 hx2 hF
  have hF := hF hx2
  refine g_ceq dL_law_1264 rfl (fun q => ?_) (fun q => ?_)
  · have hF := hF.1 q
    exact hF
  · have hF := hF.2 q
    refine g_iconst dL_law_1267 ⟨by decide, by decide⟩ ?_
    exact hF.elim
theorem s_L_law_1269 {E : g_E} {l : Launch} {nc ns : Nat} {D : g_D} {v3 : Int} (hnc : nc ≤ 600000) (hns : ns ≤ 7302250) (hF : g_okD D → g_r v3 → (g_r (v3 + 1)) ∧ ((0 ≤ ((v3 + 1) : Int) ∧ ((v3 + 1) : Int) < g_fl E 0) ∧ (k_X11_wear E l D (g_fx E 0 (v3 + 1).toNat) (fun x1 D1 => g_r x1 → (g_r (v3 + 1)) ∧ ((0 ≤ ((v3 + 1) : Int) ∧ ((v3 + 1) : Int) < g_fl E 0) ∧ (k_X12_wear E l D1 (g_fx E 0 (v3 + 1).toNat) (fun x2 D2 => g_r x2 → (x1 = x2 → n_L_law E l nc ns D2 1450 [some (g_F 0), some (g_R 0), some (g_R 208), some (g_I v3)]) ∧ (¬ x1 = x2 → False)))))))) : n_L_law E l nc ns D 1269 [some (g_F 0), some (g_R 0), some (g_R 208), some (g_I v3)] := by
  refine g_use (fun ok => ?_)
  have hF := hF ok.2.1 (ok.loc (i := 3) rfl)
  refine g_aload_n dL_law_1269 rfl ?_
  refine g_aload_nF dL_law_1270 rfl ?_
  refine g_iload_n dL_law_1271 rfl ?_
  refine g_iconst dL_law_1272 ⟨by decide, by decide⟩ ?_
  obtain ⟨hc, hF⟩ := hF
  refine g_iadd dL_law_1273 hc ?_
  obtain ⟨hc, hF⟩ := hF
  refine g_ialdF dL_law_1274 (by decide) hc.1 hc.2 (g_fx0 _) ?_
  refine gl_cVi (b := 0) (As := [g_I (g_fx E 0 (v3 + 1).toNat)]) (rest := []) dL_law_1275 mv_L_191 sh_0 rfl (Nat.le_of_ble_eq_true rfl) (by decide) hnc hns rfl hF ?_
  intro x1 D1 hx1 hF
  have hF := hF hx1
  refine g_aload_n dL_law_1278 rfl ?_
  refine g_aload_nF dL_law_1279 rfl ?_
  refine g_iload_n dL_law_1280 rfl ?_
  refine g_iconst dL_law_1281 ⟨by decide, by decide⟩ ?_
  obtain ⟨hc, hF⟩ := hF
  refine g_iadd dL_law_1282 hc ?_
  obtain ⟨hc, hF⟩ := hF
  refine g_ialdF dL_law_1283 (by decide) hc.1 hc.2 (g_fx0 _) ?_
  refine gl_cVi (b := 208) (As := [g_I (g_fx E 0 (v3 + 1).toNat)]) (rest := [g_I x1]) dL_law_1284 mv_L_194 sh_208 rfl (Nat.le_of_ble_eq_true rfl) (by decide) hnc hns rfl hF ?_
  intro x2 D2 hx2 hF
  have hF := hF hx2
  refine g_ceq dL_law_1287 rfl (fun q => ?_) (fun q => ?_)
  · have hF := hF.1 q
    exact hF
  · have hF := hF.2 q
    refine g_iconst dL_law_1290 ⟨by decide, by decide⟩ ?_
    exact hF.elim
theorem s_L_law_1292 {E : g_E} {l : Launch} {nc ns : Nat} {D : g_D} {v3 : Int} (hnc : nc ≤ 600000) (hns : ns ≤ 7302250) (hF : g_okD D → g_r v3 → (g_r (v3 + 1)) ∧ ((0 ≤ ((v3 + 1) : Int) ∧ ((v3 + 1) : Int) < g_fl E 0) ∧ (k_X11_cuts E l D (g_fx E 0 (v3 + 1).toNat) (fun x1 D1 => g_r x1 → (g_r (v3 + 1)) ∧ ((0 ≤ ((v3 + 1) : Int) ∧ ((v3 + 1) : Int) < g_fl E 0) ∧ (k_X12_cuts E l D1 (g_fx E 0 (v3 + 1).toNat) (fun x2 D2 => g_r x2 → (x1 = x2 → n_L_law E l nc ns D2 1450 [some (g_F 0), some (g_R 0), some (g_R 208), some (g_I v3)]) ∧ (¬ x1 = x2 → False)))))))) : n_L_law E l nc ns D 1292 [some (g_F 0), some (g_R 0), some (g_R 208), some (g_I v3)] := by
  refine g_use (fun ok => ?_)
  have hF := hF ok.2.1 (ok.loc (i := 3) rfl)
  refine g_aload_n dL_law_1292 rfl ?_
  refine g_aload_nF dL_law_1293 rfl ?_
  refine g_iload_n dL_law_1294 rfl ?_
  refine g_iconst dL_law_1295 ⟨by decide, by decide⟩ ?_
  obtain ⟨hc, hF⟩ := hF
  refine g_iadd dL_law_1296 hc ?_
  obtain ⟨hc, hF⟩ := hF
  refine g_ialdF dL_law_1297 (by decide) hc.1 hc.2 (g_fx0 _) ?_
  refine gl_cVi (b := 0) (As := [g_I (g_fx E 0 (v3 + 1).toNat)]) (rest := []) dL_law_1298 mv_L_195 sh_0 rfl (Nat.le_of_ble_eq_true rfl) (by decide) hnc hns rfl hF ?_
  intro x1 D1 hx1 hF
  have hF := hF hx1
  refine g_aload_n dL_law_1301 rfl ?_
  refine g_aload_nF dL_law_1302 rfl ?_
  refine g_iload_n dL_law_1303 rfl ?_
  refine g_iconst dL_law_1304 ⟨by decide, by decide⟩ ?_
  obtain ⟨hc, hF⟩ := hF
  refine g_iadd dL_law_1305 hc ?_
  obtain ⟨hc, hF⟩ := hF
  refine g_ialdF dL_law_1306 (by decide) hc.1 hc.2 (g_fx0 _) ?_
  refine gl_cVi (b := 208) (As := [g_I (g_fx E 0 (v3 + 1).toNat)]) (rest := [g_I x1]) dL_law_1307 mv_L_198 sh_208 rfl (Nat.le_of_ble_eq_true rfl) (by decide) hnc hns rfl hF ?_
  intro x2 D2 hx2 hF
  have hF := hF hx2
  refine g_ceq dL_law_1310 rfl (fun q => ?_) (fun q => ?_)
  · have hF := hF.1 q
    exact hF
  · have hF := hF.2 q
    refine g_iconst dL_law_1313 ⟨by decide, by decide⟩ ?_
    exact hF.elim
theorem s_L_law_1315 {E : g_E} {l : Launch} {nc ns : Nat} {D : g_D} {v3 : Int} (hnc : nc ≤ 600000) (hns : ns ≤ 7302250) (hF : g_okD D → g_r v3 → (g_r (v3 + 1)) ∧ ((0 ≤ ((v3 + 1) : Int) ∧ ((v3 + 1) : Int) < g_fl E 0) ∧ ((g_r (v3 + 2)) ∧ ((0 ≤ ((v3 + 2) : Int) ∧ ((v3 + 2) : Int) < g_fl E 0) ∧ (k_X11_twice E l D (g_fx E 0 (v3 + 1).toNat) (g_fx E 0 (v3 + 2).toNat) (fun x1 D1 => g_r x1 → (g_r (v3 + 1)) ∧ ((0 ≤ ((v3 + 1) : Int) ∧ ((v3 + 1) : Int) < g_fl E 0) ∧ ((g_r (v3 + 2)) ∧ ((0 ≤ ((v3 + 2) : Int) ∧ ((v3 + 2) : Int) < g_fl E 0) ∧ (k_X12_twice E l D1 (g_fx E 0 (v3 + 1).toNat) (g_fx E 0 (v3 + 2).toNat) (fun x2 D2 => g_r x2 → (x1 = x2 → n_L_law E l nc ns D2 1450 [some (g_F 0), some (g_R 0), some (g_R 208), some (g_I v3)]) ∧ (¬ x1 = x2 → False)))))))))))) : n_L_law E l nc ns D 1315 [some (g_F 0), some (g_R 0), some (g_R 208), some (g_I v3)] := by
  refine g_use (fun ok => ?_)
  have hF := hF ok.2.1 (ok.loc (i := 3) rfl)
  refine g_aload_n dL_law_1315 rfl ?_
  refine g_aload_nF dL_law_1316 rfl ?_
  refine g_iload_n dL_law_1317 rfl ?_
  refine g_iconst dL_law_1318 ⟨by decide, by decide⟩ ?_
  obtain ⟨hc, hF⟩ := hF
  refine g_iadd dL_law_1319 hc ?_
  obtain ⟨hc, hF⟩ := hF
  refine g_ialdF dL_law_1320 (by decide) hc.1 hc.2 (g_fx0 _) ?_
  refine g_aload_nF dL_law_1321 rfl ?_
  refine g_iload_n dL_law_1322 rfl ?_
  refine g_iconst dL_law_1323 ⟨by decide, by decide⟩ ?_
  obtain ⟨hc, hF⟩ := hF
  refine g_iadd dL_law_1324 hc ?_
  obtain ⟨hc, hF⟩ := hF
  refine g_ialdF dL_law_1325 (by decide) hc.1 hc.2 (g_fx0 _) ?_
  refine gl_cVi (b := 0) (As := [g_I (g_fx E 0 (v3 + 1).toNat), g_I (g_fx E 0 (v3 + 2).toNat)]) (rest := []) dL_law_1326 mv_L_199 sh_0 rfl (Nat.le_of_ble_eq_true rfl) (by decide) hnc hns rfl hF ?_
  intro x1 D1 hx1 hF
  have hF := hF hx1
  refine g_aload_n dL_law_1329 rfl ?_
  refine g_aload_nF dL_law_1330 rfl ?_
  refine g_iload_n dL_law_1331 rfl ?_
  refine g_iconst dL_law_1332 ⟨by decide, by decide⟩ ?_
  obtain ⟨hc, hF⟩ := hF
  refine g_iadd dL_law_1333 hc ?_
  obtain ⟨hc, hF⟩ := hF
  refine g_ialdF dL_law_1334 (by decide) hc.1 hc.2 (g_fx0 _) ?_
  refine g_aload_nF dL_law_1335 rfl ?_
  refine g_iload_n dL_law_1336 rfl ?_
  refine g_iconst dL_law_1337 ⟨by decide, by decide⟩ ?_
  obtain ⟨hc, hF⟩ := hF
  refine g_iadd dL_law_1338 hc ?_
  obtain ⟨hc, hF⟩ := hF
  refine g_ialdF dL_law_1339 (by decide) hc.1 hc.2 (g_fx0 _) ?_
  refine gl_cVi (b := 208) (As := [g_I (g_fx E 0 (v3 + 1).toNat), g_I (g_fx E 0 (v3 + 2).toNat)]) (rest := [g_I x1]) dL_law_1340 mv_L_202 sh_208 rfl (Nat.le_of_ble_eq_true rfl) (by decide) hnc hns rfl hF ?_
  intro x2 D2 hx2 hF
  have hF := hF hx2
  refine g_ceq dL_law_1343 rfl (fun q => ?_) (fun q => ?_)
  · have hF := hF.1 q
    exact hF
  · have hF := hF.2 q
    refine g_iconst dL_law_1346 ⟨by decide, by decide⟩ ?_
    exact hF.elim
theorem s_L_law_1348 {E : g_E} {l : Launch} {nc ns : Nat} {D : g_D} {v3 : Int} (hnc : nc ≤ 600000) (hns : ns ≤ 7302250) (hF : g_okD D → g_r v3 → (g_r (v3 + 1)) ∧ ((0 ≤ ((v3 + 1) : Int) ∧ ((v3 + 1) : Int) < g_fl E 0) ∧ ((g_r (v3 + 2)) ∧ ((0 ≤ ((v3 + 2) : Int) ∧ ((v3 + 2) : Int) < g_fl E 0) ∧ (k_X11_odds E l D (g_fx E 0 (v3 + 1).toNat) (g_fx E 0 (v3 + 2).toNat) (fun x1 D1 => g_r x1 → (g_r (v3 + 1)) ∧ ((0 ≤ ((v3 + 1) : Int) ∧ ((v3 + 1) : Int) < g_fl E 0) ∧ ((g_r (v3 + 2)) ∧ ((0 ≤ ((v3 + 2) : Int) ∧ ((v3 + 2) : Int) < g_fl E 0) ∧ (k_X12_odds E l D1 (g_fx E 0 (v3 + 1).toNat) (g_fx E 0 (v3 + 2).toNat) (fun x2 D2 => g_r x2 → (x1 = x2 → n_L_law E l nc ns D2 1450 [some (g_F 0), some (g_R 0), some (g_R 208), some (g_I v3)]) ∧ (¬ x1 = x2 → False)))))))))))) : n_L_law E l nc ns D 1348 [some (g_F 0), some (g_R 0), some (g_R 208), some (g_I v3)] := by
  refine g_use (fun ok => ?_)
  have hF := hF ok.2.1 (ok.loc (i := 3) rfl)
  refine g_aload_n dL_law_1348 rfl ?_
  refine g_aload_nF dL_law_1349 rfl ?_
  refine g_iload_n dL_law_1350 rfl ?_
  refine g_iconst dL_law_1351 ⟨by decide, by decide⟩ ?_
  obtain ⟨hc, hF⟩ := hF
  refine g_iadd dL_law_1352 hc ?_
  obtain ⟨hc, hF⟩ := hF
  refine g_ialdF dL_law_1353 (by decide) hc.1 hc.2 (g_fx0 _) ?_
  refine g_aload_nF dL_law_1354 rfl ?_
  refine g_iload_n dL_law_1355 rfl ?_
  refine g_iconst dL_law_1356 ⟨by decide, by decide⟩ ?_
  obtain ⟨hc, hF⟩ := hF
  refine g_iadd dL_law_1357 hc ?_
  obtain ⟨hc, hF⟩ := hF
  refine g_ialdF dL_law_1358 (by decide) hc.1 hc.2 (g_fx0 _) ?_
  refine gl_cVi (b := 0) (As := [g_I (g_fx E 0 (v3 + 1).toNat), g_I (g_fx E 0 (v3 + 2).toNat)]) (rest := []) dL_law_1359 mv_L_203 sh_0 rfl (Nat.le_of_ble_eq_true rfl) (by decide) hnc hns rfl hF ?_
  intro x1 D1 hx1 hF
  have hF := hF hx1
  refine g_aload_n dL_law_1362 rfl ?_
  refine g_aload_nF dL_law_1363 rfl ?_
  refine g_iload_n dL_law_1364 rfl ?_
  refine g_iconst dL_law_1365 ⟨by decide, by decide⟩ ?_
  obtain ⟨hc, hF⟩ := hF
  refine g_iadd dL_law_1366 hc ?_
  obtain ⟨hc, hF⟩ := hF
  refine g_ialdF dL_law_1367 (by decide) hc.1 hc.2 (g_fx0 _) ?_
  refine g_aload_nF dL_law_1368 rfl ?_
  refine g_iload_n dL_law_1369 rfl ?_
  refine g_iconst dL_law_1370 ⟨by decide, by decide⟩ ?_
  obtain ⟨hc, hF⟩ := hF
  refine g_iadd dL_law_1371 hc ?_
  obtain ⟨hc, hF⟩ := hF
  refine g_ialdF dL_law_1372 (by decide) hc.1 hc.2 (g_fx0 _) ?_
  refine gl_cVi (b := 208) (As := [g_I (g_fx E 0 (v3 + 1).toNat), g_I (g_fx E 0 (v3 + 2).toNat)]) (rest := [g_I x1]) dL_law_1373 mv_L_206 sh_208 rfl (Nat.le_of_ble_eq_true rfl) (by decide) hnc hns rfl hF ?_
  intro x2 D2 hx2 hF
  have hF := hF hx2
  refine g_ceq dL_law_1376 rfl (fun q => ?_) (fun q => ?_)
  · have hF := hF.1 q
    exact hF
  · have hF := hF.2 q
    refine g_iconst dL_law_1379 ⟨by decide, by decide⟩ ?_
    exact hF.elim
theorem s_L_law_1381 {E : g_E} {l : Launch} {nc ns : Nat} {D : g_D} {v3 : Int} (hnc : nc ≤ 600000) (hns : ns ≤ 7302250) (hF : g_okD D → g_r v3 → (g_r (v3 + 1)) ∧ ((0 ≤ ((v3 + 1) : Int) ∧ ((v3 + 1) : Int) < g_fl E 0) ∧ (k_X11_image E l D (g_fx E 0 (v3 + 1).toNat) (fun x1 D1 => g_r x1 → (g_r (v3 + 1)) ∧ ((0 ≤ ((v3 + 1) : Int) ∧ ((v3 + 1) : Int) < g_fl E 0) ∧ (k_X12_image E l D1 (g_fx E 0 (v3 + 1).toNat) (fun x2 D2 => g_r x2 → (x1 = x2 → n_L_law E l nc ns D2 1450 [some (g_F 0), some (g_R 0), some (g_R 208), some (g_I v3)]) ∧ (¬ x1 = x2 → False)))))))) : n_L_law E l nc ns D 1381 [some (g_F 0), some (g_R 0), some (g_R 208), some (g_I v3)] := by
  refine g_use (fun ok => ?_)
  have hF := hF ok.2.1 (ok.loc (i := 3) rfl)
  refine g_aload_n dL_law_1381 rfl ?_
  refine g_aload_nF dL_law_1382 rfl ?_
  refine g_iload_n dL_law_1383 rfl ?_
  refine g_iconst dL_law_1384 ⟨by decide, by decide⟩ ?_
  obtain ⟨hc, hF⟩ := hF
  refine g_iadd dL_law_1385 hc ?_
  obtain ⟨hc, hF⟩ := hF
  refine g_ialdF dL_law_1386 (by decide) hc.1 hc.2 (g_fx0 _) ?_
  refine gl_cVi (b := 0) (As := [g_I (g_fx E 0 (v3 + 1).toNat)]) (rest := []) dL_law_1387 mv_L_207 sh_0 rfl (Nat.le_of_ble_eq_true rfl) (by decide) hnc hns rfl hF ?_
  intro x1 D1 hx1 hF
  have hF := hF hx1
  refine g_aload_n dL_law_1390 rfl ?_
  refine g_aload_nF dL_law_1391 rfl ?_
  refine g_iload_n dL_law_1392 rfl ?_
  refine g_iconst dL_law_1393 ⟨by decide, by decide⟩ ?_
  obtain ⟨hc, hF⟩ := hF
  refine g_iadd dL_law_1394 hc ?_
  obtain ⟨hc, hF⟩ := hF
  refine g_ialdF dL_law_1395 (by decide) hc.1 hc.2 (g_fx0 _) ?_
  refine gl_cVi (b := 208) (As := [g_I (g_fx E 0 (v3 + 1).toNat)]) (rest := [g_I x1]) dL_law_1396 mv_L_210 sh_208 rfl (Nat.le_of_ble_eq_true rfl) (by decide) hnc hns rfl hF ?_
  intro x2 D2 hx2 hF
  have hF := hF hx2
  refine g_ceq dL_law_1399 rfl (fun q => ?_) (fun q => ?_)
  · have hF := hF.1 q
    exact hF
  · have hF := hF.2 q
    refine g_iconst dL_law_1402 ⟨by decide, by decide⟩ ?_
    exact hF.elim
theorem s_L_law_1404 {E : g_E} {l : Launch} {nc ns : Nat} {D : g_D} {v3 : Int} (hnc : nc ≤ 600000) (hns : ns ≤ 7302250) (hF : g_okD D → g_r v3 → (g_r (v3 + 1)) ∧ ((0 ≤ ((v3 + 1) : Int) ∧ ((v3 + 1) : Int) < g_fl E 0) ∧ (k_X11_restore E l D (g_fx E 0 (v3 + 1).toNat) (fun x1 D1 => g_r x1 → (g_r (v3 + 1)) ∧ ((0 ≤ ((v3 + 1) : Int) ∧ ((v3 + 1) : Int) < g_fl E 0) ∧ (k_X12_restore E l D1 (g_fx E 0 (v3 + 1).toNat) (fun x2 D2 => g_r x2 → (x1 = x2 → n_L_law E l nc ns D2 1450 [some (g_F 0), some (g_R 0), some (g_R 208), some (g_I v3)]) ∧ (¬ x1 = x2 → False)))))))) : n_L_law E l nc ns D 1404 [some (g_F 0), some (g_R 0), some (g_R 208), some (g_I v3)] := by
  refine g_use (fun ok => ?_)
  have hF := hF ok.2.1 (ok.loc (i := 3) rfl)
  refine g_aload_n dL_law_1404 rfl ?_
  refine g_aload_nF dL_law_1405 rfl ?_
  refine g_iload_n dL_law_1406 rfl ?_
  refine g_iconst dL_law_1407 ⟨by decide, by decide⟩ ?_
  obtain ⟨hc, hF⟩ := hF
  refine g_iadd dL_law_1408 hc ?_
  obtain ⟨hc, hF⟩ := hF
  refine g_ialdF dL_law_1409 (by decide) hc.1 hc.2 (g_fx0 _) ?_
  refine gl_cVi (b := 0) (As := [g_I (g_fx E 0 (v3 + 1).toNat)]) (rest := []) dL_law_1410 mv_L_211 sh_0 rfl (Nat.le_of_ble_eq_true rfl) (by decide) hnc hns rfl hF ?_
  intro x1 D1 hx1 hF
  have hF := hF hx1
  refine g_aload_n dL_law_1413 rfl ?_
  refine g_aload_nF dL_law_1414 rfl ?_
  refine g_iload_n dL_law_1415 rfl ?_
  refine g_iconst dL_law_1416 ⟨by decide, by decide⟩ ?_
  obtain ⟨hc, hF⟩ := hF
  refine g_iadd dL_law_1417 hc ?_
  obtain ⟨hc, hF⟩ := hF
  refine g_ialdF dL_law_1418 (by decide) hc.1 hc.2 (g_fx0 _) ?_
  refine gl_cVi (b := 208) (As := [g_I (g_fx E 0 (v3 + 1).toNat)]) (rest := [g_I x1]) dL_law_1419 mv_L_214 sh_208 rfl (Nat.le_of_ble_eq_true rfl) (by decide) hnc hns rfl hF ?_
  intro x2 D2 hx2 hF
  have hF := hF hx2
  refine g_ceq dL_law_1422 rfl (fun q => ?_) (fun q => ?_)
  · have hF := hF.1 q
    exact hF
  · have hF := hF.2 q
    refine g_iconst dL_law_1425 ⟨by decide, by decide⟩ ?_
    exact hF.elim
theorem s_L_law_1427 {E : g_E} {l : Launch} {nc ns : Nat} {D : g_D} {v3 : Int} (hnc : nc ≤ 600000) (hns : ns ≤ 7302250) (hF : g_okD D → g_r v3 → (g_r (v3 + 1)) ∧ ((0 ≤ ((v3 + 1) : Int) ∧ ((v3 + 1) : Int) < g_fl E 0) ∧ (k_X11_count E l D (g_fx E 0 (v3 + 1).toNat) (fun x1 D1 => g_r x1 → (g_r (v3 + 1)) ∧ ((0 ≤ ((v3 + 1) : Int) ∧ ((v3 + 1) : Int) < g_fl E 0) ∧ (k_X12_count E l D1 (g_fx E 0 (v3 + 1).toNat) (fun x2 D2 => g_r x2 → (x1 = x2 → n_L_law E l nc ns D2 1450 [some (g_F 0), some (g_R 0), some (g_R 208), some (g_I v3)]) ∧ (¬ x1 = x2 → False)))))))) : n_L_law E l nc ns D 1427 [some (g_F 0), some (g_R 0), some (g_R 208), some (g_I v3)] := by
  refine g_use (fun ok => ?_)
  have hF := hF ok.2.1 (ok.loc (i := 3) rfl)
  refine g_aload_n dL_law_1427 rfl ?_
  refine g_aload_nF dL_law_1428 rfl ?_
  refine g_iload_n dL_law_1429 rfl ?_
  refine g_iconst dL_law_1430 ⟨by decide, by decide⟩ ?_
  obtain ⟨hc, hF⟩ := hF
  refine g_iadd dL_law_1431 hc ?_
  obtain ⟨hc, hF⟩ := hF
  refine g_ialdF dL_law_1432 (by decide) hc.1 hc.2 (g_fx0 _) ?_
  refine gl_cVi (b := 0) (As := [g_I (g_fx E 0 (v3 + 1).toNat)]) (rest := []) dL_law_1433 mv_L_215 sh_0 rfl (Nat.le_of_ble_eq_true rfl) (by decide) hnc hns rfl hF ?_
  intro x1 D1 hx1 hF
  have hF := hF hx1
  refine g_aload_n dL_law_1436 rfl ?_
  refine g_aload_nF dL_law_1437 rfl ?_
  refine g_iload_n dL_law_1438 rfl ?_
  refine g_iconst dL_law_1439 ⟨by decide, by decide⟩ ?_
  obtain ⟨hc, hF⟩ := hF
  refine g_iadd dL_law_1440 hc ?_
  obtain ⟨hc, hF⟩ := hF
  refine g_ialdF dL_law_1441 (by decide) hc.1 hc.2 (g_fx0 _) ?_
  refine gl_cVi (b := 208) (As := [g_I (g_fx E 0 (v3 + 1).toNat)]) (rest := [g_I x1]) dL_law_1442 mv_L_218 sh_208 rfl (Nat.le_of_ble_eq_true rfl) (by decide) hnc hns rfl hF ?_
  intro x2 D2 hx2 hF
  have hF := hF hx2
  refine g_ceq dL_law_1445 rfl (fun q => ?_) (fun q => ?_)
  · have hF := hF.1 q
    exact hF
  · have hF := hF.2 q
    refine g_iconst dL_law_1448 ⟨by decide, by decide⟩ ?_
    exact hF.elim
theorem s_L_law_1450 {E : g_E} {l : Launch} {nc ns : Nat} {D : g_D} {v3 : Int} (hnc : nc ≤ 600000) (hns : ns ≤ 7302250) (hF : g_okD D → g_r v3 → (g_r (v3 + 6)) ∧ (n_L_law E l nc ns D 18 [some (g_F 0), some (g_R 0), some (g_R 208), some (g_I (v3 + 6))])) : n_L_law E l nc ns D 1450 [some (g_F 0), some (g_R 0), some (g_R 208), some (g_I v3)] := by
  refine g_use (fun ok => ?_)
  have hF := hF ok.2.1 (ok.loc (i := 3) rfl)
  obtain ⟨hc, hF⟩ := hF
  refine gc_iinc (L' := [some (g_F 0), some (g_R 0), some (g_R 208), some (g_I (v3 + 6))]) dL_law_1450 rfl hc (by decide) rfl ?_
  refine g_goto dL_law_1453 rfl ?_
  exact hF
