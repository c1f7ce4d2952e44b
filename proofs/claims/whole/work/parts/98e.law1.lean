/-! THE LAW: its code, and what a call of either object does -/
theorem dw_0 : decode code 0 = .ok (.new 7, 3) := by decide +kernel
theorem dw_3 : decode code 3 = .ok (.dup, 1) := by decide +kernel
theorem dw_4 : decode code 4 = .ok (.invokespecial 9, 3) := by decide +kernel
theorem dw_7 : decode code 7 = .ok (.astore_n 1, 1) := by decide +kernel
theorem dw_8 : decode code 8 = .ok (.new 10, 3) := by decide +kernel
theorem dw_11 : decode code 11 = .ok (.dup, 1) := by decide +kernel
theorem dw_12 : decode code 12 = .ok (.invokespecial 12, 3) := by decide +kernel
theorem dw_15 : decode code 15 = .ok (.astore_n 2, 1) := by decide +kernel
theorem dw_16 : decode code 16 = .ok (.iconst 0, 1) := by decide +kernel
theorem dw_17 : decode code 17 = .ok (.istore_n 3, 1) := by decide +kernel
theorem dw_18 : decode code 18 = .ok (.iload_n 3, 1) := by decide +kernel
theorem dw_19 : decode code 19 = .ok (.aload_n 0, 1) := by decide +kernel
theorem dw_20 : decode code 20 = .ok (.arraylength, 1) := by decide +kernel
theorem dw_21 : decode code 21 = .ok (.iconst 4, 1) := by decide +kernel
theorem dw_22 : decode code 22 = .ok (.isub, 1) := by decide +kernel
theorem dw_23 : decode code 23 = .ok (.if_icmp .gt 1308, 3) := by decide +kernel
theorem dw_26 : decode code 26 = .ok (.aload_n 0, 1) := by decide +kernel
theorem dw_27 : decode code 27 = .ok (.iload_n 3, 1) := by decide +kernel
theorem dw_28 : decode code 28 = .ok (.iaload, 1) := by decide +kernel
theorem dw_29 : decode code 29 = .ok (.bipush 63, 2) := by decide +kernel
theorem dw_31 : decode code 31 = .ok (.iand, 1) := by decide +kernel
theorem dw_32 : decode code 32 = .ok (.tableswitch 1293 0 40 #[180, 245, 258, 291, 324, 347, 370, 393, 426, 449, 462, 485, 518, 561, 584, 597, 620, 679, 712, 725, 748, 771, 784, 827, 870, 883, 906, 929, 942, 955, 988, 1047, 1060, 1073, 1096, 1109, 1158, 1191, 1204, 1227, 1270], 180) := by decide +kernel
theorem dw_212 : decode code 212 = .ok (.aload_n 1, 1) := by decide +kernel
theorem dw_213 : decode code 213 = .ok (.aload_n 0, 1) := by decide +kernel
theorem dw_214 : decode code 214 = .ok (.iload_n 3, 1) := by decide +kernel
theorem dw_215 : decode code 215 = .ok (.iconst 1, 1) := by decide +kernel
theorem dw_216 : decode code 216 = .ok (.iadd, 1) := by decide +kernel
theorem dw_217 : decode code 217 = .ok (.iaload, 1) := by decide +kernel
theorem dw_218 : decode code 218 = .ok (.ifCond .eq 7, 3) := by decide +kernel
theorem dw_221 : decode code 221 = .ok (.iconst 1, 1) := by decide +kernel
theorem dw_222 : decode code 222 = .ok (.goto 4, 3) := by decide +kernel
theorem dw_225 : decode code 225 = .ok (.iconst 0, 1) := by decide +kernel
theorem dw_226 : decode code 226 = .ok (.aload_n 0, 1) := by decide +kernel
theorem dw_227 : decode code 227 = .ok (.iload_n 3, 1) := by decide +kernel
theorem dw_228 : decode code 228 = .ok (.iconst 2, 1) := by decide +kernel
theorem dw_229 : decode code 229 = .ok (.iadd, 1) := by decide +kernel
theorem dw_230 : decode code 230 = .ok (.iaload, 1) := by decide +kernel
theorem dw_231 : decode code 231 = .ok (.ifCond .eq 7, 3) := by decide +kernel
theorem dw_234 : decode code 234 = .ok (.iconst 1, 1) := by decide +kernel
theorem dw_235 : decode code 235 = .ok (.goto 4, 3) := by decide +kernel
theorem dw_238 : decode code 238 = .ok (.iconst 0, 1) := by decide +kernel
theorem dw_239 : decode code 239 = .ok (.invokevirtual 13, 3) := by decide +kernel
theorem dw_242 : decode code 242 = .ok (.aload_n 2, 1) := by decide +kernel
theorem dw_243 : decode code 243 = .ok (.aload_n 0, 1) := by decide +kernel
theorem dw_244 : decode code 244 = .ok (.iload_n 3, 1) := by decide +kernel
theorem dw_245 : decode code 245 = .ok (.iconst 1, 1) := by decide +kernel
theorem dw_246 : decode code 246 = .ok (.iadd, 1) := by decide +kernel
theorem dw_247 : decode code 247 = .ok (.iaload, 1) := by decide +kernel
theorem dw_248 : decode code 248 = .ok (.ifCond .eq 7, 3) := by decide +kernel
theorem dw_251 : decode code 251 = .ok (.iconst 1, 1) := by decide +kernel
theorem dw_252 : decode code 252 = .ok (.goto 4, 3) := by decide +kernel
theorem dw_255 : decode code 255 = .ok (.iconst 0, 1) := by decide +kernel
theorem dw_256 : decode code 256 = .ok (.aload_n 0, 1) := by decide +kernel
theorem dw_257 : decode code 257 = .ok (.iload_n 3, 1) := by decide +kernel
theorem dw_258 : decode code 258 = .ok (.iconst 2, 1) := by decide +kernel
theorem dw_259 : decode code 259 = .ok (.iadd, 1) := by decide +kernel
theorem dw_260 : decode code 260 = .ok (.iaload, 1) := by decide +kernel
theorem dw_261 : decode code 261 = .ok (.ifCond .eq 7, 3) := by decide +kernel
theorem dw_264 : decode code 264 = .ok (.iconst 1, 1) := by decide +kernel
theorem dw_265 : decode code 265 = .ok (.goto 4, 3) := by decide +kernel
theorem dw_268 : decode code 268 = .ok (.iconst 0, 1) := by decide +kernel
theorem dw_269 : decode code 269 = .ok (.invokevirtual 17, 3) := by decide +kernel
theorem dw_272 : decode code 272 = .ok (.if_icmp .eq 1053, 3) := by decide +kernel
theorem dw_275 : decode code 275 = .ok (.iconst 0, 1) := by decide +kernel
theorem dw_276 : decode code 276 = .ok (.ireturn, 1) := by decide +kernel
theorem dw_277 : decode code 277 = .ok (.aload_n 1, 1) := by decide +kernel
theorem dw_278 : decode code 278 = .ok (.invokevirtual 18, 3) := by decide +kernel
theorem dw_281 : decode code 281 = .ok (.aload_n 2, 1) := by decide +kernel
theorem dw_282 : decode code 282 = .ok (.invokevirtual 22, 3) := by decide +kernel
theorem dw_285 : decode code 285 = .ok (.if_icmp .eq 1040, 3) := by decide +kernel
theorem dw_288 : decode code 288 = .ok (.iconst 0, 1) := by decide +kernel
theorem dw_289 : decode code 289 = .ok (.ireturn, 1) := by decide +kernel
theorem dw_290 : decode code 290 = .ok (.aload_n 1, 1) := by decide +kernel
theorem dw_291 : decode code 291 = .ok (.aload_n 0, 1) := by decide +kernel
theorem dw_292 : decode code 292 = .ok (.iload_n 3, 1) := by decide +kernel
theorem dw_293 : decode code 293 = .ok (.iconst 1, 1) := by decide +kernel
theorem dw_294 : decode code 294 = .ok (.iadd, 1) := by decide +kernel
theorem dw_295 : decode code 295 = .ok (.iaload, 1) := by decide +kernel
theorem dw_296 : decode code 296 = .ok (.aload_n 0, 1) := by decide +kernel
theorem dw_297 : decode code 297 = .ok (.iload_n 3, 1) := by decide +kernel
theorem dw_298 : decode code 298 = .ok (.iconst 2, 1) := by decide +kernel
theorem dw_299 : decode code 299 = .ok (.iadd, 1) := by decide +kernel
theorem dw_300 : decode code 300 = .ok (.iaload, 1) := by decide +kernel
theorem dw_301 : decode code 301 = .ok (.invokevirtual 23, 3) := by decide +kernel
theorem dw_304 : decode code 304 = .ok (.aload_n 2, 1) := by decide +kernel
theorem dw_305 : decode code 305 = .ok (.aload_n 0, 1) := by decide +kernel
theorem dw_306 : decode code 306 = .ok (.iload_n 3, 1) := by decide +kernel
theorem dw_307 : decode code 307 = .ok (.iconst 1, 1) := by decide +kernel
theorem dw_308 : decode code 308 = .ok (.iadd, 1) := by decide +kernel
theorem dw_309 : decode code 309 = .ok (.iaload, 1) := by decide +kernel
theorem dw_310 : decode code 310 = .ok (.aload_n 0, 1) := by decide +kernel
theorem dw_311 : decode code 311 = .ok (.iload_n 3, 1) := by decide +kernel
theorem dw_312 : decode code 312 = .ok (.iconst 2, 1) := by decide +kernel
theorem dw_313 : decode code 313 = .ok (.iadd, 1) := by decide +kernel
theorem dw_314 : decode code 314 = .ok (.iaload, 1) := by decide +kernel
theorem dw_315 : decode code 315 = .ok (.invokevirtual 27, 3) := by decide +kernel
theorem dw_318 : decode code 318 = .ok (.if_icmp .eq 1007, 3) := by decide +kernel
theorem dw_321 : decode code 321 = .ok (.iconst 0, 1) := by decide +kernel
theorem dw_322 : decode code 322 = .ok (.ireturn, 1) := by decide +kernel
theorem dw_323 : decode code 323 = .ok (.aload_n 1, 1) := by decide +kernel
theorem dw_324 : decode code 324 = .ok (.aload_n 0, 1) := by decide +kernel
theorem dw_325 : decode code 325 = .ok (.iload_n 3, 1) := by decide +kernel
theorem dw_326 : decode code 326 = .ok (.iconst 1, 1) := by decide +kernel
theorem dw_327 : decode code 327 = .ok (.iadd, 1) := by decide +kernel
theorem dw_328 : decode code 328 = .ok (.iaload, 1) := by decide +kernel
theorem dw_329 : decode code 329 = .ok (.aload_n 0, 1) := by decide +kernel
theorem dw_330 : decode code 330 = .ok (.iload_n 3, 1) := by decide +kernel
theorem dw_331 : decode code 331 = .ok (.iconst 2, 1) := by decide +kernel
theorem dw_332 : decode code 332 = .ok (.iadd, 1) := by decide +kernel
theorem dw_333 : decode code 333 = .ok (.iaload, 1) := by decide +kernel
theorem dw_334 : decode code 334 = .ok (.invokevirtual 28, 3) := by decide +kernel
theorem dw_337 : decode code 337 = .ok (.aload_n 2, 1) := by decide +kernel
theorem dw_338 : decode code 338 = .ok (.aload_n 0, 1) := by decide +kernel
theorem dw_339 : decode code 339 = .ok (.iload_n 3, 1) := by decide +kernel
theorem dw_340 : decode code 340 = .ok (.iconst 1, 1) := by decide +kernel
theorem dw_341 : decode code 341 = .ok (.iadd, 1) := by decide +kernel
theorem dw_342 : decode code 342 = .ok (.iaload, 1) := by decide +kernel
theorem dw_343 : decode code 343 = .ok (.aload_n 0, 1) := by decide +kernel
theorem dw_344 : decode code 344 = .ok (.iload_n 3, 1) := by decide +kernel
theorem dw_345 : decode code 345 = .ok (.iconst 2, 1) := by decide +kernel
theorem dw_346 : decode code 346 = .ok (.iadd, 1) := by decide +kernel
theorem dw_347 : decode code 347 = .ok (.iaload, 1) := by decide +kernel
theorem dw_348 : decode code 348 = .ok (.invokevirtual 31, 3) := by decide +kernel
theorem dw_351 : decode code 351 = .ok (.if_icmp .eq 974, 3) := by decide +kernel
theorem dw_354 : decode code 354 = .ok (.iconst 0, 1) := by decide +kernel
theorem dw_355 : decode code 355 = .ok (.ireturn, 1) := by decide +kernel
theorem dw_356 : decode code 356 = .ok (.aload_n 1, 1) := by decide +kernel
theorem dw_357 : decode code 357 = .ok (.aload_n 0, 1) := by decide +kernel
theorem dw_358 : decode code 358 = .ok (.iload_n 3, 1) := by decide +kernel
theorem dw_359 : decode code 359 = .ok (.iconst 1, 1) := by decide +kernel
theorem dw_360 : decode code 360 = .ok (.iadd, 1) := by decide +kernel
theorem dw_361 : decode code 361 = .ok (.iaload, 1) := by decide +kernel
theorem dw_362 : decode code 362 = .ok (.invokevirtual 32, 3) := by decide +kernel
theorem dw_365 : decode code 365 = .ok (.aload_n 2, 1) := by decide +kernel
theorem dw_366 : decode code 366 = .ok (.aload_n 0, 1) := by decide +kernel
theorem dw_367 : decode code 367 = .ok (.iload_n 3, 1) := by decide +kernel
theorem dw_368 : decode code 368 = .ok (.iconst 1, 1) := by decide +kernel
theorem dw_369 : decode code 369 = .ok (.iadd, 1) := by decide +kernel
theorem dw_370 : decode code 370 = .ok (.iaload, 1) := by decide +kernel
theorem dw_371 : decode code 371 = .ok (.invokevirtual 36, 3) := by decide +kernel
theorem dw_374 : decode code 374 = .ok (.if_icmp .eq 951, 3) := by decide +kernel
theorem dw_377 : decode code 377 = .ok (.iconst 0, 1) := by decide +kernel
theorem dw_378 : decode code 378 = .ok (.ireturn, 1) := by decide +kernel
theorem dw_379 : decode code 379 = .ok (.aload_n 1, 1) := by decide +kernel
theorem dw_380 : decode code 380 = .ok (.aload_n 0, 1) := by decide +kernel
theorem dw_381 : decode code 381 = .ok (.iload_n 3, 1) := by decide +kernel
theorem dw_382 : decode code 382 = .ok (.iconst 1, 1) := by decide +kernel
theorem dw_383 : decode code 383 = .ok (.iadd, 1) := by decide +kernel
theorem dw_384 : decode code 384 = .ok (.iaload, 1) := by decide +kernel
theorem dw_385 : decode code 385 = .ok (.invokevirtual 37, 3) := by decide +kernel
theorem dw_388 : decode code 388 = .ok (.aload_n 2, 1) := by decide +kernel
theorem dw_389 : decode code 389 = .ok (.aload_n 0, 1) := by decide +kernel
theorem dw_390 : decode code 390 = .ok (.iload_n 3, 1) := by decide +kernel
theorem dw_391 : decode code 391 = .ok (.iconst 1, 1) := by decide +kernel
theorem dw_392 : decode code 392 = .ok (.iadd, 1) := by decide +kernel
theorem dw_393 : decode code 393 = .ok (.iaload, 1) := by decide +kernel
theorem dw_394 : decode code 394 = .ok (.invokevirtual 40, 3) := by decide +kernel
theorem dw_397 : decode code 397 = .ok (.if_icmp .eq 928, 3) := by decide +kernel
theorem dw_400 : decode code 400 = .ok (.iconst 0, 1) := by decide +kernel
theorem dw_401 : decode code 401 = .ok (.ireturn, 1) := by decide +kernel
theorem dw_402 : decode code 402 = .ok (.aload_n 1, 1) := by decide +kernel
theorem dw_403 : decode code 403 = .ok (.aload_n 0, 1) := by decide +kernel
theorem dw_404 : decode code 404 = .ok (.iload_n 3, 1) := by decide +kernel
theorem dw_405 : decode code 405 = .ok (.iconst 1, 1) := by decide +kernel
theorem dw_406 : decode code 406 = .ok (.iadd, 1) := by decide +kernel
theorem dw_407 : decode code 407 = .ok (.iaload, 1) := by decide +kernel
theorem dw_408 : decode code 408 = .ok (.invokevirtual 41, 3) := by decide +kernel
theorem dw_411 : decode code 411 = .ok (.aload_n 2, 1) := by decide +kernel
theorem dw_412 : decode code 412 = .ok (.aload_n 0, 1) := by decide +kernel
theorem dw_413 : decode code 413 = .ok (.iload_n 3, 1) := by decide +kernel
theorem dw_414 : decode code 414 = .ok (.iconst 1, 1) := by decide +kernel
theorem dw_415 : decode code 415 = .ok (.iadd, 1) := by decide +kernel
theorem dw_416 : decode code 416 = .ok (.iaload, 1) := by decide +kernel
theorem dw_417 : decode code 417 = .ok (.invokevirtual 44, 3) := by decide +kernel
theorem dw_420 : decode code 420 = .ok (.if_icmp .eq 905, 3) := by decide +kernel
theorem dw_423 : decode code 423 = .ok (.iconst 0, 1) := by decide +kernel
theorem dw_424 : decode code 424 = .ok (.ireturn, 1) := by decide +kernel
theorem dw_425 : decode code 425 = .ok (.aload_n 1, 1) := by decide +kernel
theorem dw_426 : decode code 426 = .ok (.aload_n 0, 1) := by decide +kernel
theorem dw_427 : decode code 427 = .ok (.iload_n 3, 1) := by decide +kernel
theorem dw_428 : decode code 428 = .ok (.iconst 1, 1) := by decide +kernel
theorem dw_429 : decode code 429 = .ok (.iadd, 1) := by decide +kernel
theorem dw_430 : decode code 430 = .ok (.iaload, 1) := by decide +kernel
theorem dw_431 : decode code 431 = .ok (.aload_n 0, 1) := by decide +kernel
theorem dw_432 : decode code 432 = .ok (.iload_n 3, 1) := by decide +kernel
theorem dw_433 : decode code 433 = .ok (.iconst 2, 1) := by decide +kernel
theorem dw_434 : decode code 434 = .ok (.iadd, 1) := by decide +kernel
theorem dw_435 : decode code 435 = .ok (.iaload, 1) := by decide +kernel
theorem dw_436 : decode code 436 = .ok (.invokevirtual 45, 3) := by decide +kernel
theorem dw_439 : decode code 439 = .ok (.aload_n 2, 1) := by decide +kernel
theorem dw_440 : decode code 440 = .ok (.aload_n 0, 1) := by decide +kernel
theorem dw_441 : decode code 441 = .ok (.iload_n 3, 1) := by decide +kernel
theorem dw_442 : decode code 442 = .ok (.iconst 1, 1) := by decide +kernel
theorem dw_443 : decode code 443 = .ok (.iadd, 1) := by decide +kernel
theorem dw_444 : decode code 444 = .ok (.iaload, 1) := by decide +kernel
theorem dw_445 : decode code 445 = .ok (.aload_n 0, 1) := by decide +kernel
theorem dw_446 : decode code 446 = .ok (.iload_n 3, 1) := by decide +kernel
theorem dw_447 : decode code 447 = .ok (.iconst 2, 1) := by decide +kernel
theorem dw_448 : decode code 448 = .ok (.iadd, 1) := by decide +kernel
theorem dw_449 : decode code 449 = .ok (.iaload, 1) := by decide +kernel
theorem dw_450 : decode code 450 = .ok (.invokevirtual 48, 3) := by decide +kernel
theorem dw_453 : decode code 453 = .ok (.if_icmp .eq 872, 3) := by decide +kernel
theorem dw_456 : decode code 456 = .ok (.iconst 0, 1) := by decide +kernel
theorem dw_457 : decode code 457 = .ok (.ireturn, 1) := by decide +kernel
theorem dw_458 : decode code 458 = .ok (.aload_n 1, 1) := by decide +kernel
theorem dw_459 : decode code 459 = .ok (.aload_n 0, 1) := by decide +kernel
theorem dw_460 : decode code 460 = .ok (.iload_n 3, 1) := by decide +kernel
theorem dw_461 : decode code 461 = .ok (.iconst 1, 1) := by decide +kernel
theorem dw_462 : decode code 462 = .ok (.iadd, 1) := by decide +kernel
theorem dw_463 : decode code 463 = .ok (.iaload, 1) := by decide +kernel
theorem dw_464 : decode code 464 = .ok (.invokevirtual 49, 3) := by decide +kernel
theorem dw_467 : decode code 467 = .ok (.aload_n 2, 1) := by decide +kernel
theorem dw_468 : decode code 468 = .ok (.aload_n 0, 1) := by decide +kernel
theorem dw_469 : decode code 469 = .ok (.iload_n 3, 1) := by decide +kernel
theorem dw_470 : decode code 470 = .ok (.iconst 1, 1) := by decide +kernel
theorem dw_471 : decode code 471 = .ok (.iadd, 1) := by decide +kernel
theorem dw_472 : decode code 472 = .ok (.iaload, 1) := by decide +kernel
theorem dw_473 : decode code 473 = .ok (.invokevirtual 52, 3) := by decide +kernel
theorem dw_476 : decode code 476 = .ok (.if_icmp .eq 849, 3) := by decide +kernel
theorem dw_479 : decode code 479 = .ok (.iconst 0, 1) := by decide +kernel
theorem dw_480 : decode code 480 = .ok (.ireturn, 1) := by decide +kernel
theorem dw_481 : decode code 481 = .ok (.aload_n 1, 1) := by decide +kernel
theorem dw_482 : decode code 482 = .ok (.invokevirtual 53, 3) := by decide +kernel
theorem dw_485 : decode code 485 = .ok (.aload_n 2, 1) := by decide +kernel
theorem dw_486 : decode code 486 = .ok (.invokevirtual 56, 3) := by decide +kernel
theorem dw_489 : decode code 489 = .ok (.if_icmp .eq 836, 3) := by decide +kernel
theorem dw_492 : decode code 492 = .ok (.iconst 0, 1) := by decide +kernel
theorem dw_493 : decode code 493 = .ok (.ireturn, 1) := by decide +kernel
theorem dw_494 : decode code 494 = .ok (.aload_n 1, 1) := by decide +kernel
theorem dw_495 : decode code 495 = .ok (.aload_n 0, 1) := by decide +kernel
theorem dw_496 : decode code 496 = .ok (.iload_n 3, 1) := by decide +kernel
theorem dw_497 : decode code 497 = .ok (.iconst 1, 1) := by decide +kernel
theorem dw_498 : decode code 498 = .ok (.iadd, 1) := by decide +kernel
theorem dw_499 : decode code 499 = .ok (.iaload, 1) := by decide +kernel
theorem dw_500 : decode code 500 = .ok (.invokevirtual 57, 3) := by decide +kernel
theorem dw_503 : decode code 503 = .ok (.aload_n 2, 1) := by decide +kernel
theorem dw_504 : decode code 504 = .ok (.aload_n 0, 1) := by decide +kernel
theorem dw_505 : decode code 505 = .ok (.iload_n 3, 1) := by decide +kernel
theorem dw_506 : decode code 506 = .ok (.iconst 1, 1) := by decide +kernel
theorem dw_507 : decode code 507 = .ok (.iadd, 1) := by decide +kernel
theorem dw_508 : decode code 508 = .ok (.iaload, 1) := by decide +kernel
theorem dw_509 : decode code 509 = .ok (.invokevirtual 60, 3) := by decide +kernel
theorem dw_512 : decode code 512 = .ok (.if_icmp .eq 813, 3) := by decide +kernel
theorem dw_515 : decode code 515 = .ok (.iconst 0, 1) := by decide +kernel
theorem dw_516 : decode code 516 = .ok (.ireturn, 1) := by decide +kernel
theorem dw_517 : decode code 517 = .ok (.aload_n 1, 1) := by decide +kernel
theorem dw_518 : decode code 518 = .ok (.aload_n 0, 1) := by decide +kernel
theorem dw_519 : decode code 519 = .ok (.iload_n 3, 1) := by decide +kernel
theorem dw_520 : decode code 520 = .ok (.iconst 1, 1) := by decide +kernel
theorem dw_521 : decode code 521 = .ok (.iadd, 1) := by decide +kernel
theorem dw_522 : decode code 522 = .ok (.iaload, 1) := by decide +kernel
theorem dw_523 : decode code 523 = .ok (.aload_n 0, 1) := by decide +kernel
theorem dw_524 : decode code 524 = .ok (.iload_n 3, 1) := by decide +kernel
theorem dw_525 : decode code 525 = .ok (.iconst 2, 1) := by decide +kernel
theorem dw_526 : decode code 526 = .ok (.iadd, 1) := by decide +kernel
theorem dw_527 : decode code 527 = .ok (.iaload, 1) := by decide +kernel
theorem dw_528 : decode code 528 = .ok (.invokevirtual 61, 3) := by decide +kernel
theorem dw_531 : decode code 531 = .ok (.aload_n 2, 1) := by decide +kernel
theorem dw_532 : decode code 532 = .ok (.aload_n 0, 1) := by decide +kernel
theorem dw_533 : decode code 533 = .ok (.iload_n 3, 1) := by decide +kernel
theorem dw_534 : decode code 534 = .ok (.iconst 1, 1) := by decide +kernel
theorem dw_535 : decode code 535 = .ok (.iadd, 1) := by decide +kernel
theorem dw_536 : decode code 536 = .ok (.iaload, 1) := by decide +kernel
theorem dw_537 : decode code 537 = .ok (.aload_n 0, 1) := by decide +kernel
theorem dw_538 : decode code 538 = .ok (.iload_n 3, 1) := by decide +kernel
theorem dw_539 : decode code 539 = .ok (.iconst 2, 1) := by decide +kernel
theorem dw_540 : decode code 540 = .ok (.iadd, 1) := by decide +kernel
theorem dw_541 : decode code 541 = .ok (.iaload, 1) := by decide +kernel
theorem dw_542 : decode code 542 = .ok (.invokevirtual 64, 3) := by decide +kernel
theorem dw_545 : decode code 545 = .ok (.if_icmp .eq 780, 3) := by decide +kernel
theorem dw_548 : decode code 548 = .ok (.iconst 0, 1) := by decide +kernel
theorem dw_549 : decode code 549 = .ok (.ireturn, 1) := by decide +kernel
theorem dw_550 : decode code 550 = .ok (.aload_n 1, 1) := by decide +kernel
theorem dw_551 : decode code 551 = .ok (.aload_n 0, 1) := by decide +kernel
theorem dw_552 : decode code 552 = .ok (.iload_n 3, 1) := by decide +kernel
theorem dw_553 : decode code 553 = .ok (.iconst 1, 1) := by decide +kernel
theorem dw_554 : decode code 554 = .ok (.iadd, 1) := by decide +kernel
theorem dw_555 : decode code 555 = .ok (.iaload, 1) := by decide +kernel
theorem dw_556 : decode code 556 = .ok (.aload_n 0, 1) := by decide +kernel
theorem dw_557 : decode code 557 = .ok (.iload_n 3, 1) := by decide +kernel
theorem dw_558 : decode code 558 = .ok (.iconst 2, 1) := by decide +kernel
theorem dw_559 : decode code 559 = .ok (.iadd, 1) := by decide +kernel
theorem dw_560 : decode code 560 = .ok (.iaload, 1) := by decide +kernel
theorem dw_561 : decode code 561 = .ok (.aload_n 0, 1) := by decide +kernel
theorem dw_562 : decode code 562 = .ok (.iload_n 3, 1) := by decide +kernel
theorem dw_563 : decode code 563 = .ok (.iconst 3, 1) := by decide +kernel
theorem dw_564 : decode code 564 = .ok (.iadd, 1) := by decide +kernel
theorem dw_565 : decode code 565 = .ok (.iaload, 1) := by decide +kernel
theorem dw_566 : decode code 566 = .ok (.invokevirtual 65, 3) := by decide +kernel
theorem dw_569 : decode code 569 = .ok (.aload_n 2, 1) := by decide +kernel
theorem dw_570 : decode code 570 = .ok (.aload_n 0, 1) := by decide +kernel
theorem dw_571 : decode code 571 = .ok (.iload_n 3, 1) := by decide +kernel
theorem dw_572 : decode code 572 = .ok (.iconst 1, 1) := by decide +kernel
theorem dw_573 : decode code 573 = .ok (.iadd, 1) := by decide +kernel
theorem dw_574 : decode code 574 = .ok (.iaload, 1) := by decide +kernel
theorem dw_575 : decode code 575 = .ok (.aload_n 0, 1) := by decide +kernel
theorem dw_576 : decode code 576 = .ok (.iload_n 3, 1) := by decide +kernel
theorem dw_577 : decode code 577 = .ok (.iconst 2, 1) := by decide +kernel
theorem dw_578 : decode code 578 = .ok (.iadd, 1) := by decide +kernel
theorem dw_579 : decode code 579 = .ok (.iaload, 1) := by decide +kernel
theorem dw_580 : decode code 580 = .ok (.aload_n 0, 1) := by decide +kernel
theorem dw_581 : decode code 581 = .ok (.iload_n 3, 1) := by decide +kernel
theorem dw_582 : decode code 582 = .ok (.iconst 3, 1) := by decide +kernel
theorem dw_583 : decode code 583 = .ok (.iadd, 1) := by decide +kernel
theorem dw_584 : decode code 584 = .ok (.iaload, 1) := by decide +kernel
theorem dw_585 : decode code 585 = .ok (.invokevirtual 69, 3) := by decide +kernel
theorem dw_588 : decode code 588 = .ok (.if_icmp .eq 737, 3) := by decide +kernel
theorem dw_591 : decode code 591 = .ok (.iconst 0, 1) := by decide +kernel
theorem dw_592 : decode code 592 = .ok (.ireturn, 1) := by decide +kernel
theorem dw_593 : decode code 593 = .ok (.aload_n 1, 1) := by decide +kernel
theorem dw_594 : decode code 594 = .ok (.aload_n 0, 1) := by decide +kernel
theorem dw_595 : decode code 595 = .ok (.iload_n 3, 1) := by decide +kernel
theorem dw_596 : decode code 596 = .ok (.iconst 1, 1) := by decide +kernel
theorem dw_597 : decode code 597 = .ok (.iadd, 1) := by decide +kernel
theorem dw_598 : decode code 598 = .ok (.iaload, 1) := by decide +kernel
theorem dw_599 : decode code 599 = .ok (.invokevirtual 70, 3) := by decide +kernel
theorem dw_602 : decode code 602 = .ok (.aload_n 2, 1) := by decide +kernel
theorem dw_603 : decode code 603 = .ok (.aload_n 0, 1) := by decide +kernel
theorem dw_604 : decode code 604 = .ok (.iload_n 3, 1) := by decide +kernel
theorem dw_605 : decode code 605 = .ok (.iconst 1, 1) := by decide +kernel
theorem dw_606 : decode code 606 = .ok (.iadd, 1) := by decide +kernel
theorem dw_607 : decode code 607 = .ok (.iaload, 1) := by decide +kernel
theorem dw_608 : decode code 608 = .ok (.invokevirtual 73, 3) := by decide +kernel
theorem dw_611 : decode code 611 = .ok (.if_icmp .eq 714, 3) := by decide +kernel
theorem dw_614 : decode code 614 = .ok (.iconst 0, 1) := by decide +kernel
theorem dw_615 : decode code 615 = .ok (.ireturn, 1) := by decide +kernel
theorem dw_616 : decode code 616 = .ok (.aload_n 1, 1) := by decide +kernel
theorem dw_617 : decode code 617 = .ok (.invokevirtual 74, 3) := by decide +kernel
theorem dw_620 : decode code 620 = .ok (.aload_n 2, 1) := by decide +kernel
theorem dw_621 : decode code 621 = .ok (.invokevirtual 77, 3) := by decide +kernel
theorem dw_624 : decode code 624 = .ok (.if_icmp .eq 701, 3) := by decide +kernel
theorem dw_627 : decode code 627 = .ok (.iconst 0, 1) := by decide +kernel
theorem dw_628 : decode code 628 = .ok (.ireturn, 1) := by decide +kernel
theorem dw_629 : decode code 629 = .ok (.aload_n 1, 1) := by decide +kernel
theorem dw_630 : decode code 630 = .ok (.aload_n 0, 1) := by decide +kernel
theorem dw_631 : decode code 631 = .ok (.iload_n 3, 1) := by decide +kernel
theorem dw_632 : decode code 632 = .ok (.iconst 1, 1) := by decide +kernel
theorem dw_633 : decode code 633 = .ok (.iadd, 1) := by decide +kernel
theorem dw_634 : decode code 634 = .ok (.iaload, 1) := by decide +kernel
theorem dw_635 : decode code 635 = .ok (.invokevirtual 78, 3) := by decide +kernel
theorem dw_638 : decode code 638 = .ok (.aload_n 2, 1) := by decide +kernel
theorem dw_639 : decode code 639 = .ok (.aload_n 0, 1) := by decide +kernel
theorem dw_640 : decode code 640 = .ok (.iload_n 3, 1) := by decide +kernel
theorem dw_641 : decode code 641 = .ok (.iconst 1, 1) := by decide +kernel
theorem dw_642 : decode code 642 = .ok (.iadd, 1) := by decide +kernel
theorem dw_643 : decode code 643 = .ok (.iaload, 1) := by decide +kernel
theorem dw_644 : decode code 644 = .ok (.invokevirtual 81, 3) := by decide +kernel
theorem dw_647 : decode code 647 = .ok (.if_icmp .eq 678, 3) := by decide +kernel
theorem dw_650 : decode code 650 = .ok (.iconst 0, 1) := by decide +kernel
theorem dw_651 : decode code 651 = .ok (.ireturn, 1) := by decide +kernel
theorem dw_652 : decode code 652 = .ok (.aload_n 1, 1) := by decide +kernel
theorem dw_653 : decode code 653 = .ok (.aload_n 0, 1) := by decide +kernel
theorem dw_654 : decode code 654 = .ok (.iload_n 3, 1) := by decide +kernel
theorem dw_655 : decode code 655 = .ok (.iconst 1, 1) := by decide +kernel
theorem dw_656 : decode code 656 = .ok (.iadd, 1) := by decide +kernel
theorem dw_657 : decode code 657 = .ok (.iaload, 1) := by decide +kernel
theorem dw_658 : decode code 658 = .ok (.aload_n 0, 1) := by decide +kernel
theorem dw_659 : decode code 659 = .ok (.iload_n 3, 1) := by decide +kernel
theorem dw_660 : decode code 660 = .ok (.iconst 2, 1) := by decide +kernel
theorem dw_661 : decode code 661 = .ok (.iadd, 1) := by decide +kernel
theorem dw_662 : decode code 662 = .ok (.iaload, 1) := by decide +kernel
theorem dw_663 : decode code 663 = .ok (.aload_n 0, 1) := by decide +kernel
theorem dw_664 : decode code 664 = .ok (.iload_n 3, 1) := by decide +kernel
theorem dw_665 : decode code 665 = .ok (.iconst 3, 1) := by decide +kernel
theorem dw_666 : decode code 666 = .ok (.iadd, 1) := by decide +kernel
theorem dw_667 : decode code 667 = .ok (.iaload, 1) := by decide +kernel
theorem dw_668 : decode code 668 = .ok (.ifCond .eq 7, 3) := by decide +kernel
theorem dw_671 : decode code 671 = .ok (.iconst 1, 1) := by decide +kernel
theorem dw_672 : decode code 672 = .ok (.goto 4, 3) := by decide +kernel
theorem dw_675 : decode code 675 = .ok (.iconst 0, 1) := by decide +kernel
theorem dw_676 : decode code 676 = .ok (.invokevirtual 82, 3) := by decide +kernel
theorem dw_679 : decode code 679 = .ok (.aload_n 2, 1) := by decide +kernel
theorem dw_680 : decode code 680 = .ok (.aload_n 0, 1) := by decide +kernel
theorem dw_681 : decode code 681 = .ok (.iload_n 3, 1) := by decide +kernel
theorem dw_682 : decode code 682 = .ok (.iconst 1, 1) := by decide +kernel
theorem dw_683 : decode code 683 = .ok (.iadd, 1) := by decide +kernel
theorem dw_684 : decode code 684 = .ok (.iaload, 1) := by decide +kernel
theorem dw_685 : decode code 685 = .ok (.aload_n 0, 1) := by decide +kernel
theorem dw_686 : decode code 686 = .ok (.iload_n 3, 1) := by decide +kernel
theorem dw_687 : decode code 687 = .ok (.iconst 2, 1) := by decide +kernel
theorem dw_688 : decode code 688 = .ok (.iadd, 1) := by decide +kernel
theorem dw_689 : decode code 689 = .ok (.iaload, 1) := by decide +kernel
theorem dw_690 : decode code 690 = .ok (.aload_n 0, 1) := by decide +kernel
theorem dw_691 : decode code 691 = .ok (.iload_n 3, 1) := by decide +kernel
theorem dw_692 : decode code 692 = .ok (.iconst 3, 1) := by decide +kernel
theorem dw_693 : decode code 693 = .ok (.iadd, 1) := by decide +kernel
theorem dw_694 : decode code 694 = .ok (.iaload, 1) := by decide +kernel
theorem dw_695 : decode code 695 = .ok (.ifCond .eq 7, 3) := by decide +kernel
theorem dw_698 : decode code 698 = .ok (.iconst 1, 1) := by decide +kernel
theorem dw_699 : decode code 699 = .ok (.goto 4, 3) := by decide +kernel
theorem dw_702 : decode code 702 = .ok (.iconst 0, 1) := by decide +kernel
theorem dw_703 : decode code 703 = .ok (.invokevirtual 86, 3) := by decide +kernel
theorem dw_706 : decode code 706 = .ok (.if_icmp .eq 619, 3) := by decide +kernel
theorem dw_709 : decode code 709 = .ok (.iconst 0, 1) := by decide +kernel
theorem dw_710 : decode code 710 = .ok (.ireturn, 1) := by decide +kernel
theorem dw_711 : decode code 711 = .ok (.aload_n 1, 1) := by decide +kernel
theorem dw_712 : decode code 712 = .ok (.aload_n 0, 1) := by decide +kernel
theorem dw_713 : decode code 713 = .ok (.iload_n 3, 1) := by decide +kernel
theorem dw_714 : decode code 714 = .ok (.iconst 1, 1) := by decide +kernel
theorem dw_715 : decode code 715 = .ok (.iadd, 1) := by decide +kernel
theorem dw_716 : decode code 716 = .ok (.iaload, 1) := by decide +kernel
theorem dw_717 : decode code 717 = .ok (.aload_n 0, 1) := by decide +kernel
theorem dw_718 : decode code 718 = .ok (.iload_n 3, 1) := by decide +kernel
theorem dw_719 : decode code 719 = .ok (.iconst 2, 1) := by decide +kernel
theorem dw_720 : decode code 720 = .ok (.iadd, 1) := by decide +kernel
theorem dw_721 : decode code 721 = .ok (.iaload, 1) := by decide +kernel
theorem dw_722 : decode code 722 = .ok (.invokevirtual 87, 3) := by decide +kernel
theorem dw_725 : decode code 725 = .ok (.aload_n 2, 1) := by decide +kernel
theorem dw_726 : decode code 726 = .ok (.aload_n 0, 1) := by decide +kernel
theorem dw_727 : decode code 727 = .ok (.iload_n 3, 1) := by decide +kernel
theorem dw_728 : decode code 728 = .ok (.iconst 1, 1) := by decide +kernel
theorem dw_729 : decode code 729 = .ok (.iadd, 1) := by decide +kernel
theorem dw_730 : decode code 730 = .ok (.iaload, 1) := by decide +kernel
theorem dw_731 : decode code 731 = .ok (.aload_n 0, 1) := by decide +kernel
theorem dw_732 : decode code 732 = .ok (.iload_n 3, 1) := by decide +kernel
theorem dw_733 : decode code 733 = .ok (.iconst 2, 1) := by decide +kernel
theorem dw_734 : decode code 734 = .ok (.iadd, 1) := by decide +kernel
theorem dw_735 : decode code 735 = .ok (.iaload, 1) := by decide +kernel
theorem dw_736 : decode code 736 = .ok (.invokevirtual 90, 3) := by decide +kernel
theorem dw_739 : decode code 739 = .ok (.if_icmp .eq 586, 3) := by decide +kernel
theorem dw_742 : decode code 742 = .ok (.iconst 0, 1) := by decide +kernel
theorem dw_743 : decode code 743 = .ok (.ireturn, 1) := by decide +kernel
theorem dw_744 : decode code 744 = .ok (.aload_n 1, 1) := by decide +kernel
theorem dw_745 : decode code 745 = .ok (.invokevirtual 91, 3) := by decide +kernel
theorem dw_748 : decode code 748 = .ok (.aload_n 2, 1) := by decide +kernel
theorem dw_749 : decode code 749 = .ok (.invokevirtual 94, 3) := by decide +kernel
theorem dw_752 : decode code 752 = .ok (.if_icmp .eq 573, 3) := by decide +kernel
theorem dw_755 : decode code 755 = .ok (.iconst 0, 1) := by decide +kernel
theorem dw_756 : decode code 756 = .ok (.ireturn, 1) := by decide +kernel
theorem dw_757 : decode code 757 = .ok (.aload_n 1, 1) := by decide +kernel
theorem dw_758 : decode code 758 = .ok (.aload_n 0, 1) := by decide +kernel
theorem dw_759 : decode code 759 = .ok (.iload_n 3, 1) := by decide +kernel
theorem dw_760 : decode code 760 = .ok (.iconst 1, 1) := by decide +kernel
theorem dw_761 : decode code 761 = .ok (.iadd, 1) := by decide +kernel
theorem dw_762 : decode code 762 = .ok (.iaload, 1) := by decide +kernel
theorem dw_763 : decode code 763 = .ok (.invokevirtual 95, 3) := by decide +kernel
theorem dw_766 : decode code 766 = .ok (.aload_n 2, 1) := by decide +kernel
theorem dw_767 : decode code 767 = .ok (.aload_n 0, 1) := by decide +kernel
theorem dw_768 : decode code 768 = .ok (.iload_n 3, 1) := by decide +kernel
theorem dw_769 : decode code 769 = .ok (.iconst 1, 1) := by decide +kernel
theorem dw_770 : decode code 770 = .ok (.iadd, 1) := by decide +kernel
theorem dw_771 : decode code 771 = .ok (.iaload, 1) := by decide +kernel
theorem dw_772 : decode code 772 = .ok (.invokevirtual 98, 3) := by decide +kernel
theorem dw_775 : decode code 775 = .ok (.if_icmp .eq 550, 3) := by decide +kernel
theorem dw_778 : decode code 778 = .ok (.iconst 0, 1) := by decide +kernel
theorem dw_779 : decode code 779 = .ok (.ireturn, 1) := by decide +kernel
theorem dw_780 : decode code 780 = .ok (.aload_n 1, 1) := by decide +kernel
theorem dw_781 : decode code 781 = .ok (.aload_n 0, 1) := by decide +kernel
theorem dw_782 : decode code 782 = .ok (.iload_n 3, 1) := by decide +kernel
theorem dw_783 : decode code 783 = .ok (.iconst 1, 1) := by decide +kernel
theorem dw_784 : decode code 784 = .ok (.iadd, 1) := by decide +kernel
theorem dw_785 : decode code 785 = .ok (.iaload, 1) := by decide +kernel
theorem dw_786 : decode code 786 = .ok (.invokevirtual 99, 3) := by decide +kernel
theorem dw_789 : decode code 789 = .ok (.aload_n 2, 1) := by decide +kernel
theorem dw_790 : decode code 790 = .ok (.aload_n 0, 1) := by decide +kernel
theorem dw_791 : decode code 791 = .ok (.iload_n 3, 1) := by decide +kernel
theorem dw_792 : decode code 792 = .ok (.iconst 1, 1) := by decide +kernel
theorem dw_793 : decode code 793 = .ok (.iadd, 1) := by decide +kernel
theorem dw_794 : decode code 794 = .ok (.iaload, 1) := by decide +kernel
theorem dw_795 : decode code 795 = .ok (.invokevirtual 102, 3) := by decide +kernel
theorem dw_798 : decode code 798 = .ok (.if_icmp .eq 527, 3) := by decide +kernel
theorem dw_801 : decode code 801 = .ok (.iconst 0, 1) := by decide +kernel
theorem dw_802 : decode code 802 = .ok (.ireturn, 1) := by decide +kernel
theorem dw_803 : decode code 803 = .ok (.aload_n 1, 1) := by decide +kernel
theorem dw_804 : decode code 804 = .ok (.invokevirtual 103, 3) := by decide +kernel
theorem dw_807 : decode code 807 = .ok (.aload_n 2, 1) := by decide +kernel
theorem dw_808 : decode code 808 = .ok (.invokevirtual 106, 3) := by decide +kernel
theorem dw_811 : decode code 811 = .ok (.if_icmp .eq 514, 3) := by decide +kernel
theorem dw_814 : decode code 814 = .ok (.iconst 0, 1) := by decide +kernel
theorem dw_815 : decode code 815 = .ok (.ireturn, 1) := by decide +kernel
theorem dw_816 : decode code 816 = .ok (.aload_n 1, 1) := by decide +kernel
theorem dw_817 : decode code 817 = .ok (.aload_n 0, 1) := by decide +kernel
theorem dw_818 : decode code 818 = .ok (.iload_n 3, 1) := by decide +kernel
theorem dw_819 : decode code 819 = .ok (.iconst 1, 1) := by decide +kernel
theorem dw_820 : decode code 820 = .ok (.iadd, 1) := by decide +kernel
theorem dw_821 : decode code 821 = .ok (.iaload, 1) := by decide +kernel
theorem dw_822 : decode code 822 = .ok (.aload_n 0, 1) := by decide +kernel
theorem dw_823 : decode code 823 = .ok (.iload_n 3, 1) := by decide +kernel
theorem dw_824 : decode code 824 = .ok (.iconst 2, 1) := by decide +kernel
theorem dw_825 : decode code 825 = .ok (.iadd, 1) := by decide +kernel
theorem dw_826 : decode code 826 = .ok (.iaload, 1) := by decide +kernel
theorem dw_827 : decode code 827 = .ok (.aload_n 0, 1) := by decide +kernel
theorem dw_828 : decode code 828 = .ok (.iload_n 3, 1) := by decide +kernel
theorem dw_829 : decode code 829 = .ok (.iconst 3, 1) := by decide +kernel
theorem dw_830 : decode code 830 = .ok (.iadd, 1) := by decide +kernel
theorem dw_831 : decode code 831 = .ok (.iaload, 1) := by decide +kernel
theorem dw_832 : decode code 832 = .ok (.invokevirtual 107, 3) := by decide +kernel
theorem dw_835 : decode code 835 = .ok (.aload_n 2, 1) := by decide +kernel
theorem dw_836 : decode code 836 = .ok (.aload_n 0, 1) := by decide +kernel
theorem dw_837 : decode code 837 = .ok (.iload_n 3, 1) := by decide +kernel
theorem dw_838 : decode code 838 = .ok (.iconst 1, 1) := by decide +kernel
theorem dw_839 : decode code 839 = .ok (.iadd, 1) := by decide +kernel
theorem dw_840 : decode code 840 = .ok (.iaload, 1) := by decide +kernel
theorem dw_841 : decode code 841 = .ok (.aload_n 0, 1) := by decide +kernel
theorem dw_842 : decode code 842 = .ok (.iload_n 3, 1) := by decide +kernel
theorem dw_843 : decode code 843 = .ok (.iconst 2, 1) := by decide +kernel
theorem dw_844 : decode code 844 = .ok (.iadd, 1) := by decide +kernel
theorem dw_845 : decode code 845 = .ok (.iaload, 1) := by decide +kernel
theorem dw_846 : decode code 846 = .ok (.aload_n 0, 1) := by decide +kernel
theorem dw_847 : decode code 847 = .ok (.iload_n 3, 1) := by decide +kernel
theorem dw_848 : decode code 848 = .ok (.iconst 3, 1) := by decide +kernel
theorem dw_849 : decode code 849 = .ok (.iadd, 1) := by decide +kernel
theorem dw_850 : decode code 850 = .ok (.iaload, 1) := by decide +kernel
theorem dw_851 : decode code 851 = .ok (.invokevirtual 110, 3) := by decide +kernel
theorem dw_854 : decode code 854 = .ok (.if_icmp .eq 471, 3) := by decide +kernel
theorem dw_857 : decode code 857 = .ok (.iconst 0, 1) := by decide +kernel
theorem dw_858 : decode code 858 = .ok (.ireturn, 1) := by decide +kernel
theorem dw_859 : decode code 859 = .ok (.aload_n 1, 1) := by decide +kernel
theorem dw_860 : decode code 860 = .ok (.aload_n 0, 1) := by decide +kernel
theorem dw_861 : decode code 861 = .ok (.iload_n 3, 1) := by decide +kernel
theorem dw_862 : decode code 862 = .ok (.iconst 1, 1) := by decide +kernel
theorem dw_863 : decode code 863 = .ok (.iadd, 1) := by decide +kernel
theorem dw_864 : decode code 864 = .ok (.iaload, 1) := by decide +kernel
theorem dw_865 : decode code 865 = .ok (.aload_n 0, 1) := by decide +kernel
theorem dw_866 : decode code 866 = .ok (.iload_n 3, 1) := by decide +kernel
theorem dw_867 : decode code 867 = .ok (.iconst 2, 1) := by decide +kernel
theorem dw_868 : decode code 868 = .ok (.iadd, 1) := by decide +kernel
theorem dw_869 : decode code 869 = .ok (.iaload, 1) := by decide +kernel
theorem dw_870 : decode code 870 = .ok (.aload_n 0, 1) := by decide +kernel
theorem dw_871 : decode code 871 = .ok (.iload_n 3, 1) := by decide +kernel
theorem dw_872 : decode code 872 = .ok (.iconst 3, 1) := by decide +kernel
theorem dw_873 : decode code 873 = .ok (.iadd, 1) := by decide +kernel
theorem dw_874 : decode code 874 = .ok (.iaload, 1) := by decide +kernel
theorem dw_875 : decode code 875 = .ok (.invokevirtual 111, 3) := by decide +kernel
theorem dw_878 : decode code 878 = .ok (.aload_n 2, 1) := by decide +kernel
theorem dw_879 : decode code 879 = .ok (.aload_n 0, 1) := by decide +kernel
theorem dw_880 : decode code 880 = .ok (.iload_n 3, 1) := by decide +kernel
theorem dw_881 : decode code 881 = .ok (.iconst 1, 1) := by decide +kernel
theorem dw_882 : decode code 882 = .ok (.iadd, 1) := by decide +kernel
theorem dw_883 : decode code 883 = .ok (.iaload, 1) := by decide +kernel
theorem dw_884 : decode code 884 = .ok (.aload_n 0, 1) := by decide +kernel
theorem dw_885 : decode code 885 = .ok (.iload_n 3, 1) := by decide +kernel
theorem dw_886 : decode code 886 = .ok (.iconst 2, 1) := by decide +kernel
theorem dw_887 : decode code 887 = .ok (.iadd, 1) := by decide +kernel
theorem dw_888 : decode code 888 = .ok (.iaload, 1) := by decide +kernel
theorem dw_889 : decode code 889 = .ok (.aload_n 0, 1) := by decide +kernel
theorem dw_890 : decode code 890 = .ok (.iload_n 3, 1) := by decide +kernel
theorem dw_891 : decode code 891 = .ok (.iconst 3, 1) := by decide +kernel
theorem dw_892 : decode code 892 = .ok (.iadd, 1) := by decide +kernel
theorem dw_893 : decode code 893 = .ok (.iaload, 1) := by decide +kernel
theorem dw_894 : decode code 894 = .ok (.invokevirtual 114, 3) := by decide +kernel
theorem dw_897 : decode code 897 = .ok (.if_icmp .eq 428, 3) := by decide +kernel
theorem dw_900 : decode code 900 = .ok (.iconst 0, 1) := by decide +kernel
theorem dw_901 : decode code 901 = .ok (.ireturn, 1) := by decide +kernel
theorem dw_902 : decode code 902 = .ok (.aload_n 1, 1) := by decide +kernel
theorem dw_903 : decode code 903 = .ok (.invokevirtual 115, 3) := by decide +kernel
theorem dw_906 : decode code 906 = .ok (.aload_n 2, 1) := by decide +kernel
theorem dw_907 : decode code 907 = .ok (.invokevirtual 118, 3) := by decide +kernel
theorem dw_910 : decode code 910 = .ok (.if_icmp .eq 415, 3) := by decide +kernel
theorem dw_913 : decode code 913 = .ok (.iconst 0, 1) := by decide +kernel
theorem dw_914 : decode code 914 = .ok (.ireturn, 1) := by decide +kernel
theorem dw_915 : decode code 915 = .ok (.aload_n 1, 1) := by decide +kernel
theorem dw_916 : decode code 916 = .ok (.aload_n 0, 1) := by decide +kernel
theorem dw_917 : decode code 917 = .ok (.iload_n 3, 1) := by decide +kernel
theorem dw_918 : decode code 918 = .ok (.iconst 1, 1) := by decide +kernel
theorem dw_919 : decode code 919 = .ok (.iadd, 1) := by decide +kernel
theorem dw_920 : decode code 920 = .ok (.iaload, 1) := by decide +kernel
theorem dw_921 : decode code 921 = .ok (.invokevirtual 119, 3) := by decide +kernel
theorem dw_924 : decode code 924 = .ok (.aload_n 2, 1) := by decide +kernel
theorem dw_925 : decode code 925 = .ok (.aload_n 0, 1) := by decide +kernel
theorem dw_926 : decode code 926 = .ok (.iload_n 3, 1) := by decide +kernel
theorem dw_927 : decode code 927 = .ok (.iconst 1, 1) := by decide +kernel
theorem dw_928 : decode code 928 = .ok (.iadd, 1) := by decide +kernel
theorem dw_929 : decode code 929 = .ok (.iaload, 1) := by decide +kernel
theorem dw_930 : decode code 930 = .ok (.invokevirtual 122, 3) := by decide +kernel
theorem dw_933 : decode code 933 = .ok (.if_icmp .eq 392, 3) := by decide +kernel
theorem dw_936 : decode code 936 = .ok (.iconst 0, 1) := by decide +kernel
theorem dw_937 : decode code 937 = .ok (.ireturn, 1) := by decide +kernel
theorem dw_938 : decode code 938 = .ok (.aload_n 1, 1) := by decide +kernel
theorem dw_939 : decode code 939 = .ok (.aload_n 0, 1) := by decide +kernel
theorem dw_940 : decode code 940 = .ok (.iload_n 3, 1) := by decide +kernel
theorem dw_941 : decode code 941 = .ok (.iconst 1, 1) := by decide +kernel
theorem dw_942 : decode code 942 = .ok (.iadd, 1) := by decide +kernel
theorem dw_943 : decode code 943 = .ok (.iaload, 1) := by decide +kernel
theorem dw_944 : decode code 944 = .ok (.invokevirtual 123, 3) := by decide +kernel
theorem dw_947 : decode code 947 = .ok (.aload_n 2, 1) := by decide +kernel
theorem dw_948 : decode code 948 = .ok (.aload_n 0, 1) := by decide +kernel
theorem dw_949 : decode code 949 = .ok (.iload_n 3, 1) := by decide +kernel
theorem dw_950 : decode code 950 = .ok (.iconst 1, 1) := by decide +kernel
theorem dw_951 : decode code 951 = .ok (.iadd, 1) := by decide +kernel
theorem dw_952 : decode code 952 = .ok (.iaload, 1) := by decide +kernel
theorem dw_953 : decode code 953 = .ok (.invokevirtual 126, 3) := by decide +kernel
theorem dw_956 : decode code 956 = .ok (.if_icmp .eq 369, 3) := by decide +kernel
theorem dw_959 : decode code 959 = .ok (.iconst 0, 1) := by decide +kernel
theorem dw_960 : decode code 960 = .ok (.ireturn, 1) := by decide +kernel
theorem dw_961 : decode code 961 = .ok (.aload_n 1, 1) := by decide +kernel
theorem dw_962 : decode code 962 = .ok (.invokevirtual 127, 3) := by decide +kernel
theorem dw_965 : decode code 965 = .ok (.aload_n 2, 1) := by decide +kernel
theorem dw_966 : decode code 966 = .ok (.invokevirtual 130, 3) := by decide +kernel
theorem dw_969 : decode code 969 = .ok (.if_icmp .eq 356, 3) := by decide +kernel
theorem dw_972 : decode code 972 = .ok (.iconst 0, 1) := by decide +kernel
theorem dw_973 : decode code 973 = .ok (.ireturn, 1) := by decide +kernel
theorem dw_974 : decode code 974 = .ok (.aload_n 1, 1) := by decide +kernel
theorem dw_975 : decode code 975 = .ok (.invokevirtual 131, 3) := by decide +kernel
theorem dw_978 : decode code 978 = .ok (.aload_n 2, 1) := by decide +kernel
theorem dw_979 : decode code 979 = .ok (.invokevirtual 134, 3) := by decide +kernel
theorem dw_982 : decode code 982 = .ok (.if_icmp .eq 343, 3) := by decide +kernel
theorem dw_985 : decode code 985 = .ok (.iconst 0, 1) := by decide +kernel
theorem dw_986 : decode code 986 = .ok (.ireturn, 1) := by decide +kernel
theorem dw_987 : decode code 987 = .ok (.aload_n 1, 1) := by decide +kernel
theorem dw_988 : decode code 988 = .ok (.aload_n 0, 1) := by decide +kernel
theorem dw_989 : decode code 989 = .ok (.iload_n 3, 1) := by decide +kernel
theorem dw_990 : decode code 990 = .ok (.iconst 1, 1) := by decide +kernel
theorem dw_991 : decode code 991 = .ok (.iadd, 1) := by decide +kernel
theorem dw_992 : decode code 992 = .ok (.iaload, 1) := by decide +kernel
theorem dw_993 : decode code 993 = .ok (.aload_n 0, 1) := by decide +kernel
theorem dw_994 : decode code 994 = .ok (.iload_n 3, 1) := by decide +kernel
theorem dw_995 : decode code 995 = .ok (.iconst 2, 1) := by decide +kernel
theorem dw_996 : decode code 996 = .ok (.iadd, 1) := by decide +kernel
theorem dw_997 : decode code 997 = .ok (.iaload, 1) := by decide +kernel
theorem dw_998 : decode code 998 = .ok (.invokevirtual 135, 3) := by decide +kernel
theorem dw_1001 : decode code 1001 = .ok (.aload_n 2, 1) := by decide +kernel
theorem dw_1002 : decode code 1002 = .ok (.aload_n 0, 1) := by decide +kernel
theorem dw_1003 : decode code 1003 = .ok (.iload_n 3, 1) := by decide +kernel
theorem dw_1004 : decode code 1004 = .ok (.iconst 1, 1) := by decide +kernel
theorem dw_1005 : decode code 1005 = .ok (.iadd, 1) := by decide +kernel
theorem dw_1006 : decode code 1006 = .ok (.iaload, 1) := by decide +kernel
theorem dw_1007 : decode code 1007 = .ok (.aload_n 0, 1) := by decide +kernel
theorem dw_1008 : decode code 1008 = .ok (.iload_n 3, 1) := by decide +kernel
theorem dw_1009 : decode code 1009 = .ok (.iconst 2, 1) := by decide +kernel
theorem dw_1010 : decode code 1010 = .ok (.iadd, 1) := by decide +kernel
theorem dw_1011 : decode code 1011 = .ok (.iaload, 1) := by decide +kernel
theorem dw_1012 : decode code 1012 = .ok (.invokevirtual 138, 3) := by decide +kernel
theorem dw_1015 : decode code 1015 = .ok (.if_icmp .eq 310, 3) := by decide +kernel
theorem dw_1018 : decode code 1018 = .ok (.iconst 0, 1) := by decide +kernel
theorem dw_1019 : decode code 1019 = .ok (.ireturn, 1) := by decide +kernel
theorem dw_1020 : decode code 1020 = .ok (.aload_n 1, 1) := by decide +kernel
theorem dw_1021 : decode code 1021 = .ok (.aload_n 0, 1) := by decide +kernel
theorem dw_1022 : decode code 1022 = .ok (.iload_n 3, 1) := by decide +kernel
theorem dw_1023 : decode code 1023 = .ok (.iconst 1, 1) := by decide +kernel
theorem dw_1024 : decode code 1024 = .ok (.iadd, 1) := by decide +kernel
theorem dw_1025 : decode code 1025 = .ok (.iaload, 1) := by decide +kernel
theorem dw_1026 : decode code 1026 = .ok (.aload_n 0, 1) := by decide +kernel
theorem dw_1027 : decode code 1027 = .ok (.iload_n 3, 1) := by decide +kernel
theorem dw_1028 : decode code 1028 = .ok (.iconst 2, 1) := by decide +kernel
theorem dw_1029 : decode code 1029 = .ok (.iadd, 1) := by decide +kernel
theorem dw_1030 : decode code 1030 = .ok (.iaload, 1) := by decide +kernel
theorem dw_1031 : decode code 1031 = .ok (.aload_n 0, 1) := by decide +kernel
theorem dw_1032 : decode code 1032 = .ok (.iload_n 3, 1) := by decide +kernel
theorem dw_1033 : decode code 1033 = .ok (.iconst 3, 1) := by decide +kernel
theorem dw_1034 : decode code 1034 = .ok (.iadd, 1) := by decide +kernel
theorem dw_1035 : decode code 1035 = .ok (.iaload, 1) := by decide +kernel
theorem dw_1036 : decode code 1036 = .ok (.ifCond .eq 7, 3) := by decide +kernel
theorem dw_1039 : decode code 1039 = .ok (.iconst 1, 1) := by decide +kernel
theorem dw_1040 : decode code 1040 = .ok (.goto 4, 3) := by decide +kernel
theorem dw_1043 : decode code 1043 = .ok (.iconst 0, 1) := by decide +kernel
theorem dw_1044 : decode code 1044 = .ok (.invokevirtual 139, 3) := by decide +kernel
theorem dw_1047 : decode code 1047 = .ok (.aload_n 2, 1) := by decide +kernel
theorem dw_1048 : decode code 1048 = .ok (.aload_n 0, 1) := by decide +kernel
theorem dw_1049 : decode code 1049 = .ok (.iload_n 3, 1) := by decide +kernel
theorem dw_1050 : decode code 1050 = .ok (.iconst 1, 1) := by decide +kernel
theorem dw_1051 : decode code 1051 = .ok (.iadd, 1) := by decide +kernel
theorem dw_1052 : decode code 1052 = .ok (.iaload, 1) := by decide +kernel
theorem dw_1053 : decode code 1053 = .ok (.aload_n 0, 1) := by decide +kernel
theorem dw_1054 : decode code 1054 = .ok (.iload_n 3, 1) := by decide +kernel
theorem dw_1055 : decode code 1055 = .ok (.iconst 2, 1) := by decide +kernel
theorem dw_1056 : decode code 1056 = .ok (.iadd, 1) := by decide +kernel
theorem dw_1057 : decode code 1057 = .ok (.iaload, 1) := by decide +kernel
theorem dw_1058 : decode code 1058 = .ok (.aload_n 0, 1) := by decide +kernel
theorem dw_1059 : decode code 1059 = .ok (.iload_n 3, 1) := by decide +kernel
theorem dw_1060 : decode code 1060 = .ok (.iconst 3, 1) := by decide +kernel
theorem dw_1061 : decode code 1061 = .ok (.iadd, 1) := by decide +kernel
theorem dw_1062 : decode code 1062 = .ok (.iaload, 1) := by decide +kernel
theorem dw_1063 : decode code 1063 = .ok (.ifCond .eq 7, 3) := by decide +kernel
theorem dw_1066 : decode code 1066 = .ok (.iconst 1, 1) := by decide +kernel
theorem dw_1067 : decode code 1067 = .ok (.goto 4, 3) := by decide +kernel
theorem dw_1070 : decode code 1070 = .ok (.iconst 0, 1) := by decide +kernel
theorem dw_1071 : decode code 1071 = .ok (.invokevirtual 142, 3) := by decide +kernel
theorem dw_1074 : decode code 1074 = .ok (.if_icmp .eq 251, 3) := by decide +kernel
theorem dw_1077 : decode code 1077 = .ok (.iconst 0, 1) := by decide +kernel
theorem dw_1078 : decode code 1078 = .ok (.ireturn, 1) := by decide +kernel
theorem dw_1079 : decode code 1079 = .ok (.aload_n 1, 1) := by decide +kernel
theorem dw_1080 : decode code 1080 = .ok (.invokevirtual 143, 3) := by decide +kernel
theorem dw_1083 : decode code 1083 = .ok (.aload_n 2, 1) := by decide +kernel
theorem dw_1084 : decode code 1084 = .ok (.invokevirtual 146, 3) := by decide +kernel
theorem dw_1087 : decode code 1087 = .ok (.if_icmp .eq 238, 3) := by decide +kernel
theorem dw_1090 : decode code 1090 = .ok (.iconst 0, 1) := by decide +kernel
theorem dw_1091 : decode code 1091 = .ok (.ireturn, 1) := by decide +kernel
theorem dw_1092 : decode code 1092 = .ok (.aload_n 1, 1) := by decide +kernel
theorem dw_1093 : decode code 1093 = .ok (.invokevirtual 147, 3) := by decide +kernel
theorem dw_1096 : decode code 1096 = .ok (.aload_n 2, 1) := by decide +kernel
theorem dw_1097 : decode code 1097 = .ok (.invokevirtual 150, 3) := by decide +kernel
theorem dw_1100 : decode code 1100 = .ok (.if_icmp .eq 225, 3) := by decide +kernel
theorem dw_1103 : decode code 1103 = .ok (.iconst 0, 1) := by decide +kernel
theorem dw_1104 : decode code 1104 = .ok (.ireturn, 1) := by decide +kernel
theorem dw_1105 : decode code 1105 = .ok (.aload_n 1, 1) := by decide +kernel
theorem dw_1106 : decode code 1106 = .ok (.aload_n 0, 1) := by decide +kernel
theorem dw_1107 : decode code 1107 = .ok (.iload_n 3, 1) := by decide +kernel
theorem dw_1108 : decode code 1108 = .ok (.iconst 1, 1) := by decide +kernel
theorem dw_1109 : decode code 1109 = .ok (.iadd, 1) := by decide +kernel
theorem dw_1110 : decode code 1110 = .ok (.iaload, 1) := by decide +kernel
theorem dw_1111 : decode code 1111 = .ok (.invokevirtual 151, 3) := by decide +kernel
theorem dw_1114 : decode code 1114 = .ok (.aload_n 2, 1) := by decide +kernel
theorem dw_1115 : decode code 1115 = .ok (.aload_n 0, 1) := by decide +kernel
theorem dw_1116 : decode code 1116 = .ok (.iload_n 3, 1) := by decide +kernel
theorem dw_1117 : decode code 1117 = .ok (.iconst 1, 1) := by decide +kernel
theorem dw_1118 : decode code 1118 = .ok (.iadd, 1) := by decide +kernel
theorem dw_1119 : decode code 1119 = .ok (.iaload, 1) := by decide +kernel
theorem dw_1120 : decode code 1120 = .ok (.invokevirtual 154, 3) := by decide +kernel
theorem dw_1123 : decode code 1123 = .ok (.if_icmp .eq 202, 3) := by decide +kernel
theorem dw_1126 : decode code 1126 = .ok (.iconst 0, 1) := by decide +kernel
theorem dw_1127 : decode code 1127 = .ok (.ireturn, 1) := by decide +kernel
theorem dw_1128 : decode code 1128 = .ok (.aload_n 1, 1) := by decide +kernel
theorem dw_1129 : decode code 1129 = .ok (.invokevirtual 155, 3) := by decide +kernel
theorem dw_1132 : decode code 1132 = .ok (.aload_n 2, 1) := by decide +kernel
theorem dw_1133 : decode code 1133 = .ok (.invokevirtual 158, 3) := by decide +kernel
theorem dw_1136 : decode code 1136 = .ok (.if_icmp .eq 189, 3) := by decide +kernel
theorem dw_1139 : decode code 1139 = .ok (.iconst 0, 1) := by decide +kernel
theorem dw_1140 : decode code 1140 = .ok (.ireturn, 1) := by decide +kernel
theorem dw_1141 : decode code 1141 = .ok (.aload_n 1, 1) := by decide +kernel
theorem dw_1142 : decode code 1142 = .ok (.aload_n 0, 1) := by decide +kernel
theorem dw_1143 : decode code 1143 = .ok (.iload_n 3, 1) := by decide +kernel
theorem dw_1144 : decode code 1144 = .ok (.iconst 1, 1) := by decide +kernel
theorem dw_1145 : decode code 1145 = .ok (.iadd, 1) := by decide +kernel
theorem dw_1146 : decode code 1146 = .ok (.iaload, 1) := by decide +kernel
theorem dw_1147 : decode code 1147 = .ok (.aload_n 0, 1) := by decide +kernel
theorem dw_1148 : decode code 1148 = .ok (.iload_n 3, 1) := by decide +kernel
theorem dw_1149 : decode code 1149 = .ok (.iconst 2, 1) := by decide +kernel
theorem dw_1150 : decode code 1150 = .ok (.iadd, 1) := by decide +kernel
theorem dw_1151 : decode code 1151 = .ok (.iaload, 1) := by decide +kernel
theorem dw_1152 : decode code 1152 = .ok (.ifCond .eq 7, 3) := by decide +kernel
theorem dw_1155 : decode code 1155 = .ok (.iconst 1, 1) := by decide +kernel
theorem dw_1156 : decode code 1156 = .ok (.goto 4, 3) := by decide +kernel
theorem dw_1159 : decode code 1159 = .ok (.iconst 0, 1) := by decide +kernel
theorem dw_1160 : decode code 1160 = .ok (.invokevirtual 159, 3) := by decide +kernel
theorem dw_1163 : decode code 1163 = .ok (.aload_n 2, 1) := by decide +kernel
theorem dw_1164 : decode code 1164 = .ok (.aload_n 0, 1) := by decide +kernel
theorem dw_1165 : decode code 1165 = .ok (.iload_n 3, 1) := by decide +kernel
theorem dw_1166 : decode code 1166 = .ok (.iconst 1, 1) := by decide +kernel
theorem dw_1167 : decode code 1167 = .ok (.iadd, 1) := by decide +kernel
theorem dw_1168 : decode code 1168 = .ok (.iaload, 1) := by decide +kernel
theorem dw_1169 : decode code 1169 = .ok (.aload_n 0, 1) := by decide +kernel
theorem dw_1170 : decode code 1170 = .ok (.iload_n 3, 1) := by decide +kernel
theorem dw_1171 : decode code 1171 = .ok (.iconst 2, 1) := by decide +kernel
theorem dw_1172 : decode code 1172 = .ok (.iadd, 1) := by decide +kernel
theorem dw_1173 : decode code 1173 = .ok (.iaload, 1) := by decide +kernel
theorem dw_1174 : decode code 1174 = .ok (.ifCond .eq 7, 3) := by decide +kernel
theorem dw_1177 : decode code 1177 = .ok (.iconst 1, 1) := by decide +kernel
theorem dw_1178 : decode code 1178 = .ok (.goto 4, 3) := by decide +kernel
theorem dw_1181 : decode code 1181 = .ok (.iconst 0, 1) := by decide +kernel
theorem dw_1182 : decode code 1182 = .ok (.invokevirtual 163, 3) := by decide +kernel
theorem dw_1185 : decode code 1185 = .ok (.if_icmp .eq 140, 3) := by decide +kernel
theorem dw_1188 : decode code 1188 = .ok (.iconst 0, 1) := by decide +kernel
theorem dw_1189 : decode code 1189 = .ok (.ireturn, 1) := by decide +kernel
theorem dw_1190 : decode code 1190 = .ok (.aload_n 1, 1) := by decide +kernel
theorem dw_1191 : decode code 1191 = .ok (.aload_n 0, 1) := by decide +kernel
theorem dw_1192 : decode code 1192 = .ok (.iload_n 3, 1) := by decide +kernel
theorem dw_1193 : decode code 1193 = .ok (.iconst 1, 1) := by decide +kernel
theorem dw_1194 : decode code 1194 = .ok (.iadd, 1) := by decide +kernel
theorem dw_1195 : decode code 1195 = .ok (.iaload, 1) := by decide +kernel
theorem dw_1196 : decode code 1196 = .ok (.aload_n 0, 1) := by decide +kernel
theorem dw_1197 : decode code 1197 = .ok (.iload_n 3, 1) := by decide +kernel
theorem dw_1198 : decode code 1198 = .ok (.iconst 2, 1) := by decide +kernel
theorem dw_1199 : decode code 1199 = .ok (.iadd, 1) := by decide +kernel
theorem dw_1200 : decode code 1200 = .ok (.iaload, 1) := by decide +kernel
theorem dw_1201 : decode code 1201 = .ok (.invokevirtual 164, 3) := by decide +kernel
theorem dw_1204 : decode code 1204 = .ok (.aload_n 2, 1) := by decide +kernel
theorem dw_1205 : decode code 1205 = .ok (.aload_n 0, 1) := by decide +kernel
theorem dw_1206 : decode code 1206 = .ok (.iload_n 3, 1) := by decide +kernel
theorem dw_1207 : decode code 1207 = .ok (.iconst 1, 1) := by decide +kernel
theorem dw_1208 : decode code 1208 = .ok (.iadd, 1) := by decide +kernel
theorem dw_1209 : decode code 1209 = .ok (.iaload, 1) := by decide +kernel
theorem dw_1210 : decode code 1210 = .ok (.aload_n 0, 1) := by decide +kernel
theorem dw_1211 : decode code 1211 = .ok (.iload_n 3, 1) := by decide +kernel
theorem dw_1212 : decode code 1212 = .ok (.iconst 2, 1) := by decide +kernel
theorem dw_1213 : decode code 1213 = .ok (.iadd, 1) := by decide +kernel
theorem dw_1214 : decode code 1214 = .ok (.iaload, 1) := by decide +kernel
theorem dw_1215 : decode code 1215 = .ok (.invokevirtual 167, 3) := by decide +kernel
theorem dw_1218 : decode code 1218 = .ok (.if_icmp .eq 107, 3) := by decide +kernel
theorem dw_1221 : decode code 1221 = .ok (.iconst 0, 1) := by decide +kernel
theorem dw_1222 : decode code 1222 = .ok (.ireturn, 1) := by decide +kernel
theorem dw_1223 : decode code 1223 = .ok (.aload_n 1, 1) := by decide +kernel
theorem dw_1224 : decode code 1224 = .ok (.invokevirtual 168, 3) := by decide +kernel
theorem dw_1227 : decode code 1227 = .ok (.aload_n 2, 1) := by decide +kernel
theorem dw_1228 : decode code 1228 = .ok (.invokevirtual 171, 3) := by decide +kernel
theorem dw_1231 : decode code 1231 = .ok (.if_icmp .eq 94, 3) := by decide +kernel
theorem dw_1234 : decode code 1234 = .ok (.iconst 0, 1) := by decide +kernel
theorem dw_1235 : decode code 1235 = .ok (.ireturn, 1) := by decide +kernel
theorem dw_1236 : decode code 1236 = .ok (.aload_n 1, 1) := by decide +kernel
theorem dw_1237 : decode code 1237 = .ok (.aload_n 0, 1) := by decide +kernel
theorem dw_1238 : decode code 1238 = .ok (.iload_n 3, 1) := by decide +kernel
theorem dw_1239 : decode code 1239 = .ok (.iconst 1, 1) := by decide +kernel
theorem dw_1240 : decode code 1240 = .ok (.iadd, 1) := by decide +kernel
theorem dw_1241 : decode code 1241 = .ok (.iaload, 1) := by decide +kernel
theorem dw_1242 : decode code 1242 = .ok (.invokevirtual 172, 3) := by decide +kernel
theorem dw_1245 : decode code 1245 = .ok (.aload_n 2, 1) := by decide +kernel
theorem dw_1246 : decode code 1246 = .ok (.aload_n 0, 1) := by decide +kernel
theorem dw_1247 : decode code 1247 = .ok (.iload_n 3, 1) := by decide +kernel
theorem dw_1248 : decode code 1248 = .ok (.iconst 1, 1) := by decide +kernel
theorem dw_1249 : decode code 1249 = .ok (.iadd, 1) := by decide +kernel
theorem dw_1250 : decode code 1250 = .ok (.iaload, 1) := by decide +kernel
theorem dw_1251 : decode code 1251 = .ok (.invokevirtual 175, 3) := by decide +kernel
theorem dw_1254 : decode code 1254 = .ok (.if_icmp .eq 71, 3) := by decide +kernel
theorem dw_1257 : decode code 1257 = .ok (.iconst 0, 1) := by decide +kernel
theorem dw_1258 : decode code 1258 = .ok (.ireturn, 1) := by decide +kernel
theorem dw_1259 : decode code 1259 = .ok (.aload_n 1, 1) := by decide +kernel
theorem dw_1260 : decode code 1260 = .ok (.aload_n 0, 1) := by decide +kernel
theorem dw_1261 : decode code 1261 = .ok (.iload_n 3, 1) := by decide +kernel
theorem dw_1262 : decode code 1262 = .ok (.iconst 1, 1) := by decide +kernel
theorem dw_1263 : decode code 1263 = .ok (.iadd, 1) := by decide +kernel
theorem dw_1264 : decode code 1264 = .ok (.iaload, 1) := by decide +kernel
theorem dw_1265 : decode code 1265 = .ok (.aload_n 0, 1) := by decide +kernel
theorem dw_1266 : decode code 1266 = .ok (.iload_n 3, 1) := by decide +kernel
theorem dw_1267 : decode code 1267 = .ok (.iconst 2, 1) := by decide +kernel
theorem dw_1268 : decode code 1268 = .ok (.iadd, 1) := by decide +kernel
theorem dw_1269 : decode code 1269 = .ok (.iaload, 1) := by decide +kernel
theorem dw_1270 : decode code 1270 = .ok (.aload_n 0, 1) := by decide +kernel
theorem dw_1271 : decode code 1271 = .ok (.iload_n 3, 1) := by decide +kernel
theorem dw_1272 : decode code 1272 = .ok (.iconst 3, 1) := by decide +kernel
theorem dw_1273 : decode code 1273 = .ok (.iadd, 1) := by decide +kernel
theorem dw_1274 : decode code 1274 = .ok (.iaload, 1) := by decide +kernel
theorem dw_1275 : decode code 1275 = .ok (.invokevirtual 176, 3) := by decide +kernel
theorem dw_1278 : decode code 1278 = .ok (.aload_n 2, 1) := by decide +kernel
theorem dw_1279 : decode code 1279 = .ok (.aload_n 0, 1) := by decide +kernel
theorem dw_1280 : decode code 1280 = .ok (.iload_n 3, 1) := by decide +kernel
theorem dw_1281 : decode code 1281 = .ok (.iconst 1, 1) := by decide +kernel
theorem dw_1282 : decode code 1282 = .ok (.iadd, 1) := by decide +kernel
theorem dw_1283 : decode code 1283 = .ok (.iaload, 1) := by decide +kernel
theorem dw_1284 : decode code 1284 = .ok (.aload_n 0, 1) := by decide +kernel
theorem dw_1285 : decode code 1285 = .ok (.iload_n 3, 1) := by decide +kernel
theorem dw_1286 : decode code 1286 = .ok (.iconst 2, 1) := by decide +kernel
theorem dw_1287 : decode code 1287 = .ok (.iadd, 1) := by decide +kernel
theorem dw_1288 : decode code 1288 = .ok (.iaload, 1) := by decide +kernel
theorem dw_1289 : decode code 1289 = .ok (.aload_n 0, 1) := by decide +kernel
theorem dw_1290 : decode code 1290 = .ok (.iload_n 3, 1) := by decide +kernel
theorem dw_1291 : decode code 1291 = .ok (.iconst 3, 1) := by decide +kernel
theorem dw_1292 : decode code 1292 = .ok (.iadd, 1) := by decide +kernel
theorem dw_1293 : decode code 1293 = .ok (.iaload, 1) := by decide +kernel
theorem dw_1294 : decode code 1294 = .ok (.invokevirtual 179, 3) := by decide +kernel
theorem dw_1297 : decode code 1297 = .ok (.if_icmp .eq 28, 3) := by decide +kernel
theorem dw_1300 : decode code 1300 = .ok (.iconst 0, 1) := by decide +kernel
theorem dw_1301 : decode code 1301 = .ok (.ireturn, 1) := by decide +kernel
theorem dw_1302 : decode code 1302 = .ok (.aload_n 1, 1) := by decide +kernel
theorem dw_1303 : decode code 1303 = .ok (.aload_n 0, 1) := by decide +kernel
theorem dw_1304 : decode code 1304 = .ok (.iload_n 3, 1) := by decide +kernel
theorem dw_1305 : decode code 1305 = .ok (.iconst 1, 1) := by decide +kernel
theorem dw_1306 : decode code 1306 = .ok (.iadd, 1) := by decide +kernel
theorem dw_1307 : decode code 1307 = .ok (.iaload, 1) := by decide +kernel
theorem dw_1308 : decode code 1308 = .ok (.invokevirtual 180, 3) := by decide +kernel
theorem dw_1311 : decode code 1311 = .ok (.aload_n 2, 1) := by decide +kernel
theorem dw_1312 : decode code 1312 = .ok (.aload_n 0, 1) := by decide +kernel
theorem dw_1313 : decode code 1313 = .ok (.iload_n 3, 1) := by decide +kernel
theorem dw_1314 : decode code 1314 = .ok (.iconst 1, 1) := by decide +kernel
theorem dw_1315 : decode code 1315 = .ok (.iadd, 1) := by decide +kernel
theorem dw_1316 : decode code 1316 = .ok (.iaload, 1) := by decide +kernel
theorem dw_1317 : decode code 1317 = .ok (.invokevirtual 183, 3) := by decide +kernel
theorem dw_1320 : decode code 1320 = .ok (.if_icmp .eq 5, 3) := by decide +kernel
theorem dw_1323 : decode code 1323 = .ok (.iconst 0, 1) := by decide +kernel
theorem dw_1324 : decode code 1324 = .ok (.ireturn, 1) := by decide +kernel
theorem dw_1325 : decode code 1325 = .ok (.iinc 3 4, 3) := by decide +kernel
theorem dw_1328 : decode code 1328 = .ok (.goto (-1310), 3) := by decide +kernel
theorem dw_1331 : decode code 1331 = .ok (.iconst 1, 1) := by decide +kernel
theorem dw_1332 : decode code 1332 = .ok (.ireturn, 1) := by decide +kernel
