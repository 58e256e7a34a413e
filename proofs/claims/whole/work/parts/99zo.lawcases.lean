/-! THE LAW'S CASES -/
theorem dL_law_0 : decode code 0 = .ok (.new 8, 3) := by decide +kernel
theorem dL_law_3 : decode code 3 = .ok (.dup, 1) := by decide +kernel
theorem dL_law_4 : decode code 4 = .ok (.invokespecial 22, 3) := by decide +kernel
theorem dL_law_7 : decode code 7 = .ok (.astore_n 1, 1) := by decide +kernel
theorem dL_law_8 : decode code 8 = .ok (.new 23, 3) := by decide +kernel
theorem dL_law_11 : decode code 11 = .ok (.dup, 1) := by decide +kernel
theorem dL_law_12 : decode code 12 = .ok (.invokespecial 25, 3) := by decide +kernel
theorem dL_law_15 : decode code 15 = .ok (.astore_n 2, 1) := by decide +kernel
theorem dL_law_16 : decode code 16 = .ok (.iconst 1, 1) := by decide +kernel
theorem dL_law_17 : decode code 17 = .ok (.newarray .long, 2) := by decide +kernel
theorem dL_law_19 : decode code 19 = .ok (.astore_n 3, 1) := by decide +kernel
theorem dL_law_20 : decode code 20 = .ok (.iconst 0, 1) := by decide +kernel
theorem dL_law_21 : decode code 21 = .ok (.istore 4, 2) := by decide +kernel
theorem dL_law_23 : decode code 23 = .ok (.iload 4, 2) := by decide +kernel
theorem dL_law_25 : decode code 25 = .ok (.aload_n 0, 1) := by decide +kernel
theorem dL_law_26 : decode code 26 = .ok (.arraylength, 1) := by decide +kernel
theorem dL_law_27 : decode code 27 = .ok (.bipush 6, 2) := by decide +kernel
theorem dL_law_29 : decode code 29 = .ok (.isub, 1) := by decide +kernel
theorem dL_law_30 : decode code 30 = .ok (.if_icmp .gt 1258, 3) := by decide +kernel
theorem dL_law_33 : decode code 33 = .ok (.aload_n 0, 1) := by decide +kernel
theorem dL_law_34 : decode code 34 = .ok (.iload 4, 2) := by decide +kernel
theorem dL_law_36 : decode code 36 = .ok (.iaload, 1) := by decide +kernel
theorem dL_law_37 : decode code 37 = .ok (.bipush 63, 2) := by decide +kernel
theorem dL_law_39 : decode code 39 = .ok (.iand, 1) := by decide +kernel
theorem dL_law_40 : decode code 40 = .ok (.tableswitch 1242 0 36 #[164, 237, 262, 275, 288, 301, 314, 339, 364, 389, 426, 439, 452, 465, 478, 503, 528, 565, 590, 658, 695, 720, 757, 837, 874, 887, 912, 992, 1017, 1042, 1079, 1104, 1129, 1142, 1167, 1192, 1217], 164) := by decide +kernel
theorem dL_law_204 : decode code 204 = .ok (.aload_n 1, 1) := by decide +kernel
theorem dL_law_205 : decode code 205 = .ok (.aload_n 0, 1) := by decide +kernel
theorem dL_law_206 : decode code 206 = .ok (.iload 4, 2) := by decide +kernel
theorem dL_law_208 : decode code 208 = .ok (.iconst 1, 1) := by decide +kernel
theorem dL_law_209 : decode code 209 = .ok (.iadd, 1) := by decide +kernel
theorem dL_law_210 : decode code 210 = .ok (.iaload, 1) := by decide +kernel
theorem dL_law_211 : decode code 211 = .ok (.aload_n 0, 1) := by decide +kernel
theorem dL_law_212 : decode code 212 = .ok (.iload 4, 2) := by decide +kernel
theorem dL_law_214 : decode code 214 = .ok (.iconst 2, 1) := by decide +kernel
theorem dL_law_215 : decode code 215 = .ok (.iadd, 1) := by decide +kernel
theorem dL_law_216 : decode code 216 = .ok (.iaload, 1) := by decide +kernel
theorem dL_law_217 : decode code 217 = .ok (.aload_n 0, 1) := by decide +kernel
theorem dL_law_218 : decode code 218 = .ok (.iload 4, 2) := by decide +kernel
theorem dL_law_220 : decode code 220 = .ok (.iconst 3, 1) := by decide +kernel
theorem dL_law_221 : decode code 221 = .ok (.iadd, 1) := by decide +kernel
theorem dL_law_222 : decode code 222 = .ok (.iaload, 1) := by decide +kernel
theorem dL_law_223 : decode code 223 = .ok (.aload_n 0, 1) := by decide +kernel
theorem dL_law_224 : decode code 224 = .ok (.iload 4, 2) := by decide +kernel
theorem dL_law_226 : decode code 226 = .ok (.iconst 4, 1) := by decide +kernel
theorem dL_law_227 : decode code 227 = .ok (.iadd, 1) := by decide +kernel
theorem dL_law_228 : decode code 228 = .ok (.iaload, 1) := by decide +kernel
theorem dL_law_229 : decode code 229 = .ok (.aload_n 0, 1) := by decide +kernel
theorem dL_law_230 : decode code 230 = .ok (.iload 4, 2) := by decide +kernel
theorem dL_law_232 : decode code 232 = .ok (.iconst 5, 1) := by decide +kernel
theorem dL_law_233 : decode code 233 = .ok (.iadd, 1) := by decide +kernel
theorem dL_law_234 : decode code 234 = .ok (.iaload, 1) := by decide +kernel
theorem dL_law_235 : decode code 235 = .ok (.invokevirtual 26, 3) := by decide +kernel
theorem dL_law_238 : decode code 238 = .ok (.aload_n 2, 1) := by decide +kernel
theorem dL_law_239 : decode code 239 = .ok (.aload_n 0, 1) := by decide +kernel
theorem dL_law_240 : decode code 240 = .ok (.iload 4, 2) := by decide +kernel
theorem dL_law_242 : decode code 242 = .ok (.iconst 1, 1) := by decide +kernel
theorem dL_law_243 : decode code 243 = .ok (.iadd, 1) := by decide +kernel
theorem dL_law_244 : decode code 244 = .ok (.iaload, 1) := by decide +kernel
theorem dL_law_245 : decode code 245 = .ok (.aload_n 0, 1) := by decide +kernel
theorem dL_law_246 : decode code 246 = .ok (.iload 4, 2) := by decide +kernel
theorem dL_law_248 : decode code 248 = .ok (.iconst 2, 1) := by decide +kernel
theorem dL_law_249 : decode code 249 = .ok (.iadd, 1) := by decide +kernel
theorem dL_law_250 : decode code 250 = .ok (.iaload, 1) := by decide +kernel
theorem dL_law_251 : decode code 251 = .ok (.aload_n 0, 1) := by decide +kernel
theorem dL_law_252 : decode code 252 = .ok (.iload 4, 2) := by decide +kernel
theorem dL_law_254 : decode code 254 = .ok (.iconst 3, 1) := by decide +kernel
theorem dL_law_255 : decode code 255 = .ok (.iadd, 1) := by decide +kernel
theorem dL_law_256 : decode code 256 = .ok (.iaload, 1) := by decide +kernel
theorem dL_law_257 : decode code 257 = .ok (.aload_n 0, 1) := by decide +kernel
theorem dL_law_258 : decode code 258 = .ok (.iload 4, 2) := by decide +kernel
theorem dL_law_260 : decode code 260 = .ok (.iconst 4, 1) := by decide +kernel
theorem dL_law_261 : decode code 261 = .ok (.iadd, 1) := by decide +kernel
theorem dL_law_262 : decode code 262 = .ok (.iaload, 1) := by decide +kernel
theorem dL_law_263 : decode code 263 = .ok (.aload_n 0, 1) := by decide +kernel
theorem dL_law_264 : decode code 264 = .ok (.iload 4, 2) := by decide +kernel
theorem dL_law_266 : decode code 266 = .ok (.iconst 5, 1) := by decide +kernel
theorem dL_law_267 : decode code 267 = .ok (.iadd, 1) := by decide +kernel
theorem dL_law_268 : decode code 268 = .ok (.iaload, 1) := by decide +kernel
theorem dL_law_269 : decode code 269 = .ok (.invokevirtual 30, 3) := by decide +kernel
theorem dL_law_272 : decode code 272 = .ok (.if_icmp .eq 1010, 3) := by decide +kernel
theorem dL_law_275 : decode code 275 = .ok (.iconst 0, 1) := by decide +kernel
theorem dL_law_276 : decode code 276 = .ok (.ireturn, 1) := by decide +kernel
theorem dL_law_277 : decode code 277 = .ok (.aload_n 1, 1) := by decide +kernel
theorem dL_law_278 : decode code 278 = .ok (.aload_n 0, 1) := by decide +kernel
theorem dL_law_279 : decode code 279 = .ok (.iload 4, 2) := by decide +kernel
theorem dL_law_281 : decode code 281 = .ok (.iconst 1, 1) := by decide +kernel
theorem dL_law_282 : decode code 282 = .ok (.iadd, 1) := by decide +kernel
theorem dL_law_283 : decode code 283 = .ok (.iaload, 1) := by decide +kernel
theorem dL_law_284 : decode code 284 = .ok (.invokevirtual 31, 3) := by decide +kernel
theorem dL_law_287 : decode code 287 = .ok (.aload_n 2, 1) := by decide +kernel
theorem dL_law_288 : decode code 288 = .ok (.aload_n 0, 1) := by decide +kernel
theorem dL_law_289 : decode code 289 = .ok (.iload 4, 2) := by decide +kernel
theorem dL_law_291 : decode code 291 = .ok (.iconst 1, 1) := by decide +kernel
theorem dL_law_292 : decode code 292 = .ok (.iadd, 1) := by decide +kernel
theorem dL_law_293 : decode code 293 = .ok (.iaload, 1) := by decide +kernel
theorem dL_law_294 : decode code 294 = .ok (.invokevirtual 35, 3) := by decide +kernel
theorem dL_law_297 : decode code 297 = .ok (.if_icmp .eq 985, 3) := by decide +kernel
theorem dL_law_300 : decode code 300 = .ok (.iconst 0, 1) := by decide +kernel
theorem dL_law_301 : decode code 301 = .ok (.ireturn, 1) := by decide +kernel
theorem dL_law_302 : decode code 302 = .ok (.aload_n 1, 1) := by decide +kernel
theorem dL_law_303 : decode code 303 = .ok (.invokevirtual 36, 3) := by decide +kernel
theorem dL_law_306 : decode code 306 = .ok (.aload_n 2, 1) := by decide +kernel
theorem dL_law_307 : decode code 307 = .ok (.invokevirtual 40, 3) := by decide +kernel
theorem dL_law_310 : decode code 310 = .ok (.if_icmp .eq 972, 3) := by decide +kernel
theorem dL_law_313 : decode code 313 = .ok (.iconst 0, 1) := by decide +kernel
theorem dL_law_314 : decode code 314 = .ok (.ireturn, 1) := by decide +kernel
theorem dL_law_315 : decode code 315 = .ok (.aload_n 1, 1) := by decide +kernel
theorem dL_law_316 : decode code 316 = .ok (.invokevirtual 41, 3) := by decide +kernel
theorem dL_law_319 : decode code 319 = .ok (.aload_n 2, 1) := by decide +kernel
theorem dL_law_320 : decode code 320 = .ok (.invokevirtual 44, 3) := by decide +kernel
theorem dL_law_323 : decode code 323 = .ok (.if_icmp .eq 959, 3) := by decide +kernel
theorem dL_law_326 : decode code 326 = .ok (.iconst 0, 1) := by decide +kernel
theorem dL_law_327 : decode code 327 = .ok (.ireturn, 1) := by decide +kernel
theorem dL_law_328 : decode code 328 = .ok (.aload_n 1, 1) := by decide +kernel
theorem dL_law_329 : decode code 329 = .ok (.invokevirtual 45, 3) := by decide +kernel
theorem dL_law_332 : decode code 332 = .ok (.aload_n 2, 1) := by decide +kernel
theorem dL_law_333 : decode code 333 = .ok (.invokevirtual 48, 3) := by decide +kernel
theorem dL_law_336 : decode code 336 = .ok (.if_icmp .eq 946, 3) := by decide +kernel
theorem dL_law_339 : decode code 339 = .ok (.iconst 0, 1) := by decide +kernel
theorem dL_law_340 : decode code 340 = .ok (.ireturn, 1) := by decide +kernel
theorem dL_law_341 : decode code 341 = .ok (.aload_n 1, 1) := by decide +kernel
theorem dL_law_342 : decode code 342 = .ok (.invokevirtual 49, 3) := by decide +kernel
theorem dL_law_345 : decode code 345 = .ok (.aload_n 2, 1) := by decide +kernel
theorem dL_law_346 : decode code 346 = .ok (.invokevirtual 52, 3) := by decide +kernel
theorem dL_law_349 : decode code 349 = .ok (.if_icmp .eq 933, 3) := by decide +kernel
theorem dL_law_352 : decode code 352 = .ok (.iconst 0, 1) := by decide +kernel
theorem dL_law_353 : decode code 353 = .ok (.ireturn, 1) := by decide +kernel
theorem dL_law_354 : decode code 354 = .ok (.aload_n 1, 1) := by decide +kernel
theorem dL_law_355 : decode code 355 = .ok (.aload_n 0, 1) := by decide +kernel
theorem dL_law_356 : decode code 356 = .ok (.iload 4, 2) := by decide +kernel
theorem dL_law_358 : decode code 358 = .ok (.iconst 1, 1) := by decide +kernel
theorem dL_law_359 : decode code 359 = .ok (.iadd, 1) := by decide +kernel
theorem dL_law_360 : decode code 360 = .ok (.iaload, 1) := by decide +kernel
theorem dL_law_361 : decode code 361 = .ok (.invokevirtual 53, 3) := by decide +kernel
theorem dL_law_364 : decode code 364 = .ok (.aload_n 2, 1) := by decide +kernel
theorem dL_law_365 : decode code 365 = .ok (.aload_n 0, 1) := by decide +kernel
theorem dL_law_366 : decode code 366 = .ok (.iload 4, 2) := by decide +kernel
theorem dL_law_368 : decode code 368 = .ok (.iconst 1, 1) := by decide +kernel
theorem dL_law_369 : decode code 369 = .ok (.iadd, 1) := by decide +kernel
theorem dL_law_370 : decode code 370 = .ok (.iaload, 1) := by decide +kernel
theorem dL_law_371 : decode code 371 = .ok (.invokevirtual 57, 3) := by decide +kernel
theorem dL_law_374 : decode code 374 = .ok (.if_icmp .eq 908, 3) := by decide +kernel
theorem dL_law_377 : decode code 377 = .ok (.iconst 0, 1) := by decide +kernel
theorem dL_law_378 : decode code 378 = .ok (.ireturn, 1) := by decide +kernel
theorem dL_law_379 : decode code 379 = .ok (.aload_n 1, 1) := by decide +kernel
theorem dL_law_380 : decode code 380 = .ok (.aload_n 0, 1) := by decide +kernel
theorem dL_law_381 : decode code 381 = .ok (.iload 4, 2) := by decide +kernel
theorem dL_law_383 : decode code 383 = .ok (.iconst 1, 1) := by decide +kernel
theorem dL_law_384 : decode code 384 = .ok (.iadd, 1) := by decide +kernel
theorem dL_law_385 : decode code 385 = .ok (.iaload, 1) := by decide +kernel
theorem dL_law_386 : decode code 386 = .ok (.invokevirtual 58, 3) := by decide +kernel
theorem dL_law_389 : decode code 389 = .ok (.aload_n 2, 1) := by decide +kernel
theorem dL_law_390 : decode code 390 = .ok (.aload_n 0, 1) := by decide +kernel
theorem dL_law_391 : decode code 391 = .ok (.iload 4, 2) := by decide +kernel
theorem dL_law_393 : decode code 393 = .ok (.iconst 1, 1) := by decide +kernel
theorem dL_law_394 : decode code 394 = .ok (.iadd, 1) := by decide +kernel
theorem dL_law_395 : decode code 395 = .ok (.iaload, 1) := by decide +kernel
theorem dL_law_396 : decode code 396 = .ok (.invokevirtual 61, 3) := by decide +kernel
theorem dL_law_399 : decode code 399 = .ok (.if_icmp .eq 883, 3) := by decide +kernel
theorem dL_law_402 : decode code 402 = .ok (.iconst 0, 1) := by decide +kernel
theorem dL_law_403 : decode code 403 = .ok (.ireturn, 1) := by decide +kernel
theorem dL_law_404 : decode code 404 = .ok (.aload_n 1, 1) := by decide +kernel
theorem dL_law_405 : decode code 405 = .ok (.aload_n 0, 1) := by decide +kernel
theorem dL_law_406 : decode code 406 = .ok (.iload 4, 2) := by decide +kernel
theorem dL_law_408 : decode code 408 = .ok (.iconst 1, 1) := by decide +kernel
theorem dL_law_409 : decode code 409 = .ok (.iadd, 1) := by decide +kernel
theorem dL_law_410 : decode code 410 = .ok (.iaload, 1) := by decide +kernel
theorem dL_law_411 : decode code 411 = .ok (.invokevirtual 62, 3) := by decide +kernel
theorem dL_law_414 : decode code 414 = .ok (.aload_n 2, 1) := by decide +kernel
theorem dL_law_415 : decode code 415 = .ok (.aload_n 0, 1) := by decide +kernel
theorem dL_law_416 : decode code 416 = .ok (.iload 4, 2) := by decide +kernel
theorem dL_law_418 : decode code 418 = .ok (.iconst 1, 1) := by decide +kernel
theorem dL_law_419 : decode code 419 = .ok (.iadd, 1) := by decide +kernel
theorem dL_law_420 : decode code 420 = .ok (.iaload, 1) := by decide +kernel
theorem dL_law_421 : decode code 421 = .ok (.invokevirtual 65, 3) := by decide +kernel
theorem dL_law_424 : decode code 424 = .ok (.if_icmp .eq 858, 3) := by decide +kernel
theorem dL_law_427 : decode code 427 = .ok (.iconst 0, 1) := by decide +kernel
theorem dL_law_428 : decode code 428 = .ok (.ireturn, 1) := by decide +kernel
theorem dL_law_429 : decode code 429 = .ok (.aload_n 1, 1) := by decide +kernel
theorem dL_law_430 : decode code 430 = .ok (.aload_n 0, 1) := by decide +kernel
theorem dL_law_431 : decode code 431 = .ok (.iload 4, 2) := by decide +kernel
theorem dL_law_433 : decode code 433 = .ok (.iconst 1, 1) := by decide +kernel
theorem dL_law_434 : decode code 434 = .ok (.iadd, 1) := by decide +kernel
theorem dL_law_435 : decode code 435 = .ok (.iaload, 1) := by decide +kernel
theorem dL_law_436 : decode code 436 = .ok (.aload_n 0, 1) := by decide +kernel
theorem dL_law_437 : decode code 437 = .ok (.iload 4, 2) := by decide +kernel
theorem dL_law_439 : decode code 439 = .ok (.iconst 2, 1) := by decide +kernel
theorem dL_law_440 : decode code 440 = .ok (.iadd, 1) := by decide +kernel
theorem dL_law_441 : decode code 441 = .ok (.iaload, 1) := by decide +kernel
theorem dL_law_442 : decode code 442 = .ok (.invokevirtual 66, 3) := by decide +kernel
theorem dL_law_445 : decode code 445 = .ok (.aload_n 2, 1) := by decide +kernel
theorem dL_law_446 : decode code 446 = .ok (.aload_n 0, 1) := by decide +kernel
theorem dL_law_447 : decode code 447 = .ok (.iload 4, 2) := by decide +kernel
theorem dL_law_449 : decode code 449 = .ok (.iconst 1, 1) := by decide +kernel
theorem dL_law_450 : decode code 450 = .ok (.iadd, 1) := by decide +kernel
theorem dL_law_451 : decode code 451 = .ok (.iaload, 1) := by decide +kernel
theorem dL_law_452 : decode code 452 = .ok (.aload_n 0, 1) := by decide +kernel
theorem dL_law_453 : decode code 453 = .ok (.iload 4, 2) := by decide +kernel
theorem dL_law_455 : decode code 455 = .ok (.iconst 2, 1) := by decide +kernel
theorem dL_law_456 : decode code 456 = .ok (.iadd, 1) := by decide +kernel
theorem dL_law_457 : decode code 457 = .ok (.iaload, 1) := by decide +kernel
theorem dL_law_458 : decode code 458 = .ok (.invokevirtual 69, 3) := by decide +kernel
theorem dL_law_461 : decode code 461 = .ok (.if_icmp .eq 821, 3) := by decide +kernel
theorem dL_law_464 : decode code 464 = .ok (.iconst 0, 1) := by decide +kernel
theorem dL_law_465 : decode code 465 = .ok (.ireturn, 1) := by decide +kernel
theorem dL_law_466 : decode code 466 = .ok (.aload_n 1, 1) := by decide +kernel
theorem dL_law_467 : decode code 467 = .ok (.invokevirtual 70, 3) := by decide +kernel
theorem dL_law_470 : decode code 470 = .ok (.aload_n 2, 1) := by decide +kernel
theorem dL_law_471 : decode code 471 = .ok (.invokevirtual 73, 3) := by decide +kernel
theorem dL_law_474 : decode code 474 = .ok (.if_icmp .eq 808, 3) := by decide +kernel
theorem dL_law_477 : decode code 477 = .ok (.iconst 0, 1) := by decide +kernel
theorem dL_law_478 : decode code 478 = .ok (.ireturn, 1) := by decide +kernel
theorem dL_law_479 : decode code 479 = .ok (.aload_n 1, 1) := by decide +kernel
theorem dL_law_480 : decode code 480 = .ok (.invokevirtual 74, 3) := by decide +kernel
theorem dL_law_483 : decode code 483 = .ok (.aload_n 2, 1) := by decide +kernel
theorem dL_law_484 : decode code 484 = .ok (.invokevirtual 77, 3) := by decide +kernel
theorem dL_law_487 : decode code 487 = .ok (.if_icmp .eq 795, 3) := by decide +kernel
theorem dL_law_490 : decode code 490 = .ok (.iconst 0, 1) := by decide +kernel
theorem dL_law_491 : decode code 491 = .ok (.ireturn, 1) := by decide +kernel
theorem dL_law_492 : decode code 492 = .ok (.aload_n 1, 1) := by decide +kernel
theorem dL_law_493 : decode code 493 = .ok (.invokevirtual 78, 3) := by decide +kernel
theorem dL_law_496 : decode code 496 = .ok (.aload_n 2, 1) := by decide +kernel
theorem dL_law_497 : decode code 497 = .ok (.invokevirtual 81, 3) := by decide +kernel
theorem dL_law_500 : decode code 500 = .ok (.if_icmp .eq 782, 3) := by decide +kernel
theorem dL_law_503 : decode code 503 = .ok (.iconst 0, 1) := by decide +kernel
theorem dL_law_504 : decode code 504 = .ok (.ireturn, 1) := by decide +kernel
theorem dL_law_505 : decode code 505 = .ok (.aload_n 1, 1) := by decide +kernel
theorem dL_law_506 : decode code 506 = .ok (.invokevirtual 82, 3) := by decide +kernel
theorem dL_law_509 : decode code 509 = .ok (.aload_n 2, 1) := by decide +kernel
theorem dL_law_510 : decode code 510 = .ok (.invokevirtual 85, 3) := by decide +kernel
theorem dL_law_513 : decode code 513 = .ok (.if_icmp .eq 769, 3) := by decide +kernel
theorem dL_law_516 : decode code 516 = .ok (.iconst 0, 1) := by decide +kernel
theorem dL_law_517 : decode code 517 = .ok (.ireturn, 1) := by decide +kernel
theorem dL_law_518 : decode code 518 = .ok (.aload_n 1, 1) := by decide +kernel
theorem dL_law_519 : decode code 519 = .ok (.aload_n 0, 1) := by decide +kernel
theorem dL_law_520 : decode code 520 = .ok (.iload 4, 2) := by decide +kernel
theorem dL_law_522 : decode code 522 = .ok (.iconst 1, 1) := by decide +kernel
theorem dL_law_523 : decode code 523 = .ok (.iadd, 1) := by decide +kernel
theorem dL_law_524 : decode code 524 = .ok (.iaload, 1) := by decide +kernel
theorem dL_law_525 : decode code 525 = .ok (.invokevirtual 86, 3) := by decide +kernel
theorem dL_law_528 : decode code 528 = .ok (.aload_n 2, 1) := by decide +kernel
theorem dL_law_529 : decode code 529 = .ok (.aload_n 0, 1) := by decide +kernel
theorem dL_law_530 : decode code 530 = .ok (.iload 4, 2) := by decide +kernel
theorem dL_law_532 : decode code 532 = .ok (.iconst 1, 1) := by decide +kernel
theorem dL_law_533 : decode code 533 = .ok (.iadd, 1) := by decide +kernel
theorem dL_law_534 : decode code 534 = .ok (.iaload, 1) := by decide +kernel
theorem dL_law_535 : decode code 535 = .ok (.invokevirtual 89, 3) := by decide +kernel
theorem dL_law_538 : decode code 538 = .ok (.if_icmp .eq 744, 3) := by decide +kernel
theorem dL_law_541 : decode code 541 = .ok (.iconst 0, 1) := by decide +kernel
theorem dL_law_542 : decode code 542 = .ok (.ireturn, 1) := by decide +kernel
theorem dL_law_543 : decode code 543 = .ok (.aload_n 1, 1) := by decide +kernel
theorem dL_law_544 : decode code 544 = .ok (.aload_n 0, 1) := by decide +kernel
theorem dL_law_545 : decode code 545 = .ok (.iload 4, 2) := by decide +kernel
theorem dL_law_547 : decode code 547 = .ok (.iconst 1, 1) := by decide +kernel
theorem dL_law_548 : decode code 548 = .ok (.iadd, 1) := by decide +kernel
theorem dL_law_549 : decode code 549 = .ok (.iaload, 1) := by decide +kernel
theorem dL_law_550 : decode code 550 = .ok (.invokevirtual 90, 3) := by decide +kernel
theorem dL_law_553 : decode code 553 = .ok (.aload_n 2, 1) := by decide +kernel
theorem dL_law_554 : decode code 554 = .ok (.aload_n 0, 1) := by decide +kernel
theorem dL_law_555 : decode code 555 = .ok (.iload 4, 2) := by decide +kernel
theorem dL_law_557 : decode code 557 = .ok (.iconst 1, 1) := by decide +kernel
theorem dL_law_558 : decode code 558 = .ok (.iadd, 1) := by decide +kernel
theorem dL_law_559 : decode code 559 = .ok (.iaload, 1) := by decide +kernel
theorem dL_law_560 : decode code 560 = .ok (.invokevirtual 93, 3) := by decide +kernel
theorem dL_law_563 : decode code 563 = .ok (.if_icmp .eq 719, 3) := by decide +kernel
theorem dL_law_566 : decode code 566 = .ok (.iconst 0, 1) := by decide +kernel
theorem dL_law_567 : decode code 567 = .ok (.ireturn, 1) := by decide +kernel
theorem dL_law_568 : decode code 568 = .ok (.aload_n 1, 1) := by decide +kernel
theorem dL_law_569 : decode code 569 = .ok (.aload_n 0, 1) := by decide +kernel
theorem dL_law_570 : decode code 570 = .ok (.iload 4, 2) := by decide +kernel
theorem dL_law_572 : decode code 572 = .ok (.iconst 1, 1) := by decide +kernel
theorem dL_law_573 : decode code 573 = .ok (.iadd, 1) := by decide +kernel
theorem dL_law_574 : decode code 574 = .ok (.iaload, 1) := by decide +kernel
theorem dL_law_575 : decode code 575 = .ok (.aload_n 0, 1) := by decide +kernel
theorem dL_law_576 : decode code 576 = .ok (.iload 4, 2) := by decide +kernel
theorem dL_law_578 : decode code 578 = .ok (.iconst 2, 1) := by decide +kernel
theorem dL_law_579 : decode code 579 = .ok (.iadd, 1) := by decide +kernel
theorem dL_law_580 : decode code 580 = .ok (.iaload, 1) := by decide +kernel
theorem dL_law_581 : decode code 581 = .ok (.invokevirtual 94, 3) := by decide +kernel
theorem dL_law_584 : decode code 584 = .ok (.aload_n 2, 1) := by decide +kernel
theorem dL_law_585 : decode code 585 = .ok (.aload_n 0, 1) := by decide +kernel
theorem dL_law_586 : decode code 586 = .ok (.iload 4, 2) := by decide +kernel
theorem dL_law_588 : decode code 588 = .ok (.iconst 1, 1) := by decide +kernel
theorem dL_law_589 : decode code 589 = .ok (.iadd, 1) := by decide +kernel
theorem dL_law_590 : decode code 590 = .ok (.iaload, 1) := by decide +kernel
theorem dL_law_591 : decode code 591 = .ok (.aload_n 0, 1) := by decide +kernel
theorem dL_law_592 : decode code 592 = .ok (.iload 4, 2) := by decide +kernel
theorem dL_law_594 : decode code 594 = .ok (.iconst 2, 1) := by decide +kernel
theorem dL_law_595 : decode code 595 = .ok (.iadd, 1) := by decide +kernel
theorem dL_law_596 : decode code 596 = .ok (.iaload, 1) := by decide +kernel
theorem dL_law_597 : decode code 597 = .ok (.invokevirtual 97, 3) := by decide +kernel
theorem dL_law_600 : decode code 600 = .ok (.if_icmp .eq 682, 3) := by decide +kernel
theorem dL_law_603 : decode code 603 = .ok (.iconst 0, 1) := by decide +kernel
theorem dL_law_604 : decode code 604 = .ok (.ireturn, 1) := by decide +kernel
theorem dL_law_605 : decode code 605 = .ok (.aload_n 1, 1) := by decide +kernel
theorem dL_law_606 : decode code 606 = .ok (.aload_n 0, 1) := by decide +kernel
theorem dL_law_607 : decode code 607 = .ok (.iload 4, 2) := by decide +kernel
theorem dL_law_609 : decode code 609 = .ok (.iconst 1, 1) := by decide +kernel
theorem dL_law_610 : decode code 610 = .ok (.iadd, 1) := by decide +kernel
theorem dL_law_611 : decode code 611 = .ok (.iaload, 1) := by decide +kernel
theorem dL_law_612 : decode code 612 = .ok (.invokevirtual 98, 3) := by decide +kernel
theorem dL_law_615 : decode code 615 = .ok (.aload_n 2, 1) := by decide +kernel
theorem dL_law_616 : decode code 616 = .ok (.aload_n 0, 1) := by decide +kernel
theorem dL_law_617 : decode code 617 = .ok (.iload 4, 2) := by decide +kernel
theorem dL_law_619 : decode code 619 = .ok (.iconst 1, 1) := by decide +kernel
theorem dL_law_620 : decode code 620 = .ok (.iadd, 1) := by decide +kernel
theorem dL_law_621 : decode code 621 = .ok (.iaload, 1) := by decide +kernel
theorem dL_law_622 : decode code 622 = .ok (.invokevirtual 101, 3) := by decide +kernel
theorem dL_law_625 : decode code 625 = .ok (.if_icmp .eq 657, 3) := by decide +kernel
theorem dL_law_628 : decode code 628 = .ok (.iconst 0, 1) := by decide +kernel
theorem dL_law_629 : decode code 629 = .ok (.ireturn, 1) := by decide +kernel
theorem dL_law_630 : decode code 630 = .ok (.aload_n 1, 1) := by decide +kernel
theorem dL_law_631 : decode code 631 = .ok (.aload_n 0, 1) := by decide +kernel
theorem dL_law_632 : decode code 632 = .ok (.iload 4, 2) := by decide +kernel
theorem dL_law_634 : decode code 634 = .ok (.iconst 1, 1) := by decide +kernel
theorem dL_law_635 : decode code 635 = .ok (.iadd, 1) := by decide +kernel
theorem dL_law_636 : decode code 636 = .ok (.iaload, 1) := by decide +kernel
theorem dL_law_637 : decode code 637 = .ok (.aload_n 0, 1) := by decide +kernel
theorem dL_law_638 : decode code 638 = .ok (.iload 4, 2) := by decide +kernel
theorem dL_law_640 : decode code 640 = .ok (.iconst 2, 1) := by decide +kernel
theorem dL_law_641 : decode code 641 = .ok (.iadd, 1) := by decide +kernel
theorem dL_law_642 : decode code 642 = .ok (.iaload, 1) := by decide +kernel
theorem dL_law_643 : decode code 643 = .ok (.aload_n 3, 1) := by decide +kernel
theorem dL_law_644 : decode code 644 = .ok (.invokestatic 102, 3) := by decide +kernel
theorem dL_law_647 : decode code 647 = .ok (.istore 5, 2) := by decide +kernel
theorem dL_law_649 : decode code 649 = .ok (.aload_n 2, 1) := by decide +kernel
theorem dL_law_650 : decode code 650 = .ok (.aload_n 0, 1) := by decide +kernel
theorem dL_law_651 : decode code 651 = .ok (.iload 4, 2) := by decide +kernel
theorem dL_law_653 : decode code 653 = .ok (.iconst 1, 1) := by decide +kernel
theorem dL_law_654 : decode code 654 = .ok (.iadd, 1) := by decide +kernel
theorem dL_law_655 : decode code 655 = .ok (.iaload, 1) := by decide +kernel
theorem dL_law_656 : decode code 656 = .ok (.aload_n 0, 1) := by decide +kernel
theorem dL_law_657 : decode code 657 = .ok (.iload 4, 2) := by decide +kernel
theorem dL_law_659 : decode code 659 = .ok (.iconst 2, 1) := by decide +kernel
theorem dL_law_660 : decode code 660 = .ok (.iadd, 1) := by decide +kernel
theorem dL_law_661 : decode code 661 = .ok (.iaload, 1) := by decide +kernel
theorem dL_law_662 : decode code 662 = .ok (.invokevirtual 107, 3) := by decide +kernel
theorem dL_law_665 : decode code 665 = .ok (.istore 6, 2) := by decide +kernel
theorem dL_law_667 : decode code 667 = .ok (.aload_n 2, 1) := by decide +kernel
theorem dL_law_668 : decode code 668 = .ok (.invokevirtual 108, 3) := by decide +kernel
theorem dL_law_671 : decode code 671 = .ok (.iload 5, 2) := by decide +kernel
theorem dL_law_673 : decode code 673 = .ok (.if_icmp .eq 5, 3) := by decide +kernel
theorem dL_law_676 : decode code 676 = .ok (.iconst 0, 1) := by decide +kernel
theorem dL_law_677 : decode code 677 = .ok (.ireturn, 1) := by decide +kernel
theorem dL_law_678 : decode code 678 = .ok (.iload 5, 2) := by decide +kernel
theorem dL_law_680 : decode code 680 = .ok (.ifCond .ne 15, 3) := by decide +kernel
theorem dL_law_683 : decode code 683 = .ok (.aload_n 3, 1) := by decide +kernel
theorem dL_law_684 : decode code 684 = .ok (.iconst 0, 1) := by decide +kernel
theorem dL_law_685 : decode code 685 = .ok (.laload, 1) := by decide +kernel
theorem dL_law_686 : decode code 686 = .ok (.iload 6, 2) := by decide +kernel
theorem dL_law_688 : decode code 688 = .ok (.i2l, 1) := by decide +kernel
theorem dL_law_689 : decode code 689 = .ok (.lcmp, 1) := by decide +kernel
theorem dL_law_690 : decode code 690 = .ok (.ifCond .eq 5, 3) := by decide +kernel
theorem dL_law_693 : decode code 693 = .ok (.iconst 0, 1) := by decide +kernel
theorem dL_law_694 : decode code 694 = .ok (.ireturn, 1) := by decide +kernel
theorem dL_law_695 : decode code 695 = .ok (.goto 587, 3) := by decide +kernel
theorem dL_law_698 : decode code 698 = .ok (.aload_n 1, 1) := by decide +kernel
theorem dL_law_699 : decode code 699 = .ok (.aload_n 0, 1) := by decide +kernel
theorem dL_law_700 : decode code 700 = .ok (.iload 4, 2) := by decide +kernel
theorem dL_law_702 : decode code 702 = .ok (.iconst 1, 1) := by decide +kernel
theorem dL_law_703 : decode code 703 = .ok (.iadd, 1) := by decide +kernel
theorem dL_law_704 : decode code 704 = .ok (.iaload, 1) := by decide +kernel
theorem dL_law_705 : decode code 705 = .ok (.aload_n 0, 1) := by decide +kernel
theorem dL_law_706 : decode code 706 = .ok (.iload 4, 2) := by decide +kernel
theorem dL_law_708 : decode code 708 = .ok (.iconst 2, 1) := by decide +kernel
theorem dL_law_709 : decode code 709 = .ok (.iadd, 1) := by decide +kernel
theorem dL_law_710 : decode code 710 = .ok (.iaload, 1) := by decide +kernel
theorem dL_law_711 : decode code 711 = .ok (.invokevirtual 111, 3) := by decide +kernel
theorem dL_law_714 : decode code 714 = .ok (.aload_n 2, 1) := by decide +kernel
theorem dL_law_715 : decode code 715 = .ok (.aload_n 0, 1) := by decide +kernel
theorem dL_law_716 : decode code 716 = .ok (.iload 4, 2) := by decide +kernel
theorem dL_law_718 : decode code 718 = .ok (.iconst 1, 1) := by decide +kernel
theorem dL_law_719 : decode code 719 = .ok (.iadd, 1) := by decide +kernel
theorem dL_law_720 : decode code 720 = .ok (.iaload, 1) := by decide +kernel
theorem dL_law_721 : decode code 721 = .ok (.aload_n 0, 1) := by decide +kernel
theorem dL_law_722 : decode code 722 = .ok (.iload 4, 2) := by decide +kernel
theorem dL_law_724 : decode code 724 = .ok (.iconst 2, 1) := by decide +kernel
theorem dL_law_725 : decode code 725 = .ok (.iadd, 1) := by decide +kernel
theorem dL_law_726 : decode code 726 = .ok (.iaload, 1) := by decide +kernel
theorem dL_law_727 : decode code 727 = .ok (.invokevirtual 114, 3) := by decide +kernel
theorem dL_law_730 : decode code 730 = .ok (.if_icmp .eq 552, 3) := by decide +kernel
theorem dL_law_733 : decode code 733 = .ok (.iconst 0, 1) := by decide +kernel
theorem dL_law_734 : decode code 734 = .ok (.ireturn, 1) := by decide +kernel
theorem dL_law_735 : decode code 735 = .ok (.aload_n 1, 1) := by decide +kernel
theorem dL_law_736 : decode code 736 = .ok (.aload_n 0, 1) := by decide +kernel
theorem dL_law_737 : decode code 737 = .ok (.iload 4, 2) := by decide +kernel
theorem dL_law_739 : decode code 739 = .ok (.iconst 1, 1) := by decide +kernel
theorem dL_law_740 : decode code 740 = .ok (.iadd, 1) := by decide +kernel
theorem dL_law_741 : decode code 741 = .ok (.iaload, 1) := by decide +kernel
theorem dL_law_742 : decode code 742 = .ok (.invokevirtual 115, 3) := by decide +kernel
theorem dL_law_745 : decode code 745 = .ok (.aload_n 2, 1) := by decide +kernel
theorem dL_law_746 : decode code 746 = .ok (.aload_n 0, 1) := by decide +kernel
theorem dL_law_747 : decode code 747 = .ok (.iload 4, 2) := by decide +kernel
theorem dL_law_749 : decode code 749 = .ok (.iconst 1, 1) := by decide +kernel
theorem dL_law_750 : decode code 750 = .ok (.iadd, 1) := by decide +kernel
theorem dL_law_751 : decode code 751 = .ok (.iaload, 1) := by decide +kernel
theorem dL_law_752 : decode code 752 = .ok (.invokevirtual 118, 3) := by decide +kernel
theorem dL_law_755 : decode code 755 = .ok (.if_icmp .eq 527, 3) := by decide +kernel
theorem dL_law_758 : decode code 758 = .ok (.iconst 0, 1) := by decide +kernel
theorem dL_law_759 : decode code 759 = .ok (.ireturn, 1) := by decide +kernel
theorem dL_law_760 : decode code 760 = .ok (.aload_n 1, 1) := by decide +kernel
theorem dL_law_761 : decode code 761 = .ok (.aload_n 0, 1) := by decide +kernel
theorem dL_law_762 : decode code 762 = .ok (.iload 4, 2) := by decide +kernel
theorem dL_law_764 : decode code 764 = .ok (.iconst 1, 1) := by decide +kernel
theorem dL_law_765 : decode code 765 = .ok (.iadd, 1) := by decide +kernel
theorem dL_law_766 : decode code 766 = .ok (.iaload, 1) := by decide +kernel
theorem dL_law_767 : decode code 767 = .ok (.aload_n 0, 1) := by decide +kernel
theorem dL_law_768 : decode code 768 = .ok (.iload 4, 2) := by decide +kernel
theorem dL_law_770 : decode code 770 = .ok (.iconst 2, 1) := by decide +kernel
theorem dL_law_771 : decode code 771 = .ok (.iadd, 1) := by decide +kernel
theorem dL_law_772 : decode code 772 = .ok (.iaload, 1) := by decide +kernel
theorem dL_law_773 : decode code 773 = .ok (.invokevirtual 119, 3) := by decide +kernel
theorem dL_law_776 : decode code 776 = .ok (.aload_n 2, 1) := by decide +kernel
theorem dL_law_777 : decode code 777 = .ok (.aload_n 0, 1) := by decide +kernel
theorem dL_law_778 : decode code 778 = .ok (.iload 4, 2) := by decide +kernel
theorem dL_law_780 : decode code 780 = .ok (.iconst 1, 1) := by decide +kernel
theorem dL_law_781 : decode code 781 = .ok (.iadd, 1) := by decide +kernel
theorem dL_law_782 : decode code 782 = .ok (.iaload, 1) := by decide +kernel
theorem dL_law_783 : decode code 783 = .ok (.aload_n 0, 1) := by decide +kernel
theorem dL_law_784 : decode code 784 = .ok (.iload 4, 2) := by decide +kernel
theorem dL_law_786 : decode code 786 = .ok (.iconst 2, 1) := by decide +kernel
theorem dL_law_787 : decode code 787 = .ok (.iadd, 1) := by decide +kernel
theorem dL_law_788 : decode code 788 = .ok (.iaload, 1) := by decide +kernel
theorem dL_law_789 : decode code 789 = .ok (.invokevirtual 122, 3) := by decide +kernel
theorem dL_law_792 : decode code 792 = .ok (.if_icmp .eq 490, 3) := by decide +kernel
theorem dL_law_795 : decode code 795 = .ok (.iconst 0, 1) := by decide +kernel
theorem dL_law_796 : decode code 796 = .ok (.ireturn, 1) := by decide +kernel
theorem dL_law_797 : decode code 797 = .ok (.aload_n 1, 1) := by decide +kernel
theorem dL_law_798 : decode code 798 = .ok (.aload_n 0, 1) := by decide +kernel
theorem dL_law_799 : decode code 799 = .ok (.iload 4, 2) := by decide +kernel
theorem dL_law_801 : decode code 801 = .ok (.iconst 1, 1) := by decide +kernel
theorem dL_law_802 : decode code 802 = .ok (.iadd, 1) := by decide +kernel
theorem dL_law_803 : decode code 803 = .ok (.iaload, 1) := by decide +kernel
theorem dL_law_804 : decode code 804 = .ok (.aload_n 0, 1) := by decide +kernel
theorem dL_law_805 : decode code 805 = .ok (.iload 4, 2) := by decide +kernel
theorem dL_law_807 : decode code 807 = .ok (.iconst 2, 1) := by decide +kernel
theorem dL_law_808 : decode code 808 = .ok (.iadd, 1) := by decide +kernel
theorem dL_law_809 : decode code 809 = .ok (.iaload, 1) := by decide +kernel
theorem dL_law_810 : decode code 810 = .ok (.aload_n 0, 1) := by decide +kernel
theorem dL_law_811 : decode code 811 = .ok (.iload 4, 2) := by decide +kernel
theorem dL_law_813 : decode code 813 = .ok (.iconst 3, 1) := by decide +kernel
theorem dL_law_814 : decode code 814 = .ok (.iadd, 1) := by decide +kernel
theorem dL_law_815 : decode code 815 = .ok (.iaload, 1) := by decide +kernel
theorem dL_law_816 : decode code 816 = .ok (.aload_n 3, 1) := by decide +kernel
theorem dL_law_817 : decode code 817 = .ok (.invokestatic 123, 3) := by decide +kernel
theorem dL_law_820 : decode code 820 = .ok (.istore 5, 2) := by decide +kernel
theorem dL_law_822 : decode code 822 = .ok (.aload_n 2, 1) := by decide +kernel
theorem dL_law_823 : decode code 823 = .ok (.aload_n 0, 1) := by decide +kernel
theorem dL_law_824 : decode code 824 = .ok (.iload 4, 2) := by decide +kernel
theorem dL_law_826 : decode code 826 = .ok (.iconst 1, 1) := by decide +kernel
theorem dL_law_827 : decode code 827 = .ok (.iadd, 1) := by decide +kernel
theorem dL_law_828 : decode code 828 = .ok (.iaload, 1) := by decide +kernel
theorem dL_law_829 : decode code 829 = .ok (.aload_n 0, 1) := by decide +kernel
theorem dL_law_830 : decode code 830 = .ok (.iload 4, 2) := by decide +kernel
theorem dL_law_832 : decode code 832 = .ok (.iconst 2, 1) := by decide +kernel
theorem dL_law_833 : decode code 833 = .ok (.iadd, 1) := by decide +kernel
theorem dL_law_834 : decode code 834 = .ok (.iaload, 1) := by decide +kernel
theorem dL_law_835 : decode code 835 = .ok (.aload_n 0, 1) := by decide +kernel
theorem dL_law_836 : decode code 836 = .ok (.iload 4, 2) := by decide +kernel
theorem dL_law_838 : decode code 838 = .ok (.iconst 3, 1) := by decide +kernel
theorem dL_law_839 : decode code 839 = .ok (.iadd, 1) := by decide +kernel
theorem dL_law_840 : decode code 840 = .ok (.iaload, 1) := by decide +kernel
theorem dL_law_841 : decode code 841 = .ok (.invokevirtual 126, 3) := by decide +kernel
theorem dL_law_844 : decode code 844 = .ok (.istore 6, 2) := by decide +kernel
theorem dL_law_846 : decode code 846 = .ok (.aload_n 2, 1) := by decide +kernel
theorem dL_law_847 : decode code 847 = .ok (.invokevirtual 108, 3) := by decide +kernel
theorem dL_law_850 : decode code 850 = .ok (.iload 5, 2) := by decide +kernel
theorem dL_law_852 : decode code 852 = .ok (.if_icmp .eq 5, 3) := by decide +kernel
theorem dL_law_855 : decode code 855 = .ok (.iconst 0, 1) := by decide +kernel
theorem dL_law_856 : decode code 856 = .ok (.ireturn, 1) := by decide +kernel
theorem dL_law_857 : decode code 857 = .ok (.iload 5, 2) := by decide +kernel
theorem dL_law_859 : decode code 859 = .ok (.ifCond .ne 15, 3) := by decide +kernel
theorem dL_law_862 : decode code 862 = .ok (.aload_n 3, 1) := by decide +kernel
theorem dL_law_863 : decode code 863 = .ok (.iconst 0, 1) := by decide +kernel
theorem dL_law_864 : decode code 864 = .ok (.laload, 1) := by decide +kernel
theorem dL_law_865 : decode code 865 = .ok (.iload 6, 2) := by decide +kernel
theorem dL_law_867 : decode code 867 = .ok (.i2l, 1) := by decide +kernel
theorem dL_law_868 : decode code 868 = .ok (.lcmp, 1) := by decide +kernel
theorem dL_law_869 : decode code 869 = .ok (.ifCond .eq 5, 3) := by decide +kernel
theorem dL_law_872 : decode code 872 = .ok (.iconst 0, 1) := by decide +kernel
theorem dL_law_873 : decode code 873 = .ok (.ireturn, 1) := by decide +kernel
theorem dL_law_874 : decode code 874 = .ok (.goto 408, 3) := by decide +kernel
theorem dL_law_877 : decode code 877 = .ok (.aload_n 1, 1) := by decide +kernel
theorem dL_law_878 : decode code 878 = .ok (.aload_n 0, 1) := by decide +kernel
theorem dL_law_879 : decode code 879 = .ok (.iload 4, 2) := by decide +kernel
theorem dL_law_881 : decode code 881 = .ok (.iconst 1, 1) := by decide +kernel
theorem dL_law_882 : decode code 882 = .ok (.iadd, 1) := by decide +kernel
theorem dL_law_883 : decode code 883 = .ok (.iaload, 1) := by decide +kernel
theorem dL_law_884 : decode code 884 = .ok (.aload_n 0, 1) := by decide +kernel
theorem dL_law_885 : decode code 885 = .ok (.iload 4, 2) := by decide +kernel
theorem dL_law_887 : decode code 887 = .ok (.iconst 2, 1) := by decide +kernel
theorem dL_law_888 : decode code 888 = .ok (.iadd, 1) := by decide +kernel
theorem dL_law_889 : decode code 889 = .ok (.iaload, 1) := by decide +kernel
theorem dL_law_890 : decode code 890 = .ok (.invokevirtual 127, 3) := by decide +kernel
theorem dL_law_893 : decode code 893 = .ok (.aload_n 2, 1) := by decide +kernel
theorem dL_law_894 : decode code 894 = .ok (.aload_n 0, 1) := by decide +kernel
theorem dL_law_895 : decode code 895 = .ok (.iload 4, 2) := by decide +kernel
theorem dL_law_897 : decode code 897 = .ok (.iconst 1, 1) := by decide +kernel
theorem dL_law_898 : decode code 898 = .ok (.iadd, 1) := by decide +kernel
theorem dL_law_899 : decode code 899 = .ok (.iaload, 1) := by decide +kernel
theorem dL_law_900 : decode code 900 = .ok (.aload_n 0, 1) := by decide +kernel
theorem dL_law_901 : decode code 901 = .ok (.iload 4, 2) := by decide +kernel
theorem dL_law_903 : decode code 903 = .ok (.iconst 2, 1) := by decide +kernel
theorem dL_law_904 : decode code 904 = .ok (.iadd, 1) := by decide +kernel
theorem dL_law_905 : decode code 905 = .ok (.iaload, 1) := by decide +kernel
theorem dL_law_906 : decode code 906 = .ok (.invokevirtual 130, 3) := by decide +kernel
theorem dL_law_909 : decode code 909 = .ok (.if_icmp .eq 373, 3) := by decide +kernel
theorem dL_law_912 : decode code 912 = .ok (.iconst 0, 1) := by decide +kernel
theorem dL_law_913 : decode code 913 = .ok (.ireturn, 1) := by decide +kernel
theorem dL_law_914 : decode code 914 = .ok (.aload_n 1, 1) := by decide +kernel
theorem dL_law_915 : decode code 915 = .ok (.invokevirtual 131, 3) := by decide +kernel
theorem dL_law_918 : decode code 918 = .ok (.aload_n 2, 1) := by decide +kernel
theorem dL_law_919 : decode code 919 = .ok (.invokevirtual 134, 3) := by decide +kernel
theorem dL_law_922 : decode code 922 = .ok (.if_icmp .eq 360, 3) := by decide +kernel
theorem dL_law_925 : decode code 925 = .ok (.iconst 0, 1) := by decide +kernel
theorem dL_law_926 : decode code 926 = .ok (.ireturn, 1) := by decide +kernel
theorem dL_law_927 : decode code 927 = .ok (.aload_n 1, 1) := by decide +kernel
theorem dL_law_928 : decode code 928 = .ok (.aload_n 0, 1) := by decide +kernel
theorem dL_law_929 : decode code 929 = .ok (.iload 4, 2) := by decide +kernel
theorem dL_law_931 : decode code 931 = .ok (.iconst 1, 1) := by decide +kernel
theorem dL_law_932 : decode code 932 = .ok (.iadd, 1) := by decide +kernel
theorem dL_law_933 : decode code 933 = .ok (.iaload, 1) := by decide +kernel
theorem dL_law_934 : decode code 934 = .ok (.invokevirtual 135, 3) := by decide +kernel
theorem dL_law_937 : decode code 937 = .ok (.aload_n 2, 1) := by decide +kernel
theorem dL_law_938 : decode code 938 = .ok (.aload_n 0, 1) := by decide +kernel
theorem dL_law_939 : decode code 939 = .ok (.iload 4, 2) := by decide +kernel
theorem dL_law_941 : decode code 941 = .ok (.iconst 1, 1) := by decide +kernel
theorem dL_law_942 : decode code 942 = .ok (.iadd, 1) := by decide +kernel
theorem dL_law_943 : decode code 943 = .ok (.iaload, 1) := by decide +kernel
theorem dL_law_944 : decode code 944 = .ok (.invokevirtual 138, 3) := by decide +kernel
theorem dL_law_947 : decode code 947 = .ok (.if_icmp .eq 335, 3) := by decide +kernel
theorem dL_law_950 : decode code 950 = .ok (.iconst 0, 1) := by decide +kernel
theorem dL_law_951 : decode code 951 = .ok (.ireturn, 1) := by decide +kernel
theorem dL_law_952 : decode code 952 = .ok (.aload_n 1, 1) := by decide +kernel
theorem dL_law_953 : decode code 953 = .ok (.aload_n 0, 1) := by decide +kernel
theorem dL_law_954 : decode code 954 = .ok (.iload 4, 2) := by decide +kernel
theorem dL_law_956 : decode code 956 = .ok (.iconst 1, 1) := by decide +kernel
theorem dL_law_957 : decode code 957 = .ok (.iadd, 1) := by decide +kernel
theorem dL_law_958 : decode code 958 = .ok (.iaload, 1) := by decide +kernel
theorem dL_law_959 : decode code 959 = .ok (.aload_n 0, 1) := by decide +kernel
theorem dL_law_960 : decode code 960 = .ok (.iload 4, 2) := by decide +kernel
theorem dL_law_962 : decode code 962 = .ok (.iconst 2, 1) := by decide +kernel
theorem dL_law_963 : decode code 963 = .ok (.iadd, 1) := by decide +kernel
theorem dL_law_964 : decode code 964 = .ok (.iaload, 1) := by decide +kernel
theorem dL_law_965 : decode code 965 = .ok (.aload_n 0, 1) := by decide +kernel
theorem dL_law_966 : decode code 966 = .ok (.iload 4, 2) := by decide +kernel
theorem dL_law_968 : decode code 968 = .ok (.iconst 3, 1) := by decide +kernel
theorem dL_law_969 : decode code 969 = .ok (.iadd, 1) := by decide +kernel
theorem dL_law_970 : decode code 970 = .ok (.iaload, 1) := by decide +kernel
theorem dL_law_971 : decode code 971 = .ok (.aload_n 3, 1) := by decide +kernel
theorem dL_law_972 : decode code 972 = .ok (.invokestatic 139, 3) := by decide +kernel
theorem dL_law_975 : decode code 975 = .ok (.istore 5, 2) := by decide +kernel
theorem dL_law_977 : decode code 977 = .ok (.aload_n 2, 1) := by decide +kernel
theorem dL_law_978 : decode code 978 = .ok (.aload_n 0, 1) := by decide +kernel
theorem dL_law_979 : decode code 979 = .ok (.iload 4, 2) := by decide +kernel
theorem dL_law_981 : decode code 981 = .ok (.iconst 1, 1) := by decide +kernel
theorem dL_law_982 : decode code 982 = .ok (.iadd, 1) := by decide +kernel
theorem dL_law_983 : decode code 983 = .ok (.iaload, 1) := by decide +kernel
theorem dL_law_984 : decode code 984 = .ok (.aload_n 0, 1) := by decide +kernel
theorem dL_law_985 : decode code 985 = .ok (.iload 4, 2) := by decide +kernel
theorem dL_law_987 : decode code 987 = .ok (.iconst 2, 1) := by decide +kernel
theorem dL_law_988 : decode code 988 = .ok (.iadd, 1) := by decide +kernel
theorem dL_law_989 : decode code 989 = .ok (.iaload, 1) := by decide +kernel
theorem dL_law_990 : decode code 990 = .ok (.aload_n 0, 1) := by decide +kernel
theorem dL_law_991 : decode code 991 = .ok (.iload 4, 2) := by decide +kernel
theorem dL_law_993 : decode code 993 = .ok (.iconst 3, 1) := by decide +kernel
theorem dL_law_994 : decode code 994 = .ok (.iadd, 1) := by decide +kernel
theorem dL_law_995 : decode code 995 = .ok (.iaload, 1) := by decide +kernel
theorem dL_law_996 : decode code 996 = .ok (.invokevirtual 141, 3) := by decide +kernel
theorem dL_law_999 : decode code 999 = .ok (.istore 6, 2) := by decide +kernel
theorem dL_law_1001 : decode code 1001 = .ok (.aload_n 2, 1) := by decide +kernel
theorem dL_law_1002 : decode code 1002 = .ok (.invokevirtual 108, 3) := by decide +kernel
theorem dL_law_1005 : decode code 1005 = .ok (.iload 5, 2) := by decide +kernel
theorem dL_law_1007 : decode code 1007 = .ok (.if_icmp .eq 5, 3) := by decide +kernel
theorem dL_law_1010 : decode code 1010 = .ok (.iconst 0, 1) := by decide +kernel
theorem dL_law_1011 : decode code 1011 = .ok (.ireturn, 1) := by decide +kernel
theorem dL_law_1012 : decode code 1012 = .ok (.iload 5, 2) := by decide +kernel
theorem dL_law_1014 : decode code 1014 = .ok (.ifCond .ne 15, 3) := by decide +kernel
theorem dL_law_1017 : decode code 1017 = .ok (.aload_n 3, 1) := by decide +kernel
theorem dL_law_1018 : decode code 1018 = .ok (.iconst 0, 1) := by decide +kernel
theorem dL_law_1019 : decode code 1019 = .ok (.laload, 1) := by decide +kernel
theorem dL_law_1020 : decode code 1020 = .ok (.iload 6, 2) := by decide +kernel
theorem dL_law_1022 : decode code 1022 = .ok (.i2l, 1) := by decide +kernel
theorem dL_law_1023 : decode code 1023 = .ok (.lcmp, 1) := by decide +kernel
theorem dL_law_1024 : decode code 1024 = .ok (.ifCond .eq 5, 3) := by decide +kernel
theorem dL_law_1027 : decode code 1027 = .ok (.iconst 0, 1) := by decide +kernel
theorem dL_law_1028 : decode code 1028 = .ok (.ireturn, 1) := by decide +kernel
theorem dL_law_1029 : decode code 1029 = .ok (.goto 253, 3) := by decide +kernel
theorem dL_law_1032 : decode code 1032 = .ok (.aload_n 1, 1) := by decide +kernel
theorem dL_law_1033 : decode code 1033 = .ok (.aload_n 0, 1) := by decide +kernel
theorem dL_law_1034 : decode code 1034 = .ok (.iload 4, 2) := by decide +kernel
theorem dL_law_1036 : decode code 1036 = .ok (.iconst 1, 1) := by decide +kernel
theorem dL_law_1037 : decode code 1037 = .ok (.iadd, 1) := by decide +kernel
theorem dL_law_1038 : decode code 1038 = .ok (.iaload, 1) := by decide +kernel
theorem dL_law_1039 : decode code 1039 = .ok (.invokevirtual 142, 3) := by decide +kernel
theorem dL_law_1042 : decode code 1042 = .ok (.aload_n 2, 1) := by decide +kernel
theorem dL_law_1043 : decode code 1043 = .ok (.aload_n 0, 1) := by decide +kernel
theorem dL_law_1044 : decode code 1044 = .ok (.iload 4, 2) := by decide +kernel
theorem dL_law_1046 : decode code 1046 = .ok (.iconst 1, 1) := by decide +kernel
theorem dL_law_1047 : decode code 1047 = .ok (.iadd, 1) := by decide +kernel
theorem dL_law_1048 : decode code 1048 = .ok (.iaload, 1) := by decide +kernel
theorem dL_law_1049 : decode code 1049 = .ok (.invokevirtual 145, 3) := by decide +kernel
theorem dL_law_1052 : decode code 1052 = .ok (.if_icmp .eq 230, 3) := by decide +kernel
theorem dL_law_1055 : decode code 1055 = .ok (.iconst 0, 1) := by decide +kernel
theorem dL_law_1056 : decode code 1056 = .ok (.ireturn, 1) := by decide +kernel
theorem dL_law_1057 : decode code 1057 = .ok (.aload_n 1, 1) := by decide +kernel
theorem dL_law_1058 : decode code 1058 = .ok (.aload_n 0, 1) := by decide +kernel
theorem dL_law_1059 : decode code 1059 = .ok (.iload 4, 2) := by decide +kernel
theorem dL_law_1061 : decode code 1061 = .ok (.iconst 1, 1) := by decide +kernel
theorem dL_law_1062 : decode code 1062 = .ok (.iadd, 1) := by decide +kernel
theorem dL_law_1063 : decode code 1063 = .ok (.iaload, 1) := by decide +kernel
theorem dL_law_1064 : decode code 1064 = .ok (.invokevirtual 146, 3) := by decide +kernel
theorem dL_law_1067 : decode code 1067 = .ok (.aload_n 2, 1) := by decide +kernel
theorem dL_law_1068 : decode code 1068 = .ok (.aload_n 0, 1) := by decide +kernel
theorem dL_law_1069 : decode code 1069 = .ok (.iload 4, 2) := by decide +kernel
theorem dL_law_1071 : decode code 1071 = .ok (.iconst 1, 1) := by decide +kernel
theorem dL_law_1072 : decode code 1072 = .ok (.iadd, 1) := by decide +kernel
theorem dL_law_1073 : decode code 1073 = .ok (.iaload, 1) := by decide +kernel
theorem dL_law_1074 : decode code 1074 = .ok (.invokevirtual 149, 3) := by decide +kernel
theorem dL_law_1077 : decode code 1077 = .ok (.if_icmp .eq 205, 3) := by decide +kernel
theorem dL_law_1080 : decode code 1080 = .ok (.iconst 0, 1) := by decide +kernel
theorem dL_law_1081 : decode code 1081 = .ok (.ireturn, 1) := by decide +kernel
theorem dL_law_1082 : decode code 1082 = .ok (.aload_n 1, 1) := by decide +kernel
theorem dL_law_1083 : decode code 1083 = .ok (.aload_n 0, 1) := by decide +kernel
theorem dL_law_1084 : decode code 1084 = .ok (.iload 4, 2) := by decide +kernel
theorem dL_law_1086 : decode code 1086 = .ok (.iconst 1, 1) := by decide +kernel
theorem dL_law_1087 : decode code 1087 = .ok (.iadd, 1) := by decide +kernel
theorem dL_law_1088 : decode code 1088 = .ok (.iaload, 1) := by decide +kernel
theorem dL_law_1089 : decode code 1089 = .ok (.aload_n 0, 1) := by decide +kernel
theorem dL_law_1090 : decode code 1090 = .ok (.iload 4, 2) := by decide +kernel
theorem dL_law_1092 : decode code 1092 = .ok (.iconst 2, 1) := by decide +kernel
theorem dL_law_1093 : decode code 1093 = .ok (.iadd, 1) := by decide +kernel
theorem dL_law_1094 : decode code 1094 = .ok (.iaload, 1) := by decide +kernel
theorem dL_law_1095 : decode code 1095 = .ok (.invokevirtual 150, 3) := by decide +kernel
theorem dL_law_1098 : decode code 1098 = .ok (.aload_n 2, 1) := by decide +kernel
theorem dL_law_1099 : decode code 1099 = .ok (.aload_n 0, 1) := by decide +kernel
theorem dL_law_1100 : decode code 1100 = .ok (.iload 4, 2) := by decide +kernel
theorem dL_law_1102 : decode code 1102 = .ok (.iconst 1, 1) := by decide +kernel
theorem dL_law_1103 : decode code 1103 = .ok (.iadd, 1) := by decide +kernel
theorem dL_law_1104 : decode code 1104 = .ok (.iaload, 1) := by decide +kernel
theorem dL_law_1105 : decode code 1105 = .ok (.aload_n 0, 1) := by decide +kernel
theorem dL_law_1106 : decode code 1106 = .ok (.iload 4, 2) := by decide +kernel
theorem dL_law_1108 : decode code 1108 = .ok (.iconst 2, 1) := by decide +kernel
theorem dL_law_1109 : decode code 1109 = .ok (.iadd, 1) := by decide +kernel
theorem dL_law_1110 : decode code 1110 = .ok (.iaload, 1) := by decide +kernel
theorem dL_law_1111 : decode code 1111 = .ok (.invokevirtual 153, 3) := by decide +kernel
theorem dL_law_1114 : decode code 1114 = .ok (.if_icmp .eq 168, 3) := by decide +kernel
theorem dL_law_1117 : decode code 1117 = .ok (.iconst 0, 1) := by decide +kernel
theorem dL_law_1118 : decode code 1118 = .ok (.ireturn, 1) := by decide +kernel
theorem dL_law_1119 : decode code 1119 = .ok (.aload_n 1, 1) := by decide +kernel
theorem dL_law_1120 : decode code 1120 = .ok (.aload_n 0, 1) := by decide +kernel
theorem dL_law_1121 : decode code 1121 = .ok (.iload 4, 2) := by decide +kernel
theorem dL_law_1123 : decode code 1123 = .ok (.iconst 1, 1) := by decide +kernel
theorem dL_law_1124 : decode code 1124 = .ok (.iadd, 1) := by decide +kernel
theorem dL_law_1125 : decode code 1125 = .ok (.iaload, 1) := by decide +kernel
theorem dL_law_1126 : decode code 1126 = .ok (.invokevirtual 154, 3) := by decide +kernel
theorem dL_law_1129 : decode code 1129 = .ok (.aload_n 2, 1) := by decide +kernel
theorem dL_law_1130 : decode code 1130 = .ok (.aload_n 0, 1) := by decide +kernel
theorem dL_law_1131 : decode code 1131 = .ok (.iload 4, 2) := by decide +kernel
theorem dL_law_1133 : decode code 1133 = .ok (.iconst 1, 1) := by decide +kernel
theorem dL_law_1134 : decode code 1134 = .ok (.iadd, 1) := by decide +kernel
theorem dL_law_1135 : decode code 1135 = .ok (.iaload, 1) := by decide +kernel
theorem dL_law_1136 : decode code 1136 = .ok (.invokevirtual 157, 3) := by decide +kernel
theorem dL_law_1139 : decode code 1139 = .ok (.if_icmp .eq 143, 3) := by decide +kernel
theorem dL_law_1142 : decode code 1142 = .ok (.iconst 0, 1) := by decide +kernel
theorem dL_law_1143 : decode code 1143 = .ok (.ireturn, 1) := by decide +kernel
theorem dL_law_1144 : decode code 1144 = .ok (.aload_n 1, 1) := by decide +kernel
theorem dL_law_1145 : decode code 1145 = .ok (.aload_n 0, 1) := by decide +kernel
theorem dL_law_1146 : decode code 1146 = .ok (.iload 4, 2) := by decide +kernel
theorem dL_law_1148 : decode code 1148 = .ok (.iconst 1, 1) := by decide +kernel
theorem dL_law_1149 : decode code 1149 = .ok (.iadd, 1) := by decide +kernel
theorem dL_law_1150 : decode code 1150 = .ok (.iaload, 1) := by decide +kernel
theorem dL_law_1151 : decode code 1151 = .ok (.invokevirtual 158, 3) := by decide +kernel
theorem dL_law_1154 : decode code 1154 = .ok (.aload_n 2, 1) := by decide +kernel
theorem dL_law_1155 : decode code 1155 = .ok (.aload_n 0, 1) := by decide +kernel
theorem dL_law_1156 : decode code 1156 = .ok (.iload 4, 2) := by decide +kernel
theorem dL_law_1158 : decode code 1158 = .ok (.iconst 1, 1) := by decide +kernel
theorem dL_law_1159 : decode code 1159 = .ok (.iadd, 1) := by decide +kernel
theorem dL_law_1160 : decode code 1160 = .ok (.iaload, 1) := by decide +kernel
theorem dL_law_1161 : decode code 1161 = .ok (.invokevirtual 161, 3) := by decide +kernel
theorem dL_law_1164 : decode code 1164 = .ok (.if_icmp .eq 118, 3) := by decide +kernel
theorem dL_law_1167 : decode code 1167 = .ok (.iconst 0, 1) := by decide +kernel
theorem dL_law_1168 : decode code 1168 = .ok (.ireturn, 1) := by decide +kernel
theorem dL_law_1169 : decode code 1169 = .ok (.aload_n 1, 1) := by decide +kernel
theorem dL_law_1170 : decode code 1170 = .ok (.invokevirtual 162, 3) := by decide +kernel
theorem dL_law_1173 : decode code 1173 = .ok (.aload_n 2, 1) := by decide +kernel
theorem dL_law_1174 : decode code 1174 = .ok (.invokevirtual 165, 3) := by decide +kernel
theorem dL_law_1177 : decode code 1177 = .ok (.if_icmp .eq 105, 3) := by decide +kernel
theorem dL_law_1180 : decode code 1180 = .ok (.iconst 0, 1) := by decide +kernel
theorem dL_law_1181 : decode code 1181 = .ok (.ireturn, 1) := by decide +kernel
theorem dL_law_1182 : decode code 1182 = .ok (.aload_n 1, 1) := by decide +kernel
theorem dL_law_1183 : decode code 1183 = .ok (.aload_n 0, 1) := by decide +kernel
theorem dL_law_1184 : decode code 1184 = .ok (.iload 4, 2) := by decide +kernel
theorem dL_law_1186 : decode code 1186 = .ok (.iconst 1, 1) := by decide +kernel
theorem dL_law_1187 : decode code 1187 = .ok (.iadd, 1) := by decide +kernel
theorem dL_law_1188 : decode code 1188 = .ok (.iaload, 1) := by decide +kernel
theorem dL_law_1189 : decode code 1189 = .ok (.invokevirtual 166, 3) := by decide +kernel
theorem dL_law_1192 : decode code 1192 = .ok (.aload_n 2, 1) := by decide +kernel
theorem dL_law_1193 : decode code 1193 = .ok (.aload_n 0, 1) := by decide +kernel
theorem dL_law_1194 : decode code 1194 = .ok (.iload 4, 2) := by decide +kernel
theorem dL_law_1196 : decode code 1196 = .ok (.iconst 1, 1) := by decide +kernel
theorem dL_law_1197 : decode code 1197 = .ok (.iadd, 1) := by decide +kernel
theorem dL_law_1198 : decode code 1198 = .ok (.iaload, 1) := by decide +kernel
theorem dL_law_1199 : decode code 1199 = .ok (.invokevirtual 169, 3) := by decide +kernel
theorem dL_law_1202 : decode code 1202 = .ok (.if_icmp .eq 80, 3) := by decide +kernel
theorem dL_law_1205 : decode code 1205 = .ok (.iconst 0, 1) := by decide +kernel
theorem dL_law_1206 : decode code 1206 = .ok (.ireturn, 1) := by decide +kernel
theorem dL_law_1207 : decode code 1207 = .ok (.aload_n 1, 1) := by decide +kernel
theorem dL_law_1208 : decode code 1208 = .ok (.aload_n 0, 1) := by decide +kernel
theorem dL_law_1209 : decode code 1209 = .ok (.iload 4, 2) := by decide +kernel
theorem dL_law_1211 : decode code 1211 = .ok (.iconst 1, 1) := by decide +kernel
theorem dL_law_1212 : decode code 1212 = .ok (.iadd, 1) := by decide +kernel
theorem dL_law_1213 : decode code 1213 = .ok (.iaload, 1) := by decide +kernel
theorem dL_law_1214 : decode code 1214 = .ok (.invokevirtual 170, 3) := by decide +kernel
theorem dL_law_1217 : decode code 1217 = .ok (.aload_n 2, 1) := by decide +kernel
theorem dL_law_1218 : decode code 1218 = .ok (.aload_n 0, 1) := by decide +kernel
theorem dL_law_1219 : decode code 1219 = .ok (.iload 4, 2) := by decide +kernel
theorem dL_law_1221 : decode code 1221 = .ok (.iconst 1, 1) := by decide +kernel
theorem dL_law_1222 : decode code 1222 = .ok (.iadd, 1) := by decide +kernel
theorem dL_law_1223 : decode code 1223 = .ok (.iaload, 1) := by decide +kernel
theorem dL_law_1224 : decode code 1224 = .ok (.invokevirtual 173, 3) := by decide +kernel
theorem dL_law_1227 : decode code 1227 = .ok (.if_icmp .eq 55, 3) := by decide +kernel
theorem dL_law_1230 : decode code 1230 = .ok (.iconst 0, 1) := by decide +kernel
theorem dL_law_1231 : decode code 1231 = .ok (.ireturn, 1) := by decide +kernel
theorem dL_law_1232 : decode code 1232 = .ok (.aload_n 1, 1) := by decide +kernel
theorem dL_law_1233 : decode code 1233 = .ok (.aload_n 0, 1) := by decide +kernel
theorem dL_law_1234 : decode code 1234 = .ok (.iload 4, 2) := by decide +kernel
theorem dL_law_1236 : decode code 1236 = .ok (.iconst 1, 1) := by decide +kernel
theorem dL_law_1237 : decode code 1237 = .ok (.iadd, 1) := by decide +kernel
theorem dL_law_1238 : decode code 1238 = .ok (.iaload, 1) := by decide +kernel
theorem dL_law_1239 : decode code 1239 = .ok (.invokevirtual 174, 3) := by decide +kernel
theorem dL_law_1242 : decode code 1242 = .ok (.aload_n 2, 1) := by decide +kernel
theorem dL_law_1243 : decode code 1243 = .ok (.aload_n 0, 1) := by decide +kernel
theorem dL_law_1244 : decode code 1244 = .ok (.iload 4, 2) := by decide +kernel
theorem dL_law_1246 : decode code 1246 = .ok (.iconst 1, 1) := by decide +kernel
theorem dL_law_1247 : decode code 1247 = .ok (.iadd, 1) := by decide +kernel
theorem dL_law_1248 : decode code 1248 = .ok (.iaload, 1) := by decide +kernel
theorem dL_law_1249 : decode code 1249 = .ok (.invokevirtual 177, 3) := by decide +kernel
theorem dL_law_1252 : decode code 1252 = .ok (.if_icmp .eq 30, 3) := by decide +kernel
theorem dL_law_1255 : decode code 1255 = .ok (.iconst 0, 1) := by decide +kernel
theorem dL_law_1256 : decode code 1256 = .ok (.ireturn, 1) := by decide +kernel
theorem dL_law_1257 : decode code 1257 = .ok (.aload_n 1, 1) := by decide +kernel
theorem dL_law_1258 : decode code 1258 = .ok (.aload_n 0, 1) := by decide +kernel
theorem dL_law_1259 : decode code 1259 = .ok (.iload 4, 2) := by decide +kernel
theorem dL_law_1261 : decode code 1261 = .ok (.iconst 1, 1) := by decide +kernel
theorem dL_law_1262 : decode code 1262 = .ok (.iadd, 1) := by decide +kernel
theorem dL_law_1263 : decode code 1263 = .ok (.iaload, 1) := by decide +kernel
theorem dL_law_1264 : decode code 1264 = .ok (.invokevirtual 178, 3) := by decide +kernel
theorem dL_law_1267 : decode code 1267 = .ok (.aload_n 2, 1) := by decide +kernel
theorem dL_law_1268 : decode code 1268 = .ok (.aload_n 0, 1) := by decide +kernel
theorem dL_law_1269 : decode code 1269 = .ok (.iload 4, 2) := by decide +kernel
theorem dL_law_1271 : decode code 1271 = .ok (.iconst 1, 1) := by decide +kernel
theorem dL_law_1272 : decode code 1272 = .ok (.iadd, 1) := by decide +kernel
theorem dL_law_1273 : decode code 1273 = .ok (.iaload, 1) := by decide +kernel
theorem dL_law_1274 : decode code 1274 = .ok (.invokevirtual 181, 3) := by decide +kernel
theorem dL_law_1277 : decode code 1277 = .ok (.if_icmp .eq 5, 3) := by decide +kernel
theorem dL_law_1280 : decode code 1280 = .ok (.iconst 0, 1) := by decide +kernel
theorem dL_law_1281 : decode code 1281 = .ok (.ireturn, 1) := by decide +kernel
theorem dL_law_1282 : decode code 1282 = .ok (.iinc 4 6, 3) := by decide +kernel
theorem dL_law_1285 : decode code 1285 = .ok (.goto (-1262), 3) := by decide +kernel
theorem dL_law_1288 : decode code 1288 = .ok (.iconst 1, 1) := by decide +kernel
theorem dL_law_1289 : decode code 1289 = .ok (.ireturn, 1) := by decide +kernel
abbrev M_L_law : mM := (code, 7, RL, some .boolean, false, 2048, 84000, 601024, 7293033)
def lcOk (G : gG) (A : Nat → Prop) (s : State) (b L : Nat) (xs : Nat → Int32) : Prop := va_X b L xs s s.heap ∧ b < s.heap.size ∧ ¬ A b ∧ G.1 1005 = b ∧ L ≤ 3072 ∧ zsOk G s s.heap
def scr9 (xs : Nat → Int32) (i : Int) : Int := (xs i.toNat).toInt
abbrev lvL (i : Int) : List (Nat × vV) := [(0, (95, 1005)), (1, (21, 0)), (2, (22, 192)), (3, (51, 224)), (4, (0, i))]
theorem scr9_R {xs : Nat → Int32} (i : Int) : R32 (scr9 xs i) := congrArg Int32.toInt (Int32.ofInt_toInt _)
theorem R32_lt {x : Int} (hx : R32 x) : x < 2147483648 := ((R32_iff x).mp hx).2
section LAWC
variable {p : Program} {l : Launch} {e9 : Env} {R : Room} {s : State} {m : MethodId} {args : Array Value} {below : List Frame} {meth : Method} {c : Code} {D : va_G} {G : gG} {A : Nat → Prop} {H0 : Heap} {n0 : Int} {M : mM} {Q : State → Prop} {cells slots : Nat} {pc : Nat} {lv : List (Nat × vV)} {st : List vV} {h : hH} {b L : Nat} {xs : Nat → Int32} {i : Int}
theorem z_arg {j : Int} {pc6 : Nat} (ja jb : Nat) (hB : lcOk G A s b L xs) (hi : 0 ≤ i ∧ i + 6 ≤ L) (hj : 0 ≤ j ∧ j ≤ 5) (h0 : lv[ja]? = some (0, (95, 1005))) (h4 : lv[jb]? = some (4, (0, i))) (d0 : decode M.1 pc = .ok (.aload_n 0, 1)) (d1 : decode M.1 (pc + 1) = .ok (.iload 4, 2)) (d3 : decode M.1 (pc + 1 + 2) = .ok (.iconst j, 1)) (d4 : decode M.1 (pc + 1 + 2 + 1) = .ok (.iadd, 1)) (d5 : decode M.1 (pc + 1 + 2 + 1 + 1) = .ok (.iaload, 1)) (e6 : pc + 1 + 2 + 1 + 1 + 1 = pc6) (kk : Wz p l e9 R s m args below meth c D G A H0 true n0 M Q cells slots pc6 lv ((0, scr9 xs (i + j)) :: st) h) : Wz p l e9 R s m args below meth c D G A H0 true n0 M Q cells slots pc lv st h := by
  obtain ⟨b1, b2, b3, b4, b5, b6⟩ := hB
  subst e6
  refine z_aload_n d0 rfl ja h0 (nl rfl) ?_
  refine z_iload d1 jb h4 (Or.inl rfl) ?_
  refine z_iconst d3 ((R32_iff _).mpr ⟨by omega, by omega⟩) ?_
  refine z_iadd d4 ?_
  rw [w32_id (x := i + j) (by omega) (by omega)]
  exact z_sld b1 b2 b3 b4 b5 (by omega) (by omega) d5 kk
theorem kl_V {ci i n N : Nat} {y : MethodName} {My : mM} {o : Int} {as rest : List vV} {X : Option vV × hH} {T : u_T} (hM : Ctr l D G true y My ((10 + ci, o) :: as) h X) (hI : cI y My n) (hn : n = as.length) (hci : ci < 13) (hcl : vwCl[ci]? = some (y.cls, T, N)) (w1 : Cond.methodLink M.2.2.1 i y ∈ wsL_law)
    (hR : (Nat.ble (My.2.2.2.2.2.1 + 1) M.2.2.2.2.2.1 && Nat.ble (8 + (My.2.1 + 11) + My.2.2.2.2.2.2.1) M.2.2.2.2.2.2.1 && Nat.ble (szA rest) 8) = true) (h00 : My.2.2.2.2.2.2.2.1 = 0 ∧ My.2.2.2.2.2.2.2.2 = 0) (hcs : cells ≤ M.2.2.2.2.2.2.2.1 ∧ slots ≤ M.2.2.2.2.2.2.2.2)
    (hd : decode M.1 pc = .ok (.invokevirtual i, 3)) (hrev : as.reverse ++ (10 + ci, o) :: rest = st)
    (kk : Wz p l e9 R s m args below meth c D G A H0 true n0 M Q cells slots (pc + 3) lv (X.1.toList ++ rest) X.2) : Wz p l e9 R s m args below meth c D G A H0 true n0 M Q cells slots pc lv st h := by
  subst hn
  simp only [Bool.and_eq_true, Nat.ble_eq] at hR
  exact z_callV (ci := ci) (i := i) (n := as.length) (N := N) (y := y) (My := My) (o := o) (as := as) (rest := rest) (X := X) (T := T) hM hci hcl w1 hI.1 hI.2.1 hI.2.2.1 hI.2.2.2.1 hI.2.2.2.2 ⟨hR.1.1, hR.1.2⟩ (by rw [h00.1, h00.2]; exact hcs) hR.2 hd hrev (by rw [h00.1, h00.2]; exact kk)
theorem z_b1 {r : Int} (kk : Wz p l e9 R s m args below meth c D G A H0 true n0 M Q cells slots pc lv ((0, r) :: (0, r) :: st) h) : Wz p l e9 R s m args below meth c D G A H0 true n0 M Q cells slots pc lv ((2, r) :: (2, r) :: st) h :=
  z_z2i (z_scast 1 (v := (2, r)) (w := (0, r)) rfl (fun _ => rfl) (fun hb => hT_R32 (n := nn h) (T := 2) (Or.inr rfl) hb) rfl kk)

set_option maxRecDepth 100000 in
set_option maxHeartbeats 4000000 in
theorem lcase_0 (hB : lcOk G A s b L xs) (hI : Inv h) (hi : 0 ≤ i ∧ i + 6 ≤ L) (hroom : cells + 1 ≤ 601024 ∧ slots + 6 ≤ 7293033) (kk : ∀ e cells9 slots9, Inv e → cells9 ≤ cells + 1 → slots9 ≤ slots + 6 → Wz p l e9 R s m args below meth c D G A H0 true n0 M_L_law Q cells9 slots9 1282 (lvL i) [] e) : Wz p l e9 R s m args below meth c D G A H0 true n0 M_L_law Q cells slots 204 (lvL i) [] h := by
  obtain ⟨r, k, e, p1, p2, hI9⟩ := i_feed hI (scr9 xs (i + 1)) (scr9 xs (i + 2)) (scr9 xs (i + 3)) (scr9 xs (i + 4)) (scr9 xs (i + 5))
  refine z_aload_n dL_law_204 rfl 1 rfl (nl rfl) ?_
  refine z_arg (j := 1) 0 4 hB hi (by decide) rfl rfl dL_law_205 dL_law_206 dL_law_208 dL_law_209 dL_law_210 rfl ?_
  refine z_arg (j := 2) 0 4 hB hi (by decide) rfl rfl dL_law_211 dL_law_212 dL_law_214 dL_law_215 dL_law_216 rfl ?_
  refine z_arg (j := 3) 0 4 hB hi (by decide) rfl rfl dL_law_217 dL_law_218 dL_law_220 dL_law_221 dL_law_222 rfl ?_
  refine z_arg (j := 4) 0 4 hB hi (by decide) rfl rfl dL_law_223 dL_law_224 dL_law_226 dL_law_227 dL_law_228 rfl ?_
  refine z_arg (j := 5) 0 4 hB hi (by decide) rfl rfl dL_law_229 dL_law_230 dL_law_232 dL_law_233 dL_law_234 rfl ?_
  refine kl_V (ci := 11) (o := 0) (T := TX11) (as := [(0, scr9 xs (i + 1)), (0, scr9 xs (i + 2)), (0, scr9 xs (i + 3)), (0, scr9 xs (i + 4)), (0, scr9 xs (i + 5))]) (rest := []) (X := (some (0, r), k)) (oX11_feed p1) gX11_feed rfl (by decide) rfl (wsl_9 _ (List.mem_of_getElem? (i := 21) rfl)) rfl ⟨rfl, rfl⟩ ⟨Nat.le_of_succ_le hroom.1, Nat.le_trans (Nat.le_add_right slots 6) hroom.2⟩ dL_law_235 rfl ?_
  refine z_aload_n dL_law_238 rfl 2 rfl (nl rfl) ?_
  refine z_arg (j := 1) 0 4 hB hi (by decide) rfl rfl dL_law_239 dL_law_240 dL_law_242 dL_law_243 dL_law_244 rfl ?_
  refine z_arg (j := 2) 0 4 hB hi (by decide) rfl rfl dL_law_245 dL_law_246 dL_law_248 dL_law_249 dL_law_250 rfl ?_
  refine z_arg (j := 3) 0 4 hB hi (by decide) rfl rfl dL_law_251 dL_law_252 dL_law_254 dL_law_255 dL_law_256 rfl ?_
  refine z_arg (j := 4) 0 4 hB hi (by decide) rfl rfl dL_law_257 dL_law_258 dL_law_260 dL_law_261 dL_law_262 rfl ?_
  refine z_arg (j := 5) 0 4 hB hi (by decide) rfl rfl dL_law_263 dL_law_264 dL_law_266 dL_law_267 dL_law_268 rfl ?_
  refine kl_V (ci := 12) (o := 192) (T := TX12) (as := [(0, scr9 xs (i + 1)), (0, scr9 xs (i + 2)), (0, scr9 xs (i + 3)), (0, scr9 xs (i + 4)), (0, scr9 xs (i + 5))]) (rest := [(0, r)]) (X := (some (0, r), e)) (oX12_feed p2) gX12_feed rfl (by decide) rfl (wsl_10 _ (List.mem_of_getElem? (i := 7) rfl)) rfl ⟨rfl, rfl⟩ ⟨Nat.le_of_succ_le hroom.1, Nat.le_trans (Nat.le_add_right slots 6) hroom.2⟩ dL_law_269 rfl ?_
  exact z_icmp_eq dL_law_272 (tgt := 1282) (by decide) (fun _ => kk e cells slots hI9 (Nat.le_succ _) (Nat.le_add_right _ _)) (fun hc => absurd rfl hc)
set_option maxRecDepth 100000 in
set_option maxHeartbeats 4000000 in
theorem lcase_1 (hB : lcOk G A s b L xs) (hI : Inv h) (hi : 0 ≤ i ∧ i + 6 ≤ L) (hroom : cells + 1 ≤ 601024 ∧ slots + 6 ≤ 7293033) (kk : ∀ e cells9 slots9, Inv e → cells9 ≤ cells + 1 → slots9 ≤ slots + 6 → Wz p l e9 R s m args below meth c D G A H0 true n0 M_L_law Q cells9 slots9 1282 (lvL i) [] e) : Wz p l e9 R s m args below meth c D G A H0 true n0 M_L_law Q cells slots 277 (lvL i) [] h := by
  obtain ⟨r, k, e, p1, p2, hI9⟩ := i_end hI (scr9 xs (i + 1))
  refine z_aload_n dL_law_277 rfl 1 rfl (nl rfl) ?_
  refine z_arg (j := 1) 0 4 hB hi (by decide) rfl rfl dL_law_278 dL_law_279 dL_law_281 dL_law_282 dL_law_283 rfl ?_
  refine kl_V (ci := 11) (o := 0) (T := TX11) (as := [(0, scr9 xs (i + 1))]) (rest := []) (X := (some (2, r), k)) (oX11_end p1) gX11_end rfl (by decide) rfl (wsl_10 _ (List.mem_of_getElem? (i := 17) rfl)) rfl ⟨rfl, rfl⟩ ⟨Nat.le_of_succ_le hroom.1, Nat.le_trans (Nat.le_add_right slots 6) hroom.2⟩ dL_law_284 rfl ?_
  refine z_aload_n dL_law_287 rfl 2 rfl (nl rfl) ?_
  refine z_arg (j := 1) 0 4 hB hi (by decide) rfl rfl dL_law_288 dL_law_289 dL_law_291 dL_law_292 dL_law_293 rfl ?_
  refine kl_V (ci := 12) (o := 192) (T := TX12) (as := [(0, scr9 xs (i + 1))]) (rest := [(2, r)]) (X := (some (2, r), e)) (oX12_end p2) gX12_end rfl (by decide) rfl (wsl_10 _ (List.mem_of_getElem? (i := 21) rfl)) rfl ⟨rfl, rfl⟩ ⟨Nat.le_of_succ_le hroom.1, Nat.le_trans (Nat.le_add_right slots 6) hroom.2⟩ dL_law_294 rfl ?_
  refine z_b1 ?_
  exact z_icmp_eq dL_law_297 (tgt := 1282) (by decide) (fun _ => kk e cells slots hI9 (Nat.le_succ _) (Nat.le_add_right _ _)) (fun hc => absurd rfl hc)
set_option maxRecDepth 100000 in
set_option maxHeartbeats 4000000 in
theorem lcase_2 (hB : lcOk G A s b L xs) (hI : Inv h) (hi : 0 ≤ i ∧ i + 6 ≤ L) (hroom : cells + 1 ≤ 601024 ∧ slots + 6 ≤ 7293033) (kk : ∀ e cells9 slots9, Inv e → cells9 ≤ cells + 1 → slots9 ≤ slots + 6 → Wz p l e9 R s m args below meth c D G A H0 true n0 M_L_law Q cells9 slots9 1282 (lvL i) [] e) : Wz p l e9 R s m args below meth c D G A H0 true n0 M_L_law Q cells slots 302 (lvL i) [] h := by
  obtain ⟨r, k, e, p1, p2, hI9⟩ := i_schema hI 
  refine z_aload_n dL_law_302 rfl 1 rfl (nl rfl) ?_
  refine kl_V (ci := 11) (o := 0) (T := TX11) (as := []) (rest := []) (X := (some (0, r), k)) (oX11_schema p1) gX11_schema rfl (by decide) rfl (wsl_11 _ (List.mem_of_getElem? (i := 1) rfl)) rfl ⟨rfl, rfl⟩ ⟨Nat.le_of_succ_le hroom.1, Nat.le_trans (Nat.le_add_right slots 6) hroom.2⟩ dL_law_303 rfl ?_
  refine z_aload_n dL_law_306 rfl 2 rfl (nl rfl) ?_
  refine kl_V (ci := 12) (o := 192) (T := TX12) (as := []) (rest := [(0, r)]) (X := (some (0, r), e)) (oX12_schema p2) gX12_schema rfl (by decide) rfl (wsl_23 _ (List.mem_of_getElem? (i := 8) rfl)) rfl ⟨rfl, rfl⟩ ⟨Nat.le_of_succ_le hroom.1, Nat.le_trans (Nat.le_add_right slots 6) hroom.2⟩ dL_law_307 rfl ?_
  exact z_icmp_eq dL_law_310 (tgt := 1282) (by decide) (fun _ => kk e cells slots hI9 (Nat.le_succ _) (Nat.le_add_right _ _)) (fun hc => absurd rfl hc)
set_option maxRecDepth 100000 in
set_option maxHeartbeats 4000000 in
theorem lcase_3 (hB : lcOk G A s b L xs) (hI : Inv h) (hi : 0 ≤ i ∧ i + 6 ≤ L) (hroom : cells + 1 ≤ 601024 ∧ slots + 6 ≤ 7293033) (kk : ∀ e cells9 slots9, Inv e → cells9 ≤ cells + 1 → slots9 ≤ slots + 6 → Wz p l e9 R s m args below meth c D G A H0 true n0 M_L_law Q cells9 slots9 1282 (lvL i) [] e) : Wz p l e9 R s m args below meth c D G A H0 true n0 M_L_law Q cells slots 315 (lvL i) [] h := by
  obtain ⟨r, e, p1, p2, hI9⟩ := i_fault hI 
  refine z_aload_n dL_law_315 rfl 1 rfl (nl rfl) ?_
  refine kl_V (ci := 11) (o := 0) (T := TX11) (as := []) (rest := []) (X := (some (0, r), h)) (oX11_fault p1) gX11_fault rfl (by decide) rfl (wsl_28 _ (List.mem_of_getElem? (i := 16) rfl)) rfl ⟨rfl, rfl⟩ ⟨Nat.le_of_succ_le hroom.1, Nat.le_trans (Nat.le_add_right slots 6) hroom.2⟩ dL_law_316 rfl ?_
  refine z_aload_n dL_law_319 rfl 2 rfl (nl rfl) ?_
  refine kl_V (ci := 12) (o := 192) (T := TX12) (as := []) (rest := [(0, r)]) (X := (some (0, r), e)) (oX12_fault p2) gX12_fault rfl (by decide) rfl (wsl_28 _ (List.mem_of_getElem? (i := 21) rfl)) rfl ⟨rfl, rfl⟩ ⟨Nat.le_of_succ_le hroom.1, Nat.le_trans (Nat.le_add_right slots 6) hroom.2⟩ dL_law_320 rfl ?_
  exact z_icmp_eq dL_law_323 (tgt := 1282) (by decide) (fun _ => kk e cells slots hI9 (Nat.le_succ _) (Nat.le_add_right _ _)) (fun hc => absurd rfl hc)
set_option maxRecDepth 100000 in
set_option maxHeartbeats 4000000 in
theorem lcase_4 (hB : lcOk G A s b L xs) (hI : Inv h) (hi : 0 ≤ i ∧ i + 6 ≤ L) (hroom : cells + 1 ≤ 601024 ∧ slots + 6 ≤ 7293033) (kk : ∀ e cells9 slots9, Inv e → cells9 ≤ cells + 1 → slots9 ≤ slots + 6 → Wz p l e9 R s m args below meth c D G A H0 true n0 M_L_law Q cells9 slots9 1282 (lvL i) [] e) : Wz p l e9 R s m args below meth c D G A H0 true n0 M_L_law Q cells slots 328 (lvL i) [] h := by
  obtain ⟨r, k, e, q1, q2, hI9⟩ := i_decide hI 1
  have p1 : fX11_statement h 0 = some (r, k) := by unfold fX11_statement; rw [q1]; rfl
  have p2 : fX12_statement k 192 = some (r, e) := by rw [if_neg (by decide)] at q2; exact q2
  refine z_aload_n dL_law_328 rfl 1 rfl (nl rfl) ?_
  refine kl_V (ci := 11) (o := 0) (T := TX11) (as := []) (rest := []) (X := (some (0, r), k)) (oX11_statement p1) gX11_statement rfl (by decide) rfl (wsl_29 _ (List.mem_of_getElem? (i := 1) rfl)) rfl ⟨rfl, rfl⟩ ⟨Nat.le_of_succ_le hroom.1, Nat.le_trans (Nat.le_add_right slots 6) hroom.2⟩ dL_law_329 rfl ?_
  refine z_aload_n dL_law_332 rfl 2 rfl (nl rfl) ?_
  refine kl_V (ci := 12) (o := 192) (T := TX12) (as := []) (rest := [(0, r)]) (X := (some (0, r), e)) (oX12_statement p2) gX12_statement rfl (by decide) rfl (wsl_40 _ (List.mem_of_getElem? (i := 7) rfl)) rfl ⟨rfl, rfl⟩ ⟨Nat.le_of_succ_le hroom.1, Nat.le_trans (Nat.le_add_right slots 6) hroom.2⟩ dL_law_333 rfl ?_
  exact z_icmp_eq dL_law_336 (tgt := 1282) (by decide) (fun _ => kk e cells slots hI9 (Nat.le_succ _) (Nat.le_add_right _ _)) (fun hc => absurd rfl hc)
set_option maxRecDepth 100000 in
set_option maxHeartbeats 4000000 in
theorem lcase_5 (hB : lcOk G A s b L xs) (hI : Inv h) (hi : 0 ≤ i ∧ i + 6 ≤ L) (hroom : cells + 1 ≤ 601024 ∧ slots + 6 ≤ 7293033) (kk : ∀ e cells9 slots9, Inv e → cells9 ≤ cells + 1 → slots9 ≤ slots + 6 → Wz p l e9 R s m args below meth c D G A H0 true n0 M_L_law Q cells9 slots9 1282 (lvL i) [] e) : Wz p l e9 R s m args below meth c D G A H0 true n0 M_L_law Q cells slots 341 (lvL i) [] h := by
  obtain ⟨r, k, e, q1, q2, hI9⟩ := i_decide hI 0
  have p1 : fX11_would h 0 = some (r, k) := by unfold fX11_would; rw [q1]; rfl
  have p2 : fX12_would k 192 = some (r, e) := by rw [if_pos rfl] at q2; exact q2
  refine z_aload_n dL_law_341 rfl 1 rfl (nl rfl) ?_
  refine kl_V (ci := 11) (o := 0) (T := TX11) (as := []) (rest := []) (X := (some (0, r), k)) (oX11_would p1) gX11_would rfl (by decide) rfl (wsl_47 _ (List.mem_of_getElem? (i := 2) rfl)) rfl ⟨rfl, rfl⟩ ⟨Nat.le_of_succ_le hroom.1, Nat.le_trans (Nat.le_add_right slots 6) hroom.2⟩ dL_law_342 rfl ?_
  refine z_aload_n dL_law_345 rfl 2 rfl (nl rfl) ?_
  refine kl_V (ci := 12) (o := 192) (T := TX12) (as := []) (rest := [(0, r)]) (X := (some (0, r), e)) (oX12_would p2) gX12_would rfl (by decide) rfl (wsl_47 _ (List.mem_of_getElem? (i := 6) rfl)) rfl ⟨rfl, rfl⟩ ⟨Nat.le_of_succ_le hroom.1, Nat.le_trans (Nat.le_add_right slots 6) hroom.2⟩ dL_law_346 rfl ?_
  exact z_icmp_eq dL_law_349 (tgt := 1282) (by decide) (fun _ => kk e cells slots hI9 (Nat.le_succ _) (Nat.le_add_right _ _)) (fun hc => absurd rfl hc)
set_option maxRecDepth 100000 in
set_option maxHeartbeats 4000000 in
theorem lcase_6 (hB : lcOk G A s b L xs) (hI : Inv h) (hi : 0 ≤ i ∧ i + 6 ≤ L) (hroom : cells + 1 ≤ 601024 ∧ slots + 6 ≤ 7293033) (kk : ∀ e cells9 slots9, Inv e → cells9 ≤ cells + 1 → slots9 ≤ slots + 6 → Wz p l e9 R s m args below meth c D G A H0 true n0 M_L_law Q cells9 slots9 1282 (lvL i) [] e) : Wz p l e9 R s m args below meth c D G A H0 true n0 M_L_law Q cells slots 354 (lvL i) [] h := by
  obtain ⟨r, e, p1, p2, hI9⟩ := i_judged hI (scr9 xs (i + 1))
  refine z_aload_n dL_law_354 rfl 1 rfl (nl rfl) ?_
  refine z_arg (j := 1) 0 4 hB hi (by decide) rfl rfl dL_law_355 dL_law_356 dL_law_358 dL_law_359 dL_law_360 rfl ?_
  refine kl_V (ci := 11) (o := 0) (T := TX11) (as := [(0, scr9 xs (i + 1))]) (rest := []) (X := (some (0, r), h)) (oX11_judged p1) gX11_judged rfl (by decide) rfl (wsl_47 _ (List.mem_of_getElem? (i := 10) rfl)) rfl ⟨rfl, rfl⟩ ⟨Nat.le_of_succ_le hroom.1, Nat.le_trans (Nat.le_add_right slots 6) hroom.2⟩ dL_law_361 rfl ?_
  refine z_aload_n dL_law_364 rfl 2 rfl (nl rfl) ?_
  refine z_arg (j := 1) 0 4 hB hi (by decide) rfl rfl dL_law_365 dL_law_366 dL_law_368 dL_law_369 dL_law_370 rfl ?_
  refine kl_V (ci := 12) (o := 192) (T := TX12) (as := [(0, scr9 xs (i + 1))]) (rest := [(0, r)]) (X := (some (0, r), e)) (oX12_judged p2) gX12_judged rfl (by decide) rfl (wsl_47 _ (List.mem_of_getElem? (i := 19) rfl)) rfl ⟨rfl, rfl⟩ ⟨Nat.le_of_succ_le hroom.1, Nat.le_trans (Nat.le_add_right slots 6) hroom.2⟩ dL_law_371 rfl ?_
  exact z_icmp_eq dL_law_374 (tgt := 1282) (by decide) (fun _ => kk e cells slots hI9 (Nat.le_succ _) (Nat.le_add_right _ _)) (fun hc => absurd rfl hc)
set_option maxRecDepth 100000 in
set_option maxHeartbeats 4000000 in
theorem lcase_7 (hB : lcOk G A s b L xs) (hI : Inv h) (hi : 0 ≤ i ∧ i + 6 ≤ L) (hroom : cells + 1 ≤ 601024 ∧ slots + 6 ≤ 7293033) (kk : ∀ e cells9 slots9, Inv e → cells9 ≤ cells + 1 → slots9 ≤ slots + 6 → Wz p l e9 R s m args below meth c D G A H0 true n0 M_L_law Q cells9 slots9 1282 (lvL i) [] e) : Wz p l e9 R s m args below meth c D G A H0 true n0 M_L_law Q cells slots 379 (lvL i) [] h := by
  obtain ⟨r, e, p1, p2, hI9⟩ := i_goes hI (scr9 xs (i + 1))
  refine z_aload_n dL_law_379 rfl 1 rfl (nl rfl) ?_
  refine z_arg (j := 1) 0 4 hB hi (by decide) rfl rfl dL_law_380 dL_law_381 dL_law_383 dL_law_384 dL_law_385 rfl ?_
  refine kl_V (ci := 11) (o := 0) (T := TX11) (as := [(0, scr9 xs (i + 1))]) (rest := []) (X := (some (0, r), h)) (oX11_goes p1) gX11_goes rfl (by decide) rfl (wsl_47 _ (List.mem_of_getElem? (i := 23) rfl)) rfl ⟨rfl, rfl⟩ ⟨Nat.le_of_succ_le hroom.1, Nat.le_trans (Nat.le_add_right slots 6) hroom.2⟩ dL_law_386 rfl ?_
  refine z_aload_n dL_law_389 rfl 2 rfl (nl rfl) ?_
  refine z_arg (j := 1) 0 4 hB hi (by decide) rfl rfl dL_law_390 dL_law_391 dL_law_393 dL_law_394 dL_law_395 rfl ?_
  refine kl_V (ci := 12) (o := 192) (T := TX12) (as := [(0, scr9 xs (i + 1))]) (rest := [(0, r)]) (X := (some (0, r), e)) (oX12_goes p2) gX12_goes rfl (by decide) rfl (wsl_48 _ (List.mem_of_getElem? (i := 5) rfl)) rfl ⟨rfl, rfl⟩ ⟨Nat.le_of_succ_le hroom.1, Nat.le_trans (Nat.le_add_right slots 6) hroom.2⟩ dL_law_396 rfl ?_
  exact z_icmp_eq dL_law_399 (tgt := 1282) (by decide) (fun _ => kk e cells slots hI9 (Nat.le_succ _) (Nat.le_add_right _ _)) (fun hc => absurd rfl hc)
set_option maxRecDepth 100000 in
set_option maxHeartbeats 4000000 in
theorem lcase_8 (hB : lcOk G A s b L xs) (hI : Inv h) (hi : 0 ≤ i ∧ i + 6 ≤ L) (hroom : cells + 1 ≤ 601024 ∧ slots + 6 ≤ 7293033) (kk : ∀ e cells9 slots9, Inv e → cells9 ≤ cells + 1 → slots9 ≤ slots + 6 → Wz p l e9 R s m args below meth c D G A H0 true n0 M_L_law Q cells9 slots9 1282 (lvL i) [] e) : Wz p l e9 R s m args below meth c D G A H0 true n0 M_L_law Q cells slots 404 (lvL i) [] h := by
  obtain ⟨r, e, p1, p2, hI9⟩ := i_steps hI (scr9 xs (i + 1))
  refine z_aload_n dL_law_404 rfl 1 rfl (nl rfl) ?_
  refine z_arg (j := 1) 0 4 hB hi (by decide) rfl rfl dL_law_405 dL_law_406 dL_law_408 dL_law_409 dL_law_410 rfl ?_
  refine kl_V (ci := 11) (o := 0) (T := TX11) (as := [(0, scr9 xs (i + 1))]) (rest := []) (X := (some (0, r), h)) (oX11_steps p1) gX11_steps rfl (by decide) rfl (wsl_48 _ (List.mem_of_getElem? (i := 9) rfl)) rfl ⟨rfl, rfl⟩ ⟨Nat.le_of_succ_le hroom.1, Nat.le_trans (Nat.le_add_right slots 6) hroom.2⟩ dL_law_411 rfl ?_
  refine z_aload_n dL_law_414 rfl 2 rfl (nl rfl) ?_
  refine z_arg (j := 1) 0 4 hB hi (by decide) rfl rfl dL_law_415 dL_law_416 dL_law_418 dL_law_419 dL_law_420 rfl ?_
  refine kl_V (ci := 12) (o := 192) (T := TX12) (as := [(0, scr9 xs (i + 1))]) (rest := [(0, r)]) (X := (some (0, r), e)) (oX12_steps p2) gX12_steps rfl (by decide) rfl (wsl_48 _ (List.mem_of_getElem? (i := 14) rfl)) rfl ⟨rfl, rfl⟩ ⟨Nat.le_of_succ_le hroom.1, Nat.le_trans (Nat.le_add_right slots 6) hroom.2⟩ dL_law_421 rfl ?_
  exact z_icmp_eq dL_law_424 (tgt := 1282) (by decide) (fun _ => kk e cells slots hI9 (Nat.le_succ _) (Nat.le_add_right _ _)) (fun hc => absurd rfl hc)
set_option maxRecDepth 100000 in
set_option maxHeartbeats 4000000 in
theorem lcase_9 (hB : lcOk G A s b L xs) (hI : Inv h) (hi : 0 ≤ i ∧ i + 6 ≤ L) (hroom : cells + 1 ≤ 601024 ∧ slots + 6 ≤ 7293033) (kk : ∀ e cells9 slots9, Inv e → cells9 ≤ cells + 1 → slots9 ≤ slots + 6 → Wz p l e9 R s m args below meth c D G A H0 true n0 M_L_law Q cells9 slots9 1282 (lvL i) [] e) : Wz p l e9 R s m args below meth c D G A H0 true n0 M_L_law Q cells slots 429 (lvL i) [] h := by
  obtain ⟨r, e, p1, p2, hI9⟩ := i_violated hI (scr9 xs (i + 1)) (scr9 xs (i + 2))
  refine z_aload_n dL_law_429 rfl 1 rfl (nl rfl) ?_
  refine z_arg (j := 1) 0 4 hB hi (by decide) rfl rfl dL_law_430 dL_law_431 dL_law_433 dL_law_434 dL_law_435 rfl ?_
  refine z_arg (j := 2) 0 4 hB hi (by decide) rfl rfl dL_law_436 dL_law_437 dL_law_439 dL_law_440 dL_law_441 rfl ?_
  refine kl_V (ci := 11) (o := 0) (T := TX11) (as := [(0, scr9 xs (i + 1)), (0, scr9 xs (i + 2))]) (rest := []) (X := (some (0, r), h)) (oX11_violated p1) gX11_violated rfl (by decide) rfl (wsl_48 _ (List.mem_of_getElem? (i := 18) rfl)) rfl ⟨rfl, rfl⟩ ⟨Nat.le_of_succ_le hroom.1, Nat.le_trans (Nat.le_add_right slots 6) hroom.2⟩ dL_law_442 rfl ?_
  refine z_aload_n dL_law_445 rfl 2 rfl (nl rfl) ?_
  refine z_arg (j := 1) 0 4 hB hi (by decide) rfl rfl dL_law_446 dL_law_447 dL_law_449 dL_law_450 dL_law_451 rfl ?_
  refine z_arg (j := 2) 0 4 hB hi (by decide) rfl rfl dL_law_452 dL_law_453 dL_law_455 dL_law_456 dL_law_457 rfl ?_
  refine kl_V (ci := 12) (o := 192) (T := TX12) (as := [(0, scr9 xs (i + 1)), (0, scr9 xs (i + 2))]) (rest := [(0, r)]) (X := (some (0, r), e)) (oX12_violated p2) gX12_violated rfl (by decide) rfl (wsl_49 _ (List.mem_of_getElem? (i := 0) rfl)) rfl ⟨rfl, rfl⟩ ⟨Nat.le_of_succ_le hroom.1, Nat.le_trans (Nat.le_add_right slots 6) hroom.2⟩ dL_law_458 rfl ?_
  exact z_icmp_eq dL_law_461 (tgt := 1282) (by decide) (fun _ => kk e cells slots hI9 (Nat.le_succ _) (Nat.le_add_right _ _)) (fun hc => absurd rfl hc)
set_option maxRecDepth 100000 in
set_option maxHeartbeats 4000000 in
theorem lcase_10 (hB : lcOk G A s b L xs) (hI : Inv h) (hi : 0 ≤ i ∧ i + 6 ≤ L) (hroom : cells + 1 ≤ 601024 ∧ slots + 6 ≤ 7293033) (kk : ∀ e cells9 slots9, Inv e → cells9 ≤ cells + 1 → slots9 ≤ slots + 6 → Wz p l e9 R s m args below meth c D G A H0 true n0 M_L_law Q cells9 slots9 1282 (lvL i) [] e) : Wz p l e9 R s m args below meth c D G A H0 true n0 M_L_law Q cells slots 466 (lvL i) [] h := by
  obtain ⟨r, k, e, p1, p2, hI9⟩ := i_begin hI 
  refine z_aload_n dL_law_466 rfl 1 rfl (nl rfl) ?_
  refine kl_V (ci := 11) (o := 0) (T := TX11) (as := []) (rest := []) (X := (some (0, r), k)) (oX11_begin p1) gX11_begin rfl (by decide) rfl (wsl_49 _ (List.mem_of_getElem? (i := 4) rfl)) rfl ⟨rfl, rfl⟩ ⟨Nat.le_of_succ_le hroom.1, Nat.le_trans (Nat.le_add_right slots 6) hroom.2⟩ dL_law_467 rfl ?_
  refine z_aload_n dL_law_470 rfl 2 rfl (nl rfl) ?_
  refine kl_V (ci := 12) (o := 192) (T := TX12) (as := []) (rest := [(0, r)]) (X := (some (0, r), e)) (oX12_begin p2) gX12_begin rfl (by decide) rfl (wsl_49 _ (List.mem_of_getElem? (i := 13) rfl)) rfl ⟨rfl, rfl⟩ ⟨Nat.le_of_succ_le hroom.1, Nat.le_trans (Nat.le_add_right slots 6) hroom.2⟩ dL_law_471 rfl ?_
  exact z_icmp_eq dL_law_474 (tgt := 1282) (by decide) (fun _ => kk e cells slots hI9 (Nat.le_succ _) (Nat.le_add_right _ _)) (fun hc => absurd rfl hc)
set_option maxRecDepth 100000 in
set_option maxHeartbeats 4000000 in
theorem lcase_11 (hB : lcOk G A s b L xs) (hI : Inv h) (hi : 0 ≤ i ∧ i + 6 ≤ L) (hroom : cells + 1 ≤ 601024 ∧ slots + 6 ≤ 7293033) (kk : ∀ e cells9 slots9, Inv e → cells9 ≤ cells + 1 → slots9 ≤ slots + 6 → Wz p l e9 R s m args below meth c D G A H0 true n0 M_L_law Q cells9 slots9 1282 (lvL i) [] e) : Wz p l e9 R s m args below meth c D G A H0 true n0 M_L_law Q cells slots 479 (lvL i) [] h := by
  obtain ⟨r, k, e, p1, p2, hI9⟩ := i_commit hI 
  refine z_aload_n dL_law_479 rfl 1 rfl (nl rfl) ?_
  refine kl_V (ci := 11) (o := 0) (T := TX11) (as := []) (rest := []) (X := (some (0, r), k)) (oX11_commit p1) gX11_commit rfl (by decide) rfl (wsl_50 _ (List.mem_of_getElem? (i := 5) rfl)) rfl ⟨rfl, rfl⟩ ⟨Nat.le_of_succ_le hroom.1, Nat.le_trans (Nat.le_add_right slots 6) hroom.2⟩ dL_law_480 rfl ?_
  refine z_aload_n dL_law_483 rfl 2 rfl (nl rfl) ?_
  refine kl_V (ci := 12) (o := 192) (T := TX12) (as := []) (rest := [(0, r)]) (X := (some (0, r), e)) (oX12_commit p2) gX12_commit rfl (by decide) rfl (wsl_50 _ (List.mem_of_getElem? (i := 11) rfl)) rfl ⟨rfl, rfl⟩ ⟨Nat.le_of_succ_le hroom.1, Nat.le_trans (Nat.le_add_right slots 6) hroom.2⟩ dL_law_484 rfl ?_
  exact z_icmp_eq dL_law_487 (tgt := 1282) (by decide) (fun _ => kk e cells slots hI9 (Nat.le_succ _) (Nat.le_add_right _ _)) (fun hc => absurd rfl hc)
set_option maxRecDepth 100000 in
set_option maxHeartbeats 4000000 in
theorem lcase_12 (hB : lcOk G A s b L xs) (hI : Inv h) (hi : 0 ≤ i ∧ i + 6 ≤ L) (hroom : cells + 1 ≤ 601024 ∧ slots + 6 ≤ 7293033) (kk : ∀ e cells9 slots9, Inv e → cells9 ≤ cells + 1 → slots9 ≤ slots + 6 → Wz p l e9 R s m args below meth c D G A H0 true n0 M_L_law Q cells9 slots9 1282 (lvL i) [] e) : Wz p l e9 R s m args below meth c D G A H0 true n0 M_L_law Q cells slots 492 (lvL i) [] h := by
  obtain ⟨r, k, e, p1, p2, hI9⟩ := i_back hI 
  refine z_aload_n dL_law_492 rfl 1 rfl (nl rfl) ?_
  refine kl_V (ci := 11) (o := 0) (T := TX11) (as := []) (rest := []) (X := (some (0, r), k)) (oX11_back p1) gX11_back rfl (by decide) rfl (wsl_51 _ (List.mem_of_getElem? (i := 3) rfl)) rfl ⟨rfl, rfl⟩ ⟨Nat.le_of_succ_le hroom.1, Nat.le_trans (Nat.le_add_right slots 6) hroom.2⟩ dL_law_493 rfl ?_
  refine z_aload_n dL_law_496 rfl 2 rfl (nl rfl) ?_
  refine kl_V (ci := 12) (o := 192) (T := TX12) (as := []) (rest := [(0, r)]) (X := (some (0, r), e)) (oX12_back p2) gX12_back rfl (by decide) rfl (wsl_51 _ (List.mem_of_getElem? (i := 12) rfl)) rfl ⟨rfl, rfl⟩ ⟨Nat.le_of_succ_le hroom.1, Nat.le_trans (Nat.le_add_right slots 6) hroom.2⟩ dL_law_497 rfl ?_
  exact z_icmp_eq dL_law_500 (tgt := 1282) (by decide) (fun _ => kk e cells slots hI9 (Nat.le_succ _) (Nat.le_add_right _ _)) (fun hc => absurd rfl hc)
set_option maxRecDepth 100000 in
set_option maxHeartbeats 4000000 in
theorem lcase_13 (hB : lcOk G A s b L xs) (hI : Inv h) (hi : 0 ≤ i ∧ i + 6 ≤ L) (hroom : cells + 1 ≤ 601024 ∧ slots + 6 ≤ 7293033) (kk : ∀ e cells9 slots9, Inv e → cells9 ≤ cells + 1 → slots9 ≤ slots + 6 → Wz p l e9 R s m args below meth c D G A H0 true n0 M_L_law Q cells9 slots9 1282 (lvL i) [] e) : Wz p l e9 R s m args below meth c D G A H0 true n0 M_L_law Q cells slots 505 (lvL i) [] h := by
  obtain ⟨r, k, e, p1, p2, hI9⟩ := i_undo hI 
  refine z_aload_n dL_law_505 rfl 1 rfl (nl rfl) ?_
  refine kl_V (ci := 11) (o := 0) (T := TX11) (as := []) (rest := []) (X := (some (0, r), k)) (oX11_undo p1) gX11_undo rfl (by decide) rfl (wsl_51 _ (List.mem_of_getElem? (i := 20) rfl)) rfl ⟨rfl, rfl⟩ ⟨Nat.le_of_succ_le hroom.1, Nat.le_trans (Nat.le_add_right slots 6) hroom.2⟩ dL_law_506 rfl ?_
  refine z_aload_n dL_law_509 rfl 2 rfl (nl rfl) ?_
  refine kl_V (ci := 12) (o := 192) (T := TX12) (as := []) (rest := [(0, r)]) (X := (some (0, r), e)) (oX12_undo p2) gX12_undo rfl (by decide) rfl (wsl_52 _ (List.mem_of_getElem? (i := 0) rfl)) rfl ⟨rfl, rfl⟩ ⟨Nat.le_of_succ_le hroom.1, Nat.le_trans (Nat.le_add_right slots 6) hroom.2⟩ dL_law_510 rfl ?_
  exact z_icmp_eq dL_law_513 (tgt := 1282) (by decide) (fun _ => kk e cells slots hI9 (Nat.le_succ _) (Nat.le_add_right _ _)) (fun hc => absurd rfl hc)
set_option maxRecDepth 100000 in
set_option maxHeartbeats 4000000 in
theorem lcase_14 (hB : lcOk G A s b L xs) (hI : Inv h) (hi : 0 ≤ i ∧ i + 6 ≤ L) (hroom : cells + 1 ≤ 601024 ∧ slots + 6 ≤ 7293033) (kk : ∀ e cells9 slots9, Inv e → cells9 ≤ cells + 1 → slots9 ≤ slots + 6 → Wz p l e9 R s m args below meth c D G A H0 true n0 M_L_law Q cells9 slots9 1282 (lvL i) [] e) : Wz p l e9 R s m args below meth c D G A H0 true n0 M_L_law Q cells slots 518 (lvL i) [] h := by
  obtain ⟨r, k, e, p1, p2, hI9⟩ := i_now hI (scr9 xs (i + 1))
  refine z_aload_n dL_law_518 rfl 1 rfl (nl rfl) ?_
  refine z_arg (j := 1) 0 4 hB hi (by decide) rfl rfl dL_law_519 dL_law_520 dL_law_522 dL_law_523 dL_law_524 rfl ?_
  refine kl_V (ci := 11) (o := 0) (T := TX11) (as := [(0, scr9 xs (i + 1))]) (rest := []) (X := (some (0, r), k)) (oX11_now p1) gX11_now rfl (by decide) rfl (wsl_52 _ (List.mem_of_getElem? (i := 4) rfl)) rfl ⟨rfl, rfl⟩ ⟨Nat.le_of_succ_le hroom.1, Nat.le_trans (Nat.le_add_right slots 6) hroom.2⟩ dL_law_525 rfl ?_
  refine z_aload_n dL_law_528 rfl 2 rfl (nl rfl) ?_
  refine z_arg (j := 1) 0 4 hB hi (by decide) rfl rfl dL_law_529 dL_law_530 dL_law_532 dL_law_533 dL_law_534 rfl ?_
  refine kl_V (ci := 12) (o := 192) (T := TX12) (as := [(0, scr9 xs (i + 1))]) (rest := [(0, r)]) (X := (some (0, r), e)) (oX12_now p2) gX12_now rfl (by decide) rfl (wsl_52 _ (List.mem_of_getElem? (i := 10) rfl)) rfl ⟨rfl, rfl⟩ ⟨Nat.le_of_succ_le hroom.1, Nat.le_trans (Nat.le_add_right slots 6) hroom.2⟩ dL_law_535 rfl ?_
  exact z_icmp_eq dL_law_538 (tgt := 1282) (by decide) (fun _ => kk e cells slots hI9 (Nat.le_succ _) (Nat.le_add_right _ _)) (fun hc => absurd rfl hc)
set_option maxRecDepth 100000 in
set_option maxHeartbeats 4000000 in
theorem lcase_15 (hB : lcOk G A s b L xs) (hI : Inv h) (hi : 0 ≤ i ∧ i + 6 ≤ L) (hroom : cells + 1 ≤ 601024 ∧ slots + 6 ≤ 7293033) (kk : ∀ e cells9 slots9, Inv e → cells9 ≤ cells + 1 → slots9 ≤ slots + 6 → Wz p l e9 R s m args below meth c D G A H0 true n0 M_L_law Q cells9 slots9 1282 (lvL i) [] e) : Wz p l e9 R s m args below meth c D G A H0 true n0 M_L_law Q cells slots 543 (lvL i) [] h := by
  obtain ⟨r, e, p1, p2, hI9⟩ := i_rows hI (scr9 xs (i + 1))
  refine z_aload_n dL_law_543 rfl 1 rfl (nl rfl) ?_
  refine z_arg (j := 1) 0 4 hB hi (by decide) rfl rfl dL_law_544 dL_law_545 dL_law_547 dL_law_548 dL_law_549 rfl ?_
  refine kl_V (ci := 11) (o := 0) (T := TX11) (as := [(0, scr9 xs (i + 1))]) (rest := []) (X := (some (0, r), h)) (oX11_rows p1) gX11_rows rfl (by decide) rfl (wsl_52 _ (List.mem_of_getElem? (i := 18) rfl)) rfl ⟨rfl, rfl⟩ ⟨Nat.le_of_succ_le hroom.1, Nat.le_trans (Nat.le_add_right slots 6) hroom.2⟩ dL_law_550 rfl ?_
  refine z_aload_n dL_law_553 rfl 2 rfl (nl rfl) ?_
  refine z_arg (j := 1) 0 4 hB hi (by decide) rfl rfl dL_law_554 dL_law_555 dL_law_557 dL_law_558 dL_law_559 rfl ?_
  refine kl_V (ci := 12) (o := 192) (T := TX12) (as := [(0, scr9 xs (i + 1))]) (rest := [(0, r)]) (X := (some (0, r), e)) (oX12_rows p2) gX12_rows rfl (by decide) rfl (wsl_53 _ (List.mem_of_getElem? (i := 3) rfl)) rfl ⟨rfl, rfl⟩ ⟨Nat.le_of_succ_le hroom.1, Nat.le_trans (Nat.le_add_right slots 6) hroom.2⟩ dL_law_560 rfl ?_
  exact z_icmp_eq dL_law_563 (tgt := 1282) (by decide) (fun _ => kk e cells slots hI9 (Nat.le_succ _) (Nat.le_add_right _ _)) (fun hc => absurd rfl hc)
set_option maxRecDepth 100000 in
set_option maxHeartbeats 4000000 in
theorem lcase_16 (hB : lcOk G A s b L xs) (hI : Inv h) (hi : 0 ≤ i ∧ i + 6 ≤ L) (hroom : cells + 1 ≤ 601024 ∧ slots + 6 ≤ 7293033) (kk : ∀ e cells9 slots9, Inv e → cells9 ≤ cells + 1 → slots9 ≤ slots + 6 → Wz p l e9 R s m args below meth c D G A H0 true n0 M_L_law Q cells9 slots9 1282 (lvL i) [] e) : Wz p l e9 R s m args below meth c D G A H0 true n0 M_L_law Q cells slots 568 (lvL i) [] h := by
  obtain ⟨r, e, p1, p2, hI9⟩ := i_row hI (scr9 xs (i + 1)) (scr9 xs (i + 2)) (R32_lt (scr9_R _))
  refine z_aload_n dL_law_568 rfl 1 rfl (nl rfl) ?_
  refine z_arg (j := 1) 0 4 hB hi (by decide) rfl rfl dL_law_569 dL_law_570 dL_law_572 dL_law_573 dL_law_574 rfl ?_
  refine z_arg (j := 2) 0 4 hB hi (by decide) rfl rfl dL_law_575 dL_law_576 dL_law_578 dL_law_579 dL_law_580 rfl ?_
  refine kl_V (ci := 11) (o := 0) (T := TX11) (as := [(0, scr9 xs (i + 1)), (0, scr9 xs (i + 2))]) (rest := []) (X := (some (0, r), h)) (oX11_row p1) gX11_row rfl (by decide) rfl (wsl_53 _ (List.mem_of_getElem? (i := 11) rfl)) rfl ⟨rfl, rfl⟩ ⟨Nat.le_of_succ_le hroom.1, Nat.le_trans (Nat.le_add_right slots 6) hroom.2⟩ dL_law_581 rfl ?_
  refine z_aload_n dL_law_584 rfl 2 rfl (nl rfl) ?_
  refine z_arg (j := 1) 0 4 hB hi (by decide) rfl rfl dL_law_585 dL_law_586 dL_law_588 dL_law_589 dL_law_590 rfl ?_
  refine z_arg (j := 2) 0 4 hB hi (by decide) rfl rfl dL_law_591 dL_law_592 dL_law_594 dL_law_595 dL_law_596 rfl ?_
  refine kl_V (ci := 12) (o := 192) (T := TX12) (as := [(0, scr9 xs (i + 1)), (0, scr9 xs (i + 2))]) (rest := [(0, r)]) (X := (some (0, r), e)) (oX12_row p2) gX12_row rfl (by decide) rfl (wsl_53 _ (List.mem_of_getElem? (i := 19) rfl)) rfl ⟨rfl, rfl⟩ ⟨Nat.le_of_succ_le hroom.1, Nat.le_trans (Nat.le_add_right slots 6) hroom.2⟩ dL_law_597 rfl ?_
  exact z_icmp_eq dL_law_600 (tgt := 1282) (by decide) (fun _ => kk e cells slots hI9 (Nat.le_succ _) (Nat.le_add_right _ _)) (fun hc => absurd rfl hc)
set_option maxRecDepth 100000 in
set_option maxHeartbeats 4000000 in
theorem lcase_17 (hB : lcOk G A s b L xs) (hI : Inv h) (hi : 0 ≤ i ∧ i + 6 ≤ L) (hroom : cells + 1 ≤ 601024 ∧ slots + 6 ≤ 7293033) (kk : ∀ e cells9 slots9, Inv e → cells9 ≤ cells + 1 → slots9 ≤ slots + 6 → Wz p l e9 R s m args below meth c D G A H0 true n0 M_L_law Q cells9 slots9 1282 (lvL i) [] e) : Wz p l e9 R s m args below meth c D G A H0 true n0 M_L_law Q cells slots 605 (lvL i) [] h := by
  obtain ⟨r, e, p1, p2, hI9⟩ := i_tableOf hI (scr9 xs (i + 1))
  refine z_aload_n dL_law_605 rfl 1 rfl (nl rfl) ?_
  refine z_arg (j := 1) 0 4 hB hi (by decide) rfl rfl dL_law_606 dL_law_607 dL_law_609 dL_law_610 dL_law_611 rfl ?_
  refine kl_V (ci := 11) (o := 0) (T := TX11) (as := [(0, scr9 xs (i + 1))]) (rest := []) (X := (some (0, r), h)) (oX11_tableOf p1) gX11_tableOf rfl (by decide) rfl (wsl_53 _ (List.mem_of_getElem? (i := 23) rfl)) rfl ⟨rfl, rfl⟩ ⟨Nat.le_of_succ_le hroom.1, Nat.le_trans (Nat.le_add_right slots 6) hroom.2⟩ dL_law_612 rfl ?_
  refine z_aload_n dL_law_615 rfl 2 rfl (nl rfl) ?_
  refine z_arg (j := 1) 0 4 hB hi (by decide) rfl rfl dL_law_616 dL_law_617 dL_law_619 dL_law_620 dL_law_621 rfl ?_
  refine kl_V (ci := 12) (o := 192) (T := TX12) (as := [(0, scr9 xs (i + 1))]) (rest := [(0, r)]) (X := (some (0, r), e)) (oX12_tableOf p2) gX12_tableOf rfl (by decide) rfl (wsl_54 _ (List.mem_of_getElem? (i := 8) rfl)) rfl ⟨rfl, rfl⟩ ⟨Nat.le_of_succ_le hroom.1, Nat.le_trans (Nat.le_add_right slots 6) hroom.2⟩ dL_law_622 rfl ?_
  exact z_icmp_eq dL_law_625 (tgt := 1282) (by decide) (fun _ => kk e cells slots hI9 (Nat.le_succ _) (Nat.le_add_right _ _)) (fun hc => absurd rfl hc)
set_option maxRecDepth 100000 in
set_option maxHeartbeats 4000000 in
theorem lcase_19 (hB : lcOk G A s b L xs) (hI : Inv h) (hi : 0 ≤ i ∧ i + 6 ≤ L) (hroom : cells + 1 ≤ 601024 ∧ slots + 6 ≤ 7293033) (kk : ∀ e cells9 slots9, Inv e → cells9 ≤ cells + 1 → slots9 ≤ slots + 6 → Wz p l e9 R s m args below meth c D G A H0 true n0 M_L_law Q cells9 slots9 1282 (lvL i) [] e) : Wz p l e9 R s m args below meth c D G A H0 true n0 M_L_law Q cells slots 698 (lvL i) [] h := by
  obtain ⟨r, e, p1, p2, hI9⟩ := i_refers hI (scr9 xs (i + 1)) (scr9 xs (i + 2))
  refine z_aload_n dL_law_698 rfl 1 rfl (nl rfl) ?_
  refine z_arg (j := 1) 0 4 hB hi (by decide) rfl rfl dL_law_699 dL_law_700 dL_law_702 dL_law_703 dL_law_704 rfl ?_
  refine z_arg (j := 2) 0 4 hB hi (by decide) rfl rfl dL_law_705 dL_law_706 dL_law_708 dL_law_709 dL_law_710 rfl ?_
  refine kl_V (ci := 11) (o := 0) (T := TX11) (as := [(0, scr9 xs (i + 1)), (0, scr9 xs (i + 2))]) (rest := []) (X := (some (0, r), h)) (oX11_refers p1) gX11_refers rfl (by decide) rfl (wsl_55 _ (List.mem_of_getElem? (i := 21) rfl)) rfl ⟨rfl, rfl⟩ ⟨Nat.le_of_succ_le hroom.1, Nat.le_trans (Nat.le_add_right slots 6) hroom.2⟩ dL_law_711 rfl ?_
  refine z_aload_n dL_law_714 rfl 2 rfl (nl rfl) ?_
  refine z_arg (j := 1) 0 4 hB hi (by decide) rfl rfl dL_law_715 dL_law_716 dL_law_718 dL_law_719 dL_law_720 rfl ?_
  refine z_arg (j := 2) 0 4 hB hi (by decide) rfl rfl dL_law_721 dL_law_722 dL_law_724 dL_law_725 dL_law_726 rfl ?_
  refine kl_V (ci := 12) (o := 192) (T := TX12) (as := [(0, scr9 xs (i + 1)), (0, scr9 xs (i + 2))]) (rest := [(0, r)]) (X := (some (0, r), e)) (oX12_refers p2) gX12_refers rfl (by decide) rfl (wsl_56 _ (List.mem_of_getElem? (i := 4) rfl)) rfl ⟨rfl, rfl⟩ ⟨Nat.le_of_succ_le hroom.1, Nat.le_trans (Nat.le_add_right slots 6) hroom.2⟩ dL_law_727 rfl ?_
  exact z_icmp_eq dL_law_730 (tgt := 1282) (by decide) (fun _ => kk e cells slots hI9 (Nat.le_succ _) (Nat.le_add_right _ _)) (fun hc => absurd rfl hc)
set_option maxRecDepth 100000 in
set_option maxHeartbeats 4000000 in
theorem lcase_20 (hB : lcOk G A s b L xs) (hI : Inv h) (hi : 0 ≤ i ∧ i + 6 ≤ L) (hroom : cells + 1 ≤ 601024 ∧ slots + 6 ≤ 7293033) (kk : ∀ e cells9 slots9, Inv e → cells9 ≤ cells + 1 → slots9 ≤ slots + 6 → Wz p l e9 R s m args below meth c D G A H0 true n0 M_L_law Q cells9 slots9 1282 (lvL i) [] e) : Wz p l e9 R s m args below meth c D G A H0 true n0 M_L_law Q cells slots 735 (lvL i) [] h := by
  obtain ⟨r, e, p1, p2, hI9⟩ := i_referred hI (scr9 xs (i + 1))
  refine z_aload_n dL_law_735 rfl 1 rfl (nl rfl) ?_
  refine z_arg (j := 1) 0 4 hB hi (by decide) rfl rfl dL_law_736 dL_law_737 dL_law_739 dL_law_740 dL_law_741 rfl ?_
  refine kl_V (ci := 11) (o := 0) (T := TX11) (as := [(0, scr9 xs (i + 1))]) (rest := []) (X := (some (0, r), h)) (oX11_referred p1) gX11_referred rfl (by decide) rfl (wsl_56 _ (List.mem_of_getElem? (i := 8) rfl)) rfl ⟨rfl, rfl⟩ ⟨Nat.le_of_succ_le hroom.1, Nat.le_trans (Nat.le_add_right slots 6) hroom.2⟩ dL_law_742 rfl ?_
  refine z_aload_n dL_law_745 rfl 2 rfl (nl rfl) ?_
  refine z_arg (j := 1) 0 4 hB hi (by decide) rfl rfl dL_law_746 dL_law_747 dL_law_749 dL_law_750 dL_law_751 rfl ?_
  refine kl_V (ci := 12) (o := 192) (T := TX12) (as := [(0, scr9 xs (i + 1))]) (rest := [(0, r)]) (X := (some (0, r), e)) (oX12_referred p2) gX12_referred rfl (by decide) rfl (wsl_56 _ (List.mem_of_getElem? (i := 18) rfl)) rfl ⟨rfl, rfl⟩ ⟨Nat.le_of_succ_le hroom.1, Nat.le_trans (Nat.le_add_right slots 6) hroom.2⟩ dL_law_752 rfl ?_
  exact z_icmp_eq dL_law_755 (tgt := 1282) (by decide) (fun _ => kk e cells slots hI9 (Nat.le_succ _) (Nat.le_add_right _ _)) (fun hc => absurd rfl hc)
set_option maxRecDepth 100000 in
set_option maxHeartbeats 4000000 in
theorem lcase_21 (hB : lcOk G A s b L xs) (hI : Inv h) (hi : 0 ≤ i ∧ i + 6 ≤ L) (hroom : cells + 1 ≤ 601024 ∧ slots + 6 ≤ 7293033) (kk : ∀ e cells9 slots9, Inv e → cells9 ≤ cells + 1 → slots9 ≤ slots + 6 → Wz p l e9 R s m args below meth c D G A H0 true n0 M_L_law Q cells9 slots9 1282 (lvL i) [] e) : Wz p l e9 R s m args below meth c D G A H0 true n0 M_L_law Q cells slots 760 (lvL i) [] h := by
  obtain ⟨r, e, p1, p2, hI9⟩ := i_table hI (scr9 xs (i + 1)) (scr9 xs (i + 2))
  refine z_aload_n dL_law_760 rfl 1 rfl (nl rfl) ?_
  refine z_arg (j := 1) 0 4 hB hi (by decide) rfl rfl dL_law_761 dL_law_762 dL_law_764 dL_law_765 dL_law_766 rfl ?_
  refine z_arg (j := 2) 0 4 hB hi (by decide) rfl rfl dL_law_767 dL_law_768 dL_law_770 dL_law_771 dL_law_772 rfl ?_
  refine kl_V (ci := 11) (o := 0) (T := TX11) (as := [(0, scr9 xs (i + 1)), (0, scr9 xs (i + 2))]) (rest := []) (X := (some (0, r), h)) (oX11_table p1) gX11_table rfl (by decide) rfl (wsl_57 _ (List.mem_of_getElem? (i := 2) rfl)) rfl ⟨rfl, rfl⟩ ⟨Nat.le_of_succ_le hroom.1, Nat.le_trans (Nat.le_add_right slots 6) hroom.2⟩ dL_law_773 rfl ?_
  refine z_aload_n dL_law_776 rfl 2 rfl (nl rfl) ?_
  refine z_arg (j := 1) 0 4 hB hi (by decide) rfl rfl dL_law_777 dL_law_778 dL_law_780 dL_law_781 dL_law_782 rfl ?_
  refine z_arg (j := 2) 0 4 hB hi (by decide) rfl rfl dL_law_783 dL_law_784 dL_law_786 dL_law_787 dL_law_788 rfl ?_
  refine kl_V (ci := 12) (o := 192) (T := TX12) (as := [(0, scr9 xs (i + 1)), (0, scr9 xs (i + 2))]) (rest := [(0, r)]) (X := (some (0, r), e)) (oX12_table p2) gX12_table rfl (by decide) rfl (wsl_57 _ (List.mem_of_getElem? (i := 19) rfl)) rfl ⟨rfl, rfl⟩ ⟨Nat.le_of_succ_le hroom.1, Nat.le_trans (Nat.le_add_right slots 6) hroom.2⟩ dL_law_789 rfl ?_
  exact z_icmp_eq dL_law_792 (tgt := 1282) (by decide) (fun _ => kk e cells slots hI9 (Nat.le_succ _) (Nat.le_add_right _ _)) (fun hc => absurd rfl hc)
set_option maxRecDepth 100000 in
set_option maxHeartbeats 4000000 in
theorem lcase_23 (hB : lcOk G A s b L xs) (hI : Inv h) (hi : 0 ≤ i ∧ i + 6 ≤ L) (hroom : cells + 1 ≤ 601024 ∧ slots + 6 ≤ 7293033) (kk : ∀ e cells9 slots9, Inv e → cells9 ≤ cells + 1 → slots9 ≤ slots + 6 → Wz p l e9 R s m args below meth c D G A H0 true n0 M_L_law Q cells9 slots9 1282 (lvL i) [] e) : Wz p l e9 R s m args below meth c D G A H0 true n0 M_L_law Q cells slots 877 (lvL i) [] h := by
  obtain ⟨r, e, p1, p2, hI9⟩ := i_ref hI (scr9 xs (i + 1)) (scr9 xs (i + 2))
  refine z_aload_n dL_law_877 rfl 1 rfl (nl rfl) ?_
  refine z_arg (j := 1) 0 4 hB hi (by decide) rfl rfl dL_law_878 dL_law_879 dL_law_881 dL_law_882 dL_law_883 rfl ?_
  refine z_arg (j := 2) 0 4 hB hi (by decide) rfl rfl dL_law_884 dL_law_885 dL_law_887 dL_law_888 dL_law_889 rfl ?_
  refine kl_V (ci := 11) (o := 0) (T := TX11) (as := [(0, scr9 xs (i + 1)), (0, scr9 xs (i + 2))]) (rest := []) (X := (some (0, r), h)) (oX11_ref p1) gX11_ref rfl (by decide) rfl (wsl_59 _ (List.mem_of_getElem? (i := 1) rfl)) rfl ⟨rfl, rfl⟩ ⟨Nat.le_of_succ_le hroom.1, Nat.le_trans (Nat.le_add_right slots 6) hroom.2⟩ dL_law_890 rfl ?_
  refine z_aload_n dL_law_893 rfl 2 rfl (nl rfl) ?_
  refine z_arg (j := 1) 0 4 hB hi (by decide) rfl rfl dL_law_894 dL_law_895 dL_law_897 dL_law_898 dL_law_899 rfl ?_
  refine z_arg (j := 2) 0 4 hB hi (by decide) rfl rfl dL_law_900 dL_law_901 dL_law_903 dL_law_904 dL_law_905 rfl ?_
  refine kl_V (ci := 12) (o := 192) (T := TX12) (as := [(0, scr9 xs (i + 1)), (0, scr9 xs (i + 2))]) (rest := [(0, r)]) (X := (some (0, r), e)) (oX12_ref p2) gX12_ref rfl (by decide) rfl (wsl_59 _ (List.mem_of_getElem? (i := 6) rfl)) rfl ⟨rfl, rfl⟩ ⟨Nat.le_of_succ_le hroom.1, Nat.le_trans (Nat.le_add_right slots 6) hroom.2⟩ dL_law_906 rfl ?_
  exact z_icmp_eq dL_law_909 (tgt := 1282) (by decide) (fun _ => kk e cells slots hI9 (Nat.le_succ _) (Nat.le_add_right _ _)) (fun hc => absurd rfl hc)
set_option maxRecDepth 100000 in
set_option maxHeartbeats 4000000 in
theorem lcase_24 (hB : lcOk G A s b L xs) (hI : Inv h) (hi : 0 ≤ i ∧ i + 6 ≤ L) (hroom : cells + 1 ≤ 601024 ∧ slots + 6 ≤ 7293033) (kk : ∀ e cells9 slots9, Inv e → cells9 ≤ cells + 1 → slots9 ≤ slots + 6 → Wz p l e9 R s m args below meth c D G A H0 true n0 M_L_law Q cells9 slots9 1282 (lvL i) [] e) : Wz p l e9 R s m args below meth c D G A H0 true n0 M_L_law Q cells slots 914 (lvL i) [] h := by
  obtain ⟨r, k, e, p1, p2, hI9⟩ := i_order hI 
  refine z_aload_n dL_law_914 rfl 1 rfl (nl rfl) ?_
  refine kl_V (ci := 11) (o := 0) (T := TX11) (as := []) (rest := []) (X := (some (0, r), k)) (oX11_order p1) gX11_order rfl (by decide) rfl (wsl_59 _ (List.mem_of_getElem? (i := 10) rfl)) rfl ⟨rfl, rfl⟩ ⟨Nat.le_of_succ_le hroom.1, Nat.le_trans (Nat.le_add_right slots 6) hroom.2⟩ dL_law_915 rfl ?_
  refine z_aload_n dL_law_918 rfl 2 rfl (nl rfl) ?_
  refine kl_V (ci := 12) (o := 192) (T := TX12) (as := []) (rest := [(0, r)]) (X := (some (0, r), e)) (oX12_order p2) gX12_order rfl (by decide) rfl (wsl_60 _ (List.mem_of_getElem? (i := 0) rfl)) rfl ⟨rfl, rfl⟩ ⟨Nat.le_of_succ_le hroom.1, Nat.le_trans (Nat.le_add_right slots 6) hroom.2⟩ dL_law_919 rfl ?_
  exact z_icmp_eq dL_law_922 (tgt := 1282) (by decide) (fun _ => kk e cells slots hI9 (Nat.le_succ _) (Nat.le_add_right _ _)) (fun hc => absurd rfl hc)
set_option maxRecDepth 100000 in
set_option maxHeartbeats 4000000 in
theorem lcase_25 (hB : lcOk G A s b L xs) (hI : Inv h) (hi : 0 ≤ i ∧ i + 6 ≤ L) (hroom : cells + 1 ≤ 601024 ∧ slots + 6 ≤ 7293033) (kk : ∀ e cells9 slots9, Inv e → cells9 ≤ cells + 1 → slots9 ≤ slots + 6 → Wz p l e9 R s m args below meth c D G A H0 true n0 M_L_law Q cells9 slots9 1282 (lvL i) [] e) : Wz p l e9 R s m args below meth c D G A H0 true n0 M_L_law Q cells slots 927 (lvL i) [] h := by
  obtain ⟨r, e, p1, p2, hI9⟩ := i_orderAt hI (scr9 xs (i + 1))
  refine z_aload_n dL_law_927 rfl 1 rfl (nl rfl) ?_
  refine z_arg (j := 1) 0 4 hB hi (by decide) rfl rfl dL_law_928 dL_law_929 dL_law_931 dL_law_932 dL_law_933 rfl ?_
  refine kl_V (ci := 11) (o := 0) (T := TX11) (as := [(0, scr9 xs (i + 1))]) (rest := []) (X := (some (0, r), h)) (oX11_orderAt p1) gX11_orderAt rfl (by decide) rfl (wsl_60 _ (List.mem_of_getElem? (i := 8) rfl)) rfl ⟨rfl, rfl⟩ ⟨Nat.le_of_succ_le hroom.1, Nat.le_trans (Nat.le_add_right slots 6) hroom.2⟩ dL_law_934 rfl ?_
  refine z_aload_n dL_law_937 rfl 2 rfl (nl rfl) ?_
  refine z_arg (j := 1) 0 4 hB hi (by decide) rfl rfl dL_law_938 dL_law_939 dL_law_941 dL_law_942 dL_law_943 rfl ?_
  refine kl_V (ci := 12) (o := 192) (T := TX12) (as := [(0, scr9 xs (i + 1))]) (rest := [(0, r)]) (X := (some (0, r), e)) (oX12_orderAt p2) gX12_orderAt rfl (by decide) rfl (wsl_60 _ (List.mem_of_getElem? (i := 12) rfl)) rfl ⟨rfl, rfl⟩ ⟨Nat.le_of_succ_le hroom.1, Nat.le_trans (Nat.le_add_right slots 6) hroom.2⟩ dL_law_944 rfl ?_
  exact z_icmp_eq dL_law_947 (tgt := 1282) (by decide) (fun _ => kk e cells slots hI9 (Nat.le_succ _) (Nat.le_add_right _ _)) (fun hc => absurd rfl hc)
set_option maxRecDepth 100000 in
set_option maxHeartbeats 4000000 in
theorem lcase_27 (hB : lcOk G A s b L xs) (hI : Inv h) (hi : 0 ≤ i ∧ i + 6 ≤ L) (hroom : cells + 1 ≤ 601024 ∧ slots + 6 ≤ 7293033) (kk : ∀ e cells9 slots9, Inv e → cells9 ≤ cells + 1 → slots9 ≤ slots + 6 → Wz p l e9 R s m args below meth c D G A H0 true n0 M_L_law Q cells9 slots9 1282 (lvL i) [] e) : Wz p l e9 R s m args below meth c D G A H0 true n0 M_L_law Q cells slots 1032 (lvL i) [] h := by
  obtain ⟨r, k, e, p1, p2, hI9⟩ := i_tag hI (scr9 xs (i + 1))
  refine z_aload_n dL_law_1032 rfl 1 rfl (nl rfl) ?_
  refine z_arg (j := 1) 0 4 hB hi (by decide) rfl rfl dL_law_1033 dL_law_1034 dL_law_1036 dL_law_1037 dL_law_1038 rfl ?_
  refine kl_V (ci := 11) (o := 0) (T := TX11) (as := [(0, scr9 xs (i + 1))]) (rest := []) (X := (some (0, r), k)) (oX11_tag p1) gX11_tag rfl (by decide) rfl (wsl_61 _ (List.mem_of_getElem? (i := 14) rfl)) rfl ⟨rfl, rfl⟩ ⟨Nat.le_of_succ_le hroom.1, Nat.le_trans (Nat.le_add_right slots 6) hroom.2⟩ dL_law_1039 rfl ?_
  refine z_aload_n dL_law_1042 rfl 2 rfl (nl rfl) ?_
  refine z_arg (j := 1) 0 4 hB hi (by decide) rfl rfl dL_law_1043 dL_law_1044 dL_law_1046 dL_law_1047 dL_law_1048 rfl ?_
  refine kl_V (ci := 12) (o := 192) (T := TX12) (as := [(0, scr9 xs (i + 1))]) (rest := [(0, r)]) (X := (some (0, r), e)) (oX12_tag p2) gX12_tag rfl (by decide) rfl (wsl_62 _ (List.mem_of_getElem? (i := 8) rfl)) rfl ⟨rfl, rfl⟩ ⟨Nat.le_of_succ_le hroom.1, Nat.le_trans (Nat.le_add_right slots 6) hroom.2⟩ dL_law_1049 rfl ?_
  exact z_icmp_eq dL_law_1052 (tgt := 1282) (by decide) (fun _ => kk e cells slots hI9 (Nat.le_succ _) (Nat.le_add_right _ _)) (fun hc => absurd rfl hc)
set_option maxRecDepth 100000 in
set_option maxHeartbeats 4000000 in
theorem lcase_28 (hB : lcOk G A s b L xs) (hI : Inv h) (hi : 0 ≤ i ∧ i + 6 ≤ L) (hroom : cells + 1 ≤ 601024 ∧ slots + 6 ≤ 7293033) (kk : ∀ e cells9 slots9, Inv e → cells9 ≤ cells + 1 → slots9 ≤ slots + 6 → Wz p l e9 R s m args below meth c D G A H0 true n0 M_L_law Q cells9 slots9 1282 (lvL i) [] e) : Wz p l e9 R s m args below meth c D G A H0 true n0 M_L_law Q cells slots 1057 (lvL i) [] h := by
  obtain ⟨r, e, p1, p2, hI9⟩ := i_byteAt hI (scr9 xs (i + 1))
  refine z_aload_n dL_law_1057 rfl 1 rfl (nl rfl) ?_
  refine z_arg (j := 1) 0 4 hB hi (by decide) rfl rfl dL_law_1058 dL_law_1059 dL_law_1061 dL_law_1062 dL_law_1063 rfl ?_
  refine kl_V (ci := 11) (o := 0) (T := TX11) (as := [(0, scr9 xs (i + 1))]) (rest := []) (X := (some (0, r), h)) (oX11_byteAt p1) gX11_byteAt rfl (by decide) rfl (wsl_63 _ (List.mem_of_getElem? (i := 2) rfl)) rfl ⟨rfl, rfl⟩ ⟨Nat.le_of_succ_le hroom.1, Nat.le_trans (Nat.le_add_right slots 6) hroom.2⟩ dL_law_1064 rfl ?_
  refine z_aload_n dL_law_1067 rfl 2 rfl (nl rfl) ?_
  refine z_arg (j := 1) 0 4 hB hi (by decide) rfl rfl dL_law_1068 dL_law_1069 dL_law_1071 dL_law_1072 dL_law_1073 rfl ?_
  refine kl_V (ci := 12) (o := 192) (T := TX12) (as := [(0, scr9 xs (i + 1))]) (rest := [(0, r)]) (X := (some (0, r), e)) (oX12_byteAt p2) gX12_byteAt rfl (by decide) rfl (wsl_63 _ (List.mem_of_getElem? (i := 6) rfl)) rfl ⟨rfl, rfl⟩ ⟨Nat.le_of_succ_le hroom.1, Nat.le_trans (Nat.le_add_right slots 6) hroom.2⟩ dL_law_1074 rfl ?_
  exact z_icmp_eq dL_law_1077 (tgt := 1282) (by decide) (fun _ => kk e cells slots hI9 (Nat.le_succ _) (Nat.le_add_right _ _)) (fun hc => absurd rfl hc)
set_option maxRecDepth 100000 in
set_option maxHeartbeats 4000000 in
theorem lcase_29 (hB : lcOk G A s b L xs) (hI : Inv h) (hi : 0 ≤ i ∧ i + 6 ≤ L) (hroom : cells + 1 ≤ 601024 ∧ slots + 6 ≤ 7293033) (kk : ∀ e cells9 slots9, Inv e → cells9 ≤ cells + 1 → slots9 ≤ slots + 6 → Wz p l e9 R s m args below meth c D G A H0 true n0 M_L_law Q cells9 slots9 1282 (lvL i) [] e) : Wz p l e9 R s m args below meth c D G A H0 true n0 M_L_law Q cells slots 1082 (lvL i) [] h := by
  obtain ⟨r, k, e, p1, p2, hI9⟩ := i_drawn hI (scr9 xs (i + 1)) (scr9 xs (i + 2))
  refine z_aload_n dL_law_1082 rfl 1 rfl (nl rfl) ?_
  refine z_arg (j := 1) 0 4 hB hi (by decide) rfl rfl dL_law_1083 dL_law_1084 dL_law_1086 dL_law_1087 dL_law_1088 rfl ?_
  refine z_arg (j := 2) 0 4 hB hi (by decide) rfl rfl dL_law_1089 dL_law_1090 dL_law_1092 dL_law_1093 dL_law_1094 rfl ?_
  refine kl_V (ci := 11) (o := 0) (T := TX11) (as := [(0, scr9 xs (i + 1)), (0, scr9 xs (i + 2))]) (rest := []) (X := (some (0, r), k)) (oX11_drawn p1) gX11_drawn rfl (by decide) rfl (wsl_63 _ (List.mem_of_getElem? (i := 10) rfl)) rfl ⟨rfl, rfl⟩ ⟨Nat.le_of_succ_le hroom.1, Nat.le_trans (Nat.le_add_right slots 6) hroom.2⟩ dL_law_1095 rfl ?_
  refine z_aload_n dL_law_1098 rfl 2 rfl (nl rfl) ?_
  refine z_arg (j := 1) 0 4 hB hi (by decide) rfl rfl dL_law_1099 dL_law_1100 dL_law_1102 dL_law_1103 dL_law_1104 rfl ?_
  refine z_arg (j := 2) 0 4 hB hi (by decide) rfl rfl dL_law_1105 dL_law_1106 dL_law_1108 dL_law_1109 dL_law_1110 rfl ?_
  refine kl_V (ci := 12) (o := 192) (T := TX12) (as := [(0, scr9 xs (i + 1)), (0, scr9 xs (i + 2))]) (rest := [(0, r)]) (X := (some (0, r), e)) (oX12_drawn p2) gX12_drawn rfl (by decide) rfl (wsl_64 _ (List.mem_of_getElem? (i := 8) rfl)) rfl ⟨rfl, rfl⟩ ⟨Nat.le_of_succ_le hroom.1, Nat.le_trans (Nat.le_add_right slots 6) hroom.2⟩ dL_law_1111 rfl ?_
  exact z_icmp_eq dL_law_1114 (tgt := 1282) (by decide) (fun _ => kk e cells slots hI9 (Nat.le_succ _) (Nat.le_add_right _ _)) (fun hc => absurd rfl hc)
set_option maxRecDepth 100000 in
set_option maxHeartbeats 4000000 in
theorem lcase_30 (hB : lcOk G A s b L xs) (hI : Inv h) (hi : 0 ≤ i ∧ i + 6 ≤ L) (hroom : cells + 1 ≤ 601024 ∧ slots + 6 ≤ 7293033) (kk : ∀ e cells9 slots9, Inv e → cells9 ≤ cells + 1 → slots9 ≤ slots + 6 → Wz p l e9 R s m args below meth c D G A H0 true n0 M_L_law Q cells9 slots9 1282 (lvL i) [] e) : Wz p l e9 R s m args below meth c D G A H0 true n0 M_L_law Q cells slots 1119 (lvL i) [] h := by
  obtain ⟨r, k, e, p1, p2, hI9⟩ := i_book hI (scr9 xs (i + 1))
  refine z_aload_n dL_law_1119 rfl 1 rfl (nl rfl) ?_
  refine z_arg (j := 1) 0 4 hB hi (by decide) rfl rfl dL_law_1120 dL_law_1121 dL_law_1123 dL_law_1124 dL_law_1125 rfl ?_
  refine kl_V (ci := 11) (o := 0) (T := TX11) (as := [(0, scr9 xs (i + 1))]) (rest := []) (X := (some (0, r), k)) (oX11_book p1) gX11_book rfl (by decide) rfl (wsl_65 _ (List.mem_of_getElem? (i := 2) rfl)) rfl ⟨rfl, rfl⟩ ⟨Nat.le_of_succ_le hroom.1, Nat.le_trans (Nat.le_add_right slots 6) hroom.2⟩ dL_law_1126 rfl ?_
  refine z_aload_n dL_law_1129 rfl 2 rfl (nl rfl) ?_
  refine z_arg (j := 1) 0 4 hB hi (by decide) rfl rfl dL_law_1130 dL_law_1131 dL_law_1133 dL_law_1134 dL_law_1135 rfl ?_
  refine kl_V (ci := 12) (o := 192) (T := TX12) (as := [(0, scr9 xs (i + 1))]) (rest := [(0, r)]) (X := (some (0, r), e)) (oX12_book p2) gX12_book rfl (by decide) rfl (wsl_65 _ (List.mem_of_getElem? (i := 13) rfl)) rfl ⟨rfl, rfl⟩ ⟨Nat.le_of_succ_le hroom.1, Nat.le_trans (Nat.le_add_right slots 6) hroom.2⟩ dL_law_1136 rfl ?_
  exact z_icmp_eq dL_law_1139 (tgt := 1282) (by decide) (fun _ => kk e cells slots hI9 (Nat.le_succ _) (Nat.le_add_right _ _)) (fun hc => absurd rfl hc)
set_option maxRecDepth 100000 in
set_option maxHeartbeats 4000000 in
theorem lcase_31 (hB : lcOk G A s b L xs) (hI : Inv h) (hi : 0 ≤ i ∧ i + 6 ≤ L) (hroom : cells + 1 ≤ 601024 ∧ slots + 6 ≤ 7293033) (kk : ∀ e cells9 slots9, Inv e → cells9 ≤ cells + 1 → slots9 ≤ slots + 6 → Wz p l e9 R s m args below meth c D G A H0 true n0 M_L_law Q cells9 slots9 1282 (lvL i) [] e) : Wz p l e9 R s m args below meth c D G A H0 true n0 M_L_law Q cells slots 1144 (lvL i) [] h := by
  obtain ⟨r, e, p1, p2, hI9⟩ := i_told hI (scr9 xs (i + 1))
  refine z_aload_n dL_law_1144 rfl 1 rfl (nl rfl) ?_
  refine z_arg (j := 1) 0 4 hB hi (by decide) rfl rfl dL_law_1145 dL_law_1146 dL_law_1148 dL_law_1149 dL_law_1150 rfl ?_
  refine kl_V (ci := 11) (o := 0) (T := TX11) (as := [(0, scr9 xs (i + 1))]) (rest := []) (X := (some (0, r), h)) (oX11_told p1) gX11_told rfl (by decide) rfl (wsl_66 _ (List.mem_of_getElem? (i := 3) rfl)) rfl ⟨rfl, rfl⟩ ⟨Nat.le_of_succ_le hroom.1, Nat.le_trans (Nat.le_add_right slots 6) hroom.2⟩ dL_law_1151 rfl ?_
  refine z_aload_n dL_law_1154 rfl 2 rfl (nl rfl) ?_
  refine z_arg (j := 1) 0 4 hB hi (by decide) rfl rfl dL_law_1155 dL_law_1156 dL_law_1158 dL_law_1159 dL_law_1160 rfl ?_
  refine kl_V (ci := 12) (o := 192) (T := TX12) (as := [(0, scr9 xs (i + 1))]) (rest := [(0, r)]) (X := (some (0, r), e)) (oX12_told p2) gX12_told rfl (by decide) rfl (wsl_66 _ (List.mem_of_getElem? (i := 7) rfl)) rfl ⟨rfl, rfl⟩ ⟨Nat.le_of_succ_le hroom.1, Nat.le_trans (Nat.le_add_right slots 6) hroom.2⟩ dL_law_1161 rfl ?_
  exact z_icmp_eq dL_law_1164 (tgt := 1282) (by decide) (fun _ => kk e cells slots hI9 (Nat.le_succ _) (Nat.le_add_right _ _)) (fun hc => absurd rfl hc)
set_option maxRecDepth 100000 in
set_option maxHeartbeats 4000000 in
theorem lcase_32 (hB : lcOk G A s b L xs) (hI : Inv h) (hi : 0 ≤ i ∧ i + 6 ≤ L) (hroom : cells + 1 ≤ 601024 ∧ slots + 6 ≤ 7293033) (kk : ∀ e cells9 slots9, Inv e → cells9 ≤ cells + 1 → slots9 ≤ slots + 6 → Wz p l e9 R s m args below meth c D G A H0 true n0 M_L_law Q cells9 slots9 1282 (lvL i) [] e) : Wz p l e9 R s m args below meth c D G A H0 true n0 M_L_law Q cells slots 1169 (lvL i) [] h := by
  obtain ⟨r, k, e, p1, p2, hI9⟩ := i_sentence hI 
  refine z_aload_n dL_law_1169 rfl 1 rfl (nl rfl) ?_
  refine kl_V (ci := 11) (o := 0) (T := TX11) (as := []) (rest := []) (X := (some (0, r), k)) (oX11_sentence p1) gX11_sentence rfl (by decide) rfl (wsl_66 _ (List.mem_of_getElem? (i := 11) rfl)) rfl ⟨rfl, rfl⟩ ⟨Nat.le_of_succ_le hroom.1, Nat.le_trans (Nat.le_add_right slots 6) hroom.2⟩ dL_law_1170 rfl ?_
  refine z_aload_n dL_law_1173 rfl 2 rfl (nl rfl) ?_
  refine kl_V (ci := 12) (o := 192) (T := TX12) (as := []) (rest := [(0, r)]) (X := (some (0, r), e)) (oX12_sentence p2) gX12_sentence rfl (by decide) rfl (wsl_68 _ (List.mem_of_getElem? (i := 18) rfl)) rfl ⟨rfl, rfl⟩ ⟨Nat.le_of_succ_le hroom.1, Nat.le_trans (Nat.le_add_right slots 6) hroom.2⟩ dL_law_1174 rfl ?_
  exact z_icmp_eq dL_law_1177 (tgt := 1282) (by decide) (fun _ => kk e cells slots hI9 (Nat.le_succ _) (Nat.le_add_right _ _)) (fun hc => absurd rfl hc)
set_option maxRecDepth 100000 in
set_option maxHeartbeats 4000000 in
theorem lcase_33 (hB : lcOk G A s b L xs) (hI : Inv h) (hi : 0 ≤ i ∧ i + 6 ≤ L) (hroom : cells + 1 ≤ 601024 ∧ slots + 6 ≤ 7293033) (kk : ∀ e cells9 slots9, Inv e → cells9 ≤ cells + 1 → slots9 ≤ slots + 6 → Wz p l e9 R s m args below meth c D G A H0 true n0 M_L_law Q cells9 slots9 1282 (lvL i) [] e) : Wz p l e9 R s m args below meth c D G A H0 true n0 M_L_law Q cells slots 1182 (lvL i) [] h := by
  obtain ⟨r, k, e, p1, p2, hI9⟩ := i_said hI (scr9 xs (i + 1))
  refine z_aload_n dL_law_1182 rfl 1 rfl (nl rfl) ?_
  refine z_arg (j := 1) 0 4 hB hi (by decide) rfl rfl dL_law_1183 dL_law_1184 dL_law_1186 dL_law_1187 dL_law_1188 rfl ?_
  refine kl_V (ci := 11) (o := 0) (T := TX11) (as := [(0, scr9 xs (i + 1))]) (rest := []) (X := (some (0, r), k)) (oX11_said p1) gX11_said rfl (by decide) rfl (wsl_70 _ (List.mem_of_getElem? (i := 7) rfl)) rfl ⟨rfl, rfl⟩ ⟨Nat.le_of_succ_le hroom.1, Nat.le_trans (Nat.le_add_right slots 6) hroom.2⟩ dL_law_1189 rfl ?_
  refine z_aload_n dL_law_1192 rfl 2 rfl (nl rfl) ?_
  refine z_arg (j := 1) 0 4 hB hi (by decide) rfl rfl dL_law_1193 dL_law_1194 dL_law_1196 dL_law_1197 dL_law_1198 rfl ?_
  refine kl_V (ci := 12) (o := 192) (T := TX12) (as := [(0, scr9 xs (i + 1))]) (rest := [(0, r)]) (X := (some (0, r), e)) (oX12_said p2) gX12_said rfl (by decide) rfl (wsl_71 _ (List.mem_of_getElem? (i := 11) rfl)) rfl ⟨rfl, rfl⟩ ⟨Nat.le_of_succ_le hroom.1, Nat.le_trans (Nat.le_add_right slots 6) hroom.2⟩ dL_law_1199 rfl ?_
  exact z_icmp_eq dL_law_1202 (tgt := 1282) (by decide) (fun _ => kk e cells slots hI9 (Nat.le_succ _) (Nat.le_add_right _ _)) (fun hc => absurd rfl hc)
set_option maxRecDepth 100000 in
set_option maxHeartbeats 4000000 in
theorem lcase_34 (hB : lcOk G A s b L xs) (hI : Inv h) (hi : 0 ≤ i ∧ i + 6 ≤ L) (hroom : cells + 1 ≤ 601024 ∧ slots + 6 ≤ 7293033) (kk : ∀ e cells9 slots9, Inv e → cells9 ≤ cells + 1 → slots9 ≤ slots + 6 → Wz p l e9 R s m args below meth c D G A H0 true n0 M_L_law Q cells9 slots9 1282 (lvL i) [] e) : Wz p l e9 R s m args below meth c D G A H0 true n0 M_L_law Q cells slots 1207 (lvL i) [] h := by
  obtain ⟨r, k, e, p1, p2, hI9⟩ := i_image hI (scr9 xs (i + 1))
  refine z_aload_n dL_law_1207 rfl 1 rfl (nl rfl) ?_
  refine z_arg (j := 1) 0 4 hB hi (by decide) rfl rfl dL_law_1208 dL_law_1209 dL_law_1211 dL_law_1212 dL_law_1213 rfl ?_
  refine kl_V (ci := 11) (o := 0) (T := TX11) (as := [(0, scr9 xs (i + 1))]) (rest := []) (X := (some (2, r), k)) (oX11_image p1) gX11_image rfl (by decide) rfl (wsl_72 _ (List.mem_of_getElem? (i := 7) rfl)) rfl ⟨rfl, rfl⟩ ⟨Nat.le_of_succ_le hroom.1, Nat.le_trans (Nat.le_add_right slots 6) hroom.2⟩ dL_law_1214 rfl ?_
  refine z_aload_n dL_law_1217 rfl 2 rfl (nl rfl) ?_
  refine z_arg (j := 1) 0 4 hB hi (by decide) rfl rfl dL_law_1218 dL_law_1219 dL_law_1221 dL_law_1222 dL_law_1223 rfl ?_
  refine kl_V (ci := 12) (o := 192) (T := TX12) (as := [(0, scr9 xs (i + 1))]) (rest := [(2, r)]) (X := (some (2, r), e)) (oX12_image p2) gX12_image rfl (by decide) rfl (wsl_72 _ (List.mem_of_getElem? (i := 19) rfl)) rfl ⟨rfl, rfl⟩ ⟨Nat.le_of_succ_le hroom.1, Nat.le_trans (Nat.le_add_right slots 6) hroom.2⟩ dL_law_1224 rfl ?_
  refine z_b1 ?_
  exact z_icmp_eq dL_law_1227 (tgt := 1282) (by decide) (fun _ => kk e cells slots hI9 (Nat.le_succ _) (Nat.le_add_right _ _)) (fun hc => absurd rfl hc)
set_option maxRecDepth 100000 in
set_option maxHeartbeats 4000000 in
theorem lcase_35 (hB : lcOk G A s b L xs) (hI : Inv h) (hi : 0 ≤ i ∧ i + 6 ≤ L) (hroom : cells + 1 ≤ 601024 ∧ slots + 6 ≤ 7293033) (kk : ∀ e cells9 slots9, Inv e → cells9 ≤ cells + 1 → slots9 ≤ slots + 6 → Wz p l e9 R s m args below meth c D G A H0 true n0 M_L_law Q cells9 slots9 1282 (lvL i) [] e) : Wz p l e9 R s m args below meth c D G A H0 true n0 M_L_law Q cells slots 1232 (lvL i) [] h := by
  obtain ⟨r, k, e, p1, p2, hI9⟩ := i_restore hI (scr9 xs (i + 1))
  refine z_aload_n dL_law_1232 rfl 1 rfl (nl rfl) ?_
  refine z_arg (j := 1) 0 4 hB hi (by decide) rfl rfl dL_law_1233 dL_law_1234 dL_law_1236 dL_law_1237 dL_law_1238 rfl ?_
  refine kl_V (ci := 11) (o := 0) (T := TX11) (as := [(0, scr9 xs (i + 1))]) (rest := []) (X := (some (2, r), k)) (oX11_restore p1) gX11_restore rfl (by decide) rfl (wsl_72 _ (List.mem_of_getElem? (i := 23) rfl)) rfl ⟨rfl, rfl⟩ ⟨Nat.le_of_succ_le hroom.1, Nat.le_trans (Nat.le_add_right slots 6) hroom.2⟩ dL_law_1239 rfl ?_
  refine z_aload_n dL_law_1242 rfl 2 rfl (nl rfl) ?_
  refine z_arg (j := 1) 0 4 hB hi (by decide) rfl rfl dL_law_1243 dL_law_1244 dL_law_1246 dL_law_1247 dL_law_1248 rfl ?_
  refine kl_V (ci := 12) (o := 192) (T := TX12) (as := [(0, scr9 xs (i + 1))]) (rest := [(2, r)]) (X := (some (2, r), e)) (oX12_restore p2) gX12_restore rfl (by decide) rfl (wsl_73 _ (List.mem_of_getElem? (i := 3) rfl)) rfl ⟨rfl, rfl⟩ ⟨Nat.le_of_succ_le hroom.1, Nat.le_trans (Nat.le_add_right slots 6) hroom.2⟩ dL_law_1249 rfl ?_
  refine z_b1 ?_
  exact z_icmp_eq dL_law_1252 (tgt := 1282) (by decide) (fun _ => kk e cells slots hI9 (Nat.le_succ _) (Nat.le_add_right _ _)) (fun hc => absurd rfl hc)
set_option maxRecDepth 100000 in
set_option maxHeartbeats 4000000 in
theorem lcase_36 (hB : lcOk G A s b L xs) (hI : Inv h) (hi : 0 ≤ i ∧ i + 6 ≤ L) (hroom : cells + 1 ≤ 601024 ∧ slots + 6 ≤ 7293033) (kk : ∀ e cells9 slots9, Inv e → cells9 ≤ cells + 1 → slots9 ≤ slots + 6 → Wz p l e9 R s m args below meth c D G A H0 true n0 M_L_law Q cells9 slots9 1282 (lvL i) [] e) : Wz p l e9 R s m args below meth c D G A H0 true n0 M_L_law Q cells slots 1257 (lvL i) [] h := by
  obtain ⟨r, e, p1, p2, hI9⟩ := i_count hI (scr9 xs (i + 1))
  refine z_aload_n dL_law_1257 rfl 1 rfl (nl rfl) ?_
  refine z_arg (j := 1) 0 4 hB hi (by decide) rfl rfl dL_law_1258 dL_law_1259 dL_law_1261 dL_law_1262 dL_law_1263 rfl ?_
  refine kl_V (ci := 11) (o := 0) (T := TX11) (as := [(0, scr9 xs (i + 1))]) (rest := []) (X := (some (0, r), h)) (oX11_count p1) gX11_count rfl (by decide) rfl (wsl_73 _ (List.mem_of_getElem? (i := 7) rfl)) rfl ⟨rfl, rfl⟩ ⟨Nat.le_of_succ_le hroom.1, Nat.le_trans (Nat.le_add_right slots 6) hroom.2⟩ dL_law_1264 rfl ?_
  refine z_aload_n dL_law_1267 rfl 2 rfl (nl rfl) ?_
  refine z_arg (j := 1) 0 4 hB hi (by decide) rfl rfl dL_law_1268 dL_law_1269 dL_law_1271 dL_law_1272 dL_law_1273 rfl ?_
  refine kl_V (ci := 12) (o := 192) (T := TX12) (as := [(0, scr9 xs (i + 1))]) (rest := [(0, r)]) (X := (some (0, r), e)) (oX12_count p2) gX12_count rfl (by decide) rfl (wsl_73 _ (List.mem_of_getElem? (i := 13) rfl)) rfl ⟨rfl, rfl⟩ ⟨Nat.le_of_succ_le hroom.1, Nat.le_trans (Nat.le_add_right slots 6) hroom.2⟩ dL_law_1274 rfl ?_
  exact z_icmp_eq dL_law_1277 (tgt := 1282) (by decide) (fun _ => kk e cells slots hI9 (Nat.le_succ _) (Nat.le_add_right _ _)) (fun hc => absurd rfl hc)
end LAWC
