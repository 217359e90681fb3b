theorem md_M_act_183 : decode mc_M_act 183 = .ok (.iconst 3, 1) := by decide +kernel
theorem md_M_act_184 : decode mc_M_act 184 = .ok (.iastore, 1) := by decide +kernel
theorem md_M_act_185 : decode mc_M_act 185 = .ok (.aload_n 0, 1) := by decide +kernel
theorem md_M_act_186 : decode mc_M_act 186 = .ok (.getfield 57, 3) := by decide +kernel
theorem md_M_act_189 : decode mc_M_act 189 = .ok (.iload_n 1, 1) := by decide +kernel
theorem md_M_act_190 : decode mc_M_act 190 = .ok (.iload 5, 2) := by decide +kernel
theorem md_M_act_192 : decode mc_M_act 192 = .ok (.iastore, 1) := by decide +kernel
theorem md_M_act_193 : decode mc_M_act 193 = .ok (.goto 461, 3) := by decide +kernel
theorem md_M_act_196 : decode mc_M_act 196 = .ok (.iload_n 2, 1) := by decide +kernel
theorem md_M_act_197 : decode mc_M_act 197 = .ok (.iconst 4, 1) := by decide +kernel
theorem md_M_act_198 : decode mc_M_act 198 = .ok (.if_icmp .ne 48, 3) := by decide +kernel
theorem md_M_act_201 : decode mc_M_act 201 = .ok (.iload 5, 2) := by decide +kernel
theorem md_M_act_203 : decode mc_M_act 203 = .ok (.ldc 197, 2) := by decide +kernel
theorem md_M_act_205 : decode mc_M_act 205 = .ok (.idiv, 1) := by decide +kernel
theorem md_M_act_206 : decode mc_M_act 206 = .ok (.istore 7, 2) := by decide +kernel
theorem md_M_act_208 : decode mc_M_act 208 = .ok (.aload_n 0, 1) := by decide +kernel
theorem md_M_act_209 : decode mc_M_act 209 = .ok (.iload 7, 2) := by decide +kernel
theorem md_M_act_211 : decode mc_M_act 211 = .ok (.invokevirtual 140, 3) := by decide +kernel
theorem md_M_act_214 : decode mc_M_act 214 = .ok (.ifCond .eq 8, 3) := by decide +kernel
theorem md_M_act_217 : decode mc_M_act 217 = .ok (.bipush 8, 2) := by decide +kernel
theorem md_M_act_219 : decode mc_M_act 219 = .ok (.goto 22, 3) := by decide +kernel
theorem md_M_act_222 : decode mc_M_act 222 = .ok (.aload_n 0, 1) := by decide +kernel
theorem md_M_act_223 : decode mc_M_act 223 = .ok (.iload 7, 2) := by decide +kernel
theorem md_M_act_225 : decode mc_M_act 225 = .ok (.iload 5, 2) := by decide +kernel
theorem md_M_act_227 : decode mc_M_act 227 = .ok (.ldc 197, 2) := by decide +kernel
theorem md_M_act_229 : decode mc_M_act 229 = .ok (.irem, 1) := by decide +kernel
theorem md_M_act_230 : decode mc_M_act 230 = .ok (.invokevirtual 198, 3) := by decide +kernel
theorem md_M_act_233 : decode mc_M_act 233 = .ok (.ifCond .eq 7, 3) := by decide +kernel
theorem md_M_act_236 : decode mc_M_act 236 = .ok (.iconst 0, 1) := by decide +kernel
theorem md_M_act_237 : decode mc_M_act 237 = .ok (.goto 4, 3) := by decide +kernel
theorem md_M_act_240 : decode mc_M_act 240 = .ok (.iconst 5, 1) := by decide +kernel
theorem md_M_act_241 : decode mc_M_act 241 = .ok (.istore 6, 2) := by decide +kernel
theorem md_M_act_243 : decode mc_M_act 243 = .ok (.goto 411, 3) := by decide +kernel
theorem md_M_act_246 : decode mc_M_act 246 = .ok (.iload_n 2, 1) := by decide +kernel
theorem md_M_act_247 : decode mc_M_act 247 = .ok (.iconst 5, 1) := by decide +kernel
theorem md_M_act_248 : decode mc_M_act 248 = .ok (.if_icmp .ne 53, 3) := by decide +kernel
theorem md_M_act_251 : decode mc_M_act 251 = .ok (.aload_n 0, 1) := by decide +kernel
theorem md_M_act_252 : decode mc_M_act 252 = .ok (.getfield 19, 3) := by decide +kernel
theorem md_M_act_255 : decode mc_M_act 255 = .ok (.iload_n 1, 1) := by decide +kernel
theorem md_M_act_256 : decode mc_M_act 256 = .ok (.baload, 1) := by decide +kernel
theorem md_M_act_257 : decode mc_M_act 257 = .ok (.ifCond .eq 7, 3) := by decide +kernel
theorem md_M_act_260 : decode mc_M_act 260 = .ok (.iconst 0, 1) := by decide +kernel
theorem md_M_act_261 : decode mc_M_act 261 = .ok (.goto 4, 3) := by decide +kernel
theorem md_M_act_264 : decode mc_M_act 264 = .ok (.iconst 2, 1) := by decide +kernel
theorem md_M_act_265 : decode mc_M_act 265 = .ok (.istore 6, 2) := by decide +kernel
theorem md_M_act_267 : decode mc_M_act 267 = .ok (.aload_n 0, 1) := by decide +kernel
theorem md_M_act_268 : decode mc_M_act 268 = .ok (.getfield 54, 3) := by decide +kernel
theorem md_M_act_271 : decode mc_M_act 271 = .ok (.iload_n 1, 1) := by decide +kernel
theorem md_M_act_272 : decode mc_M_act 272 = .ok (.iload 6, 2) := by decide +kernel
theorem md_M_act_274 : decode mc_M_act 274 = .ok (.ifCond .ne 17, 3) := by decide +kernel
theorem md_M_act_277 : decode mc_M_act 277 = .ok (.aload_n 0, 1) := by decide +kernel
theorem md_M_act_278 : decode mc_M_act 278 = .ok (.getfield 54, 3) := by decide +kernel
theorem md_M_act_281 : decode mc_M_act 281 = .ok (.iload_n 1, 1) := by decide +kernel
theorem md_M_act_282 : decode mc_M_act 282 = .ok (.iaload, 1) := by decide +kernel
theorem md_M_act_283 : decode mc_M_act 283 = .ok (.iload 5, 2) := by decide +kernel
theorem md_M_act_285 : decode mc_M_act 285 = .ok (.iconst (-1), 1) := by decide +kernel
theorem md_M_act_286 : decode mc_M_act 286 = .ok (.ixor, 1) := by decide +kernel
theorem md_M_act_287 : decode mc_M_act 287 = .ok (.iand, 1) := by decide +kernel
theorem md_M_act_288 : decode mc_M_act 288 = .ok (.goto 9, 3) := by decide +kernel
theorem md_M_act_291 : decode mc_M_act 291 = .ok (.aload_n 0, 1) := by decide +kernel
theorem md_M_act_292 : decode mc_M_act 292 = .ok (.getfield 54, 3) := by decide +kernel
theorem md_M_act_295 : decode mc_M_act 295 = .ok (.iload_n 1, 1) := by decide +kernel
theorem md_M_act_296 : decode mc_M_act 296 = .ok (.iaload, 1) := by decide +kernel
theorem md_M_act_297 : decode mc_M_act 297 = .ok (.iastore, 1) := by decide +kernel
theorem md_M_act_298 : decode mc_M_act 298 = .ok (.goto 356, 3) := by decide +kernel
theorem md_M_act_301 : decode mc_M_act 301 = .ok (.iload_n 2, 1) := by decide +kernel
theorem md_M_act_302 : decode mc_M_act 302 = .ok (.bipush 6, 2) := by decide +kernel
theorem md_M_act_304 : decode mc_M_act 304 = .ok (.if_icmp .ne 57, 3) := by decide +kernel
theorem md_M_act_307 : decode mc_M_act 307 = .ok (.aload_n 0, 1) := by decide +kernel
theorem md_M_act_308 : decode mc_M_act 308 = .ok (.getfield 66, 3) := by decide +kernel
theorem md_M_act_311 : decode mc_M_act 311 = .ok (.iload 5, 2) := by decide +kernel
theorem md_M_act_313 : decode mc_M_act 313 = .ok (.iaload, 1) := by decide +kernel
theorem md_M_act_314 : decode mc_M_act 314 = .ok (.ifCond .ne 7, 3) := by decide +kernel
theorem md_M_act_317 : decode mc_M_act 317 = .ok (.iconst 0, 1) := by decide +kernel
theorem md_M_act_318 : decode mc_M_act 318 = .ok (.goto 4, 3) := by decide +kernel
theorem md_M_act_321 : decode mc_M_act 321 = .ok (.iconst 4, 1) := by decide +kernel
theorem md_M_act_322 : decode mc_M_act 322 = .ok (.istore 6, 2) := by decide +kernel
theorem md_M_act_324 : decode mc_M_act 324 = .ok (.iload 6, 2) := by decide +kernel
theorem md_M_act_326 : decode mc_M_act 326 = .ok (.ifCond .ne 328, 3) := by decide +kernel
theorem md_M_act_329 : decode mc_M_act 329 = .ok (.aload_n 0, 1) := by decide +kernel
theorem md_M_act_330 : decode mc_M_act 330 = .ok (.dup, 1) := by decide +kernel
theorem md_M_act_331 : decode mc_M_act 331 = .ok (.getfield 194, 3) := by decide +kernel
theorem md_M_act_334 : decode mc_M_act 334 = .ok (.lconst 1, 1) := by decide +kernel
theorem md_M_act_335 : decode mc_M_act 335 = .ok (.ladd, 1) := by decide +kernel
theorem md_M_act_336 : decode mc_M_act 336 = .ok (.putfield 194, 3) := by decide +kernel
theorem md_M_act_339 : decode mc_M_act 339 = .ok (.aload_n 0, 1) := by decide +kernel
theorem md_M_act_340 : decode mc_M_act 340 = .ok (.getfield 66, 3) := by decide +kernel
theorem md_M_act_343 : decode mc_M_act 343 = .ok (.iload 5, 2) := by decide +kernel
theorem md_M_act_345 : decode mc_M_act 345 = .ok (.iload_n 1, 1) := by decide +kernel
theorem md_M_act_346 : decode mc_M_act 346 = .ok (.iastore, 1) := by decide +kernel
theorem md_M_act_347 : decode mc_M_act 347 = .ok (.aload_n 0, 1) := by decide +kernel
theorem md_M_act_348 : decode mc_M_act 348 = .ok (.getfield 69, 3) := by decide +kernel
theorem md_M_act_351 : decode mc_M_act 351 = .ok (.iload 5, 2) := by decide +kernel
theorem md_M_act_353 : decode mc_M_act 353 = .ok (.aload_n 0, 1) := by decide +kernel
theorem md_M_act_354 : decode mc_M_act 354 = .ok (.getfield 194, 3) := by decide +kernel
theorem md_M_act_357 : decode mc_M_act 357 = .ok (.lastore, 1) := by decide +kernel
theorem md_M_act_358 : decode mc_M_act 358 = .ok (.goto 296, 3) := by decide +kernel
theorem md_M_act_361 : decode mc_M_act 361 = .ok (.iload_n 2, 1) := by decide +kernel
theorem md_M_act_362 : decode mc_M_act 362 = .ok (.bipush 7, 2) := by decide +kernel
theorem md_M_act_364 : decode mc_M_act 364 = .ok (.if_icmp .ne 100, 3) := by decide +kernel
theorem md_M_act_367 : decode mc_M_act 367 = .ok (.aload_n 0, 1) := by decide +kernel
theorem md_M_act_368 : decode mc_M_act 368 = .ok (.getfield 66, 3) := by decide +kernel
theorem md_M_act_371 : decode mc_M_act 371 = .ok (.iload 5, 2) := by decide +kernel
theorem md_M_act_373 : decode mc_M_act 373 = .ok (.iaload, 1) := by decide +kernel
theorem md_M_act_374 : decode mc_M_act 374 = .ok (.iload_n 1, 1) := by decide +kernel
theorem md_M_act_375 : decode mc_M_act 375 = .ok (.if_icmp .ne 7, 3) := by decide +kernel
theorem md_M_act_378 : decode mc_M_act 378 = .ok (.iconst 0, 1) := by decide +kernel
theorem md_M_act_379 : decode mc_M_act 379 = .ok (.goto 4, 3) := by decide +kernel
theorem md_M_act_382 : decode mc_M_act 382 = .ok (.iconst 4, 1) := by decide +kernel
theorem md_M_act_383 : decode mc_M_act 383 = .ok (.istore 6, 2) := by decide +kernel
theorem md_M_act_385 : decode mc_M_act 385 = .ok (.iconst 1, 1) := by decide +kernel
theorem md_M_act_386 : decode mc_M_act 386 = .ok (.istore 7, 2) := by decide +kernel
theorem md_M_act_388 : decode mc_M_act 388 = .ok (.iload 7, 2) := by decide +kernel
theorem md_M_act_390 : decode mc_M_act 390 = .ok (.bipush 32, 2) := by decide +kernel
theorem md_M_act_392 : decode mc_M_act 392 = .ok (.if_icmp .gt 46, 3) := by decide +kernel
theorem md_M_act_395 : decode mc_M_act 395 = .ok (.aload_n 0, 1) := by decide +kernel
theorem md_M_act_396 : decode mc_M_act 396 = .ok (.getfield 66, 3) := by decide +kernel
theorem md_M_act_399 : decode mc_M_act 399 = .ok (.iload 7, 2) := by decide +kernel
theorem md_M_act_401 : decode mc_M_act 401 = .ok (.iaload, 1) := by decide +kernel
theorem md_M_act_402 : decode mc_M_act 402 = .ok (.iload_n 1, 1) := by decide +kernel
theorem md_M_act_403 : decode mc_M_act 403 = .ok (.if_icmp .ne 25, 3) := by decide +kernel
theorem md_M_act_406 : decode mc_M_act 406 = .ok (.aload_n 0, 1) := by decide +kernel
theorem md_M_act_407 : decode mc_M_act 407 = .ok (.getfield 69, 3) := by decide +kernel
theorem md_M_act_410 : decode mc_M_act 410 = .ok (.iload 7, 2) := by decide +kernel
theorem md_M_act_412 : decode mc_M_act 412 = .ok (.laload, 1) := by decide +kernel
theorem md_M_act_413 : decode mc_M_act 413 = .ok (.aload_n 0, 1) := by decide +kernel
theorem md_M_act_414 : decode mc_M_act 414 = .ok (.getfield 69, 3) := by decide +kernel
theorem md_M_act_417 : decode mc_M_act 417 = .ok (.iload 5, 2) := by decide +kernel
theorem md_M_act_419 : decode mc_M_act 419 = .ok (.laload, 1) := by decide +kernel
theorem md_M_act_420 : decode mc_M_act 420 = .ok (.lcmp, 1) := by decide +kernel
theorem md_M_act_421 : decode mc_M_act 421 = .ok (.ifCond .le 7, 3) := by decide +kernel
theorem md_M_act_424 : decode mc_M_act 424 = .ok (.iconst 4, 1) := by decide +kernel
theorem md_M_act_425 : decode mc_M_act 425 = .ok (.goto 5, 3) := by decide +kernel
theorem md_M_act_428 : decode mc_M_act 428 = .ok (.iload 6, 2) := by decide +kernel
theorem md_M_act_430 : decode mc_M_act 430 = .ok (.istore 6, 2) := by decide +kernel
theorem md_M_act_432 : decode mc_M_act 432 = .ok (.iinc 7 1, 3) := by decide +kernel
theorem md_M_act_435 : decode mc_M_act 435 = .ok (.goto (-47), 3) := by decide +kernel
theorem md_M_act_438 : decode mc_M_act 438 = .ok (.aload_n 0, 1) := by decide +kernel
theorem md_M_act_439 : decode mc_M_act 439 = .ok (.getfield 66, 3) := by decide +kernel
theorem md_M_act_442 : decode mc_M_act 442 = .ok (.iload 5, 2) := by decide +kernel
theorem md_M_act_444 : decode mc_M_act 444 = .ok (.iload 6, 2) := by decide +kernel
theorem md_M_act_446 : decode mc_M_act 446 = .ok (.ifCond .ne 7, 3) := by decide +kernel
theorem md_M_act_449 : decode mc_M_act 449 = .ok (.iconst 0, 1) := by decide +kernel
theorem md_M_act_450 : decode mc_M_act 450 = .ok (.goto 10, 3) := by decide +kernel
theorem md_M_act_453 : decode mc_M_act 453 = .ok (.aload_n 0, 1) := by decide +kernel
theorem md_M_act_454 : decode mc_M_act 454 = .ok (.getfield 66, 3) := by decide +kernel
theorem md_M_act_457 : decode mc_M_act 457 = .ok (.iload 5, 2) := by decide +kernel
theorem md_M_act_459 : decode mc_M_act 459 = .ok (.iaload, 1) := by decide +kernel
theorem md_M_act_460 : decode mc_M_act 460 = .ok (.iastore, 1) := by decide +kernel
theorem md_M_act_461 : decode mc_M_act 461 = .ok (.goto 193, 3) := by decide +kernel
theorem md_M_act_464 : decode mc_M_act 464 = .ok (.iload_n 2, 1) := by decide +kernel
theorem md_M_act_465 : decode mc_M_act 465 = .ok (.bipush 8, 2) := by decide +kernel
theorem md_M_act_467 : decode mc_M_act 467 = .ok (.if_icmp .ne 33, 3) := by decide +kernel
theorem md_M_act_470 : decode mc_M_act 470 = .ok (.aload_n 0, 1) := by decide +kernel
theorem md_M_act_471 : decode mc_M_act 471 = .ok (.getfield 75, 3) := by decide +kernel
theorem md_M_act_474 : decode mc_M_act 474 = .ok (.iload 5, 2) := by decide +kernel
theorem md_M_act_476 : decode mc_M_act 476 = .ok (.iaload, 1) := by decide +kernel
theorem md_M_act_477 : decode mc_M_act 477 = .ok (.iload_n 1, 1) := by decide +kernel
theorem md_M_act_478 : decode mc_M_act 478 = .ok (.if_icmp .ne 8, 3) := by decide +kernel
theorem md_M_act_481 : decode mc_M_act 481 = .ok (.bipush 6, 2) := by decide +kernel
theorem md_M_act_483 : decode mc_M_act 483 = .ok (.goto 4, 3) := by decide +kernel
theorem md_M_act_486 : decode mc_M_act 486 = .ok (.iconst 0, 1) := by decide +kernel
theorem md_M_act_487 : decode mc_M_act 487 = .ok (.istore 6, 2) := by decide +kernel
theorem md_M_act_489 : decode mc_M_act 489 = .ok (.aload_n 0, 1) := by decide +kernel
theorem md_M_act_490 : decode mc_M_act 490 = .ok (.getfield 75, 3) := by decide +kernel
theorem md_M_act_493 : decode mc_M_act 493 = .ok (.iload 5, 2) := by decide +kernel
theorem md_M_act_495 : decode mc_M_act 495 = .ok (.iload_n 1, 1) := by decide +kernel
theorem md_M_act_496 : decode mc_M_act 496 = .ok (.iastore, 1) := by decide +kernel
theorem md_M_act_497 : decode mc_M_act 497 = .ok (.goto 157, 3) := by decide +kernel
theorem md_M_act_500 : decode mc_M_act 500 = .ok (.iload_n 2, 1) := by decide +kernel
theorem md_M_act_501 : decode mc_M_act 501 = .ok (.bipush 9, 2) := by decide +kernel
theorem md_M_act_503 : decode mc_M_act 503 = .ok (.if_icmp .ne 36, 3) := by decide +kernel
theorem md_M_act_506 : decode mc_M_act 506 = .ok (.aload_n 0, 1) := by decide +kernel
theorem md_M_act_507 : decode mc_M_act 507 = .ok (.getfield 75, 3) := by decide +kernel
theorem md_M_act_510 : decode mc_M_act 510 = .ok (.iload 5, 2) := by decide +kernel
theorem md_M_act_512 : decode mc_M_act 512 = .ok (.iaload, 1) := by decide +kernel
theorem md_M_act_513 : decode mc_M_act 513 = .ok (.iload_n 1, 1) := by decide +kernel
theorem md_M_act_514 : decode mc_M_act 514 = .ok (.if_icmp .ne 7, 3) := by decide +kernel
theorem md_M_act_517 : decode mc_M_act 517 = .ok (.iconst 0, 1) := by decide +kernel
theorem md_M_act_518 : decode mc_M_act 518 = .ok (.goto 5, 3) := by decide +kernel
theorem md_M_act_521 : decode mc_M_act 521 = .ok (.bipush 6, 2) := by decide +kernel
theorem md_M_act_523 : decode mc_M_act 523 = .ok (.istore 6, 2) := by decide +kernel
theorem md_M_act_525 : decode mc_M_act 525 = .ok (.iload 6, 2) := by decide +kernel
theorem md_M_act_527 : decode mc_M_act 527 = .ok (.ifCond .ne 127, 3) := by decide +kernel
theorem md_M_act_530 : decode mc_M_act 530 = .ok (.aload_n 0, 1) := by decide +kernel
theorem md_M_act_531 : decode mc_M_act 531 = .ok (.iload 5, 2) := by decide +kernel
theorem md_M_act_533 : decode mc_M_act 533 = .ok (.invokevirtual 179, 3) := by decide +kernel
theorem md_M_act_536 : decode mc_M_act 536 = .ok (.goto 118, 3) := by decide +kernel
theorem md_M_act_539 : decode mc_M_act 539 = .ok (.iload_n 2, 1) := by decide +kernel
theorem md_M_act_540 : decode mc_M_act 540 = .ok (.bipush 10, 2) := by decide +kernel
theorem md_M_act_542 : decode mc_M_act 542 = .ok (.if_icmp .ne 13, 3) := by decide +kernel
theorem md_M_act_545 : decode mc_M_act 545 = .ok (.aload_n 0, 1) := by decide +kernel
theorem md_M_act_546 : decode mc_M_act 546 = .ok (.getfield 60, 3) := by decide +kernel
theorem md_M_act_549 : decode mc_M_act 549 = .ok (.iload_n 1, 1) := by decide +kernel
theorem md_M_act_550 : decode mc_M_act 550 = .ok (.iconst 1, 1) := by decide +kernel
theorem md_M_act_551 : decode mc_M_act 551 = .ok (.bastore, 1) := by decide +kernel
theorem md_M_act_552 : decode mc_M_act 552 = .ok (.goto 102, 3) := by decide +kernel
theorem md_M_act_555 : decode mc_M_act 555 = .ok (.iload_n 2, 1) := by decide +kernel
theorem md_M_act_556 : decode mc_M_act 556 = .ok (.bipush 12, 2) := by decide +kernel
theorem md_M_act_558 : decode mc_M_act 558 = .ok (.if_icmp .ne 55, 3) := by decide +kernel
theorem md_M_act_561 : decode mc_M_act 561 = .ok (.aload_n 0, 1) := by decide +kernel
theorem md_M_act_562 : decode mc_M_act 562 = .ok (.getfield 13, 3) := by decide +kernel
theorem md_M_act_565 : decode mc_M_act 565 = .ok (.iload_n 1, 1) := by decide +kernel
theorem md_M_act_566 : decode mc_M_act 566 = .ok (.iaload, 1) := by decide +kernel
theorem md_M_act_567 : decode mc_M_act 567 = .ok (.ifCond .ne 10, 3) := by decide +kernel
theorem md_M_act_570 : decode mc_M_act 570 = .ok (.aload_n 0, 1) := by decide +kernel
theorem md_M_act_571 : decode mc_M_act 571 = .ok (.getfield 176, 3) := by decide +kernel
theorem md_M_act_574 : decode mc_M_act 574 = .ok (.ifCond .le 8, 3) := by decide +kernel
theorem md_M_act_577 : decode mc_M_act 577 = .ok (.bipush 7, 2) := by decide +kernel
theorem md_M_act_579 : decode mc_M_act 579 = .ok (.goto 4, 3) := by decide +kernel
theorem md_M_act_582 : decode mc_M_act 582 = .ok (.iconst 0, 1) := by decide +kernel
theorem md_M_act_583 : decode mc_M_act 583 = .ok (.istore 6, 2) := by decide +kernel
theorem md_M_act_585 : decode mc_M_act 585 = .ok (.iload 6, 2) := by decide +kernel
theorem md_M_act_587 : decode mc_M_act 587 = .ok (.ifCond .ne 67, 3) := by decide +kernel
theorem md_M_act_590 : decode mc_M_act 590 = .ok (.aload_n 0, 1) := by decide +kernel
theorem md_M_act_591 : decode mc_M_act 591 = .ok (.iload_n 1, 1) := by decide +kernel
theorem md_M_act_592 : decode mc_M_act 592 = .ok (.putfield 176, 3) := by decide +kernel
theorem md_M_act_595 : decode mc_M_act 595 = .ok (.aload_n 0, 1) := by decide +kernel
theorem md_M_act_596 : decode mc_M_act 596 = .ok (.aload_n 0, 1) := by decide +kernel
theorem md_M_act_597 : decode mc_M_act 597 = .ok (.getfield 120, 3) := by decide +kernel
theorem md_M_act_600 : decode mc_M_act 600 = .ok (.lload_n 3, 1) := by decide +kernel
theorem md_M_act_601 : decode mc_M_act 601 = .ok (.ladd, 1) := by decide +kernel
theorem md_M_act_602 : decode mc_M_act 602 = .ok (.putfield 202, 3) := by decide +kernel
theorem md_M_act_605 : decode mc_M_act 605 = .ok (.aload_n 0, 1) := by decide +kernel
theorem md_M_act_606 : decode mc_M_act 606 = .ok (.iconst 0, 1) := by decide +kernel
theorem md_M_act_607 : decode mc_M_act 607 = .ok (.putfield 205, 3) := by decide +kernel
theorem md_M_act_610 : decode mc_M_act 610 = .ok (.goto 44, 3) := by decide +kernel
theorem md_M_act_613 : decode mc_M_act 613 = .ok (.aload_n 0, 1) := by decide +kernel
theorem md_M_act_614 : decode mc_M_act 614 = .ok (.getfield 13, 3) := by decide +kernel
theorem md_M_act_617 : decode mc_M_act 617 = .ok (.iload_n 1, 1) := by decide +kernel
theorem md_M_act_618 : decode mc_M_act 618 = .ok (.iaload, 1) := by decide +kernel
theorem md_M_act_619 : decode mc_M_act 619 = .ok (.ifCond .ne 10, 3) := by decide +kernel
theorem md_M_act_622 : decode mc_M_act 622 = .ok (.aload_n 0, 1) := by decide +kernel
theorem md_M_act_623 : decode mc_M_act 623 = .ok (.getfield 176, 3) := by decide +kernel
theorem md_M_act_626 : decode mc_M_act 626 = .ok (.ifCond .ne 8, 3) := by decide +kernel
theorem md_M_act_629 : decode mc_M_act 629 = .ok (.bipush 7, 2) := by decide +kernel
theorem md_M_act_631 : decode mc_M_act 631 = .ok (.goto 4, 3) := by decide +kernel
theorem md_M_act_634 : decode mc_M_act 634 = .ok (.iconst 0, 1) := by decide +kernel
theorem md_M_act_635 : decode mc_M_act 635 = .ok (.istore 6, 2) := by decide +kernel
theorem md_M_act_637 : decode mc_M_act 637 = .ok (.aload_n 0, 1) := by decide +kernel
theorem md_M_act_638 : decode mc_M_act 638 = .ok (.iload 6, 2) := by decide +kernel
theorem md_M_act_640 : decode mc_M_act 640 = .ok (.ifCond .ne 7, 3) := by decide +kernel
theorem md_M_act_643 : decode mc_M_act 643 = .ok (.iconst 0, 1) := by decide +kernel
theorem md_M_act_644 : decode mc_M_act 644 = .ok (.goto 7, 3) := by decide +kernel
theorem md_M_act_647 : decode mc_M_act 647 = .ok (.aload_n 0, 1) := by decide +kernel
theorem md_M_act_648 : decode mc_M_act 648 = .ok (.getfield 176, 3) := by decide +kernel
theorem md_M_act_651 : decode mc_M_act 651 = .ok (.putfield 176, 3) := by decide +kernel
theorem md_M_act_654 : decode mc_M_act 654 = .ok (.iload 6, 2) := by decide +kernel
theorem md_M_act_656 : decode mc_M_act 656 = .ok (.ifCond .le 10, 3) := by decide +kernel
theorem md_M_act_659 : decode mc_M_act 659 = .ok (.aload_n 0, 1) := by decide +kernel
theorem md_M_act_660 : decode mc_M_act 660 = .ok (.iload 6, 2) := by decide +kernel
theorem md_M_act_662 : decode mc_M_act 662 = .ok (.iload_n 1, 1) := by decide +kernel
theorem md_M_act_663 : decode mc_M_act 663 = .ok (.invokevirtual 165, 3) := by decide +kernel
theorem md_M_act_666 : decode mc_M_act 666 = .ok (.return_, 1) := by decide +kernel
theorem md_M_chain_0 : decode mc_M_chain 0 = .ok (.aload_n 0, 1) := by decide +kernel
theorem md_M_chain_1 : decode mc_M_chain 1 = .ok (.iload_n 2, 1) := by decide +kernel
theorem md_M_chain_2 : decode mc_M_chain 2 = .ok (.invokevirtual 140, 3) := by decide +kernel
theorem md_M_chain_5 : decode mc_M_chain 5 = .ok (.ifCond .eq 10, 3) := by decide +kernel
theorem md_M_chain_8 : decode mc_M_chain 8 = .ok (.aload_n 0, 1) := by decide +kernel
theorem md_M_chain_9 : decode mc_M_chain 9 = .ok (.bipush 8, 2) := by decide +kernel
theorem md_M_chain_11 : decode mc_M_chain 11 = .ok (.iload_n 1, 1) := by decide +kernel
theorem md_M_chain_12 : decode mc_M_chain 12 = .ok (.invokevirtual 165, 3) := by decide +kernel
theorem md_M_chain_15 : decode mc_M_chain 15 = .ok (.iload_n 2, 1) := by decide +kernel
theorem md_M_chain_16 : decode mc_M_chain 16 = .ok (.iload_n 1, 1) := by decide +kernel
theorem md_M_chain_17 : decode mc_M_chain 17 = .ok (.if_icmp .ne 11, 3) := by decide +kernel
theorem md_M_chain_20 : decode mc_M_chain 20 = .ok (.aload_n 0, 1) := by decide +kernel
theorem md_M_chain_21 : decode mc_M_chain 21 = .ok (.iload_n 1, 1) := by decide +kernel
theorem md_M_chain_22 : decode mc_M_chain 22 = .ok (.invokevirtual 182, 3) := by decide +kernel
theorem md_M_chain_25 : decode mc_M_chain 25 = .ok (.goto 8, 3) := by decide +kernel
theorem md_M_chain_28 : decode mc_M_chain 28 = .ok (.aload_n 0, 1) := by decide +kernel
theorem md_M_chain_29 : decode mc_M_chain 29 = .ok (.iload_n 1, 1) := by decide +kernel
theorem md_M_chain_30 : decode mc_M_chain 30 = .ok (.invokevirtual 191, 3) := by decide +kernel
theorem md_M_chain_33 : decode mc_M_chain 33 = .ok (.aload_n 0, 1) := by decide +kernel
theorem md_M_chain_34 : decode mc_M_chain 34 = .ok (.iload_n 2, 1) := by decide +kernel
theorem md_M_chain_35 : decode mc_M_chain 35 = .ok (.invokevirtual 140, 3) := by decide +kernel
theorem md_M_chain_38 : decode mc_M_chain 38 = .ok (.ifCond .ne 8, 3) := by decide +kernel
theorem md_M_chain_41 : decode mc_M_chain 41 = .ok (.aload_n 0, 1) := by decide +kernel
theorem md_M_chain_42 : decode mc_M_chain 42 = .ok (.iload_n 2, 1) := by decide +kernel
theorem md_M_chain_43 : decode mc_M_chain 43 = .ok (.invokevirtual 185, 3) := by decide +kernel
theorem md_M_chain_46 : decode mc_M_chain 46 = .ok (.return_, 1) := by decide +kernel
theorem md_M_height_0 : decode mc_M_height 0 = .ok (.aload_n 0, 1) := by decide +kernel
theorem md_M_height_1 : decode mc_M_height 1 = .ok (.getfield 7, 3) := by decide +kernel
theorem md_M_height_4 : decode mc_M_height 4 = .ok (.iload_n 1, 1) := by decide +kernel
theorem md_M_height_5 : decode mc_M_height 5 = .ok (.iaload, 1) := by decide +kernel
theorem md_M_height_6 : decode mc_M_height 6 = .ok (.istore_n 2, 1) := by decide +kernel
theorem md_M_height_7 : decode mc_M_height 7 = .ok (.iconst 1, 1) := by decide +kernel
theorem md_M_height_8 : decode mc_M_height 8 = .ok (.istore_n 3, 1) := by decide +kernel
theorem md_M_height_9 : decode mc_M_height 9 = .ok (.iload_n 3, 1) := by decide +kernel
theorem md_M_height_10 : decode mc_M_height 10 = .ok (.bipush 32, 2) := by decide +kernel
theorem md_M_height_12 : decode mc_M_height 12 = .ok (.if_icmp .gt 40, 3) := by decide +kernel
theorem md_M_height_15 : decode mc_M_height 15 = .ok (.aload_n 0, 1) := by decide +kernel
theorem md_M_height_16 : decode mc_M_height 16 = .ok (.getfield 66, 3) := by decide +kernel
theorem md_M_height_19 : decode mc_M_height 19 = .ok (.iload_n 3, 1) := by decide +kernel
theorem md_M_height_20 : decode mc_M_height 20 = .ok (.iaload, 1) := by decide +kernel
theorem md_M_height_21 : decode mc_M_height 21 = .ok (.iload_n 1, 1) := by decide +kernel
theorem md_M_height_22 : decode mc_M_height 22 = .ok (.if_icmp .ne 22, 3) := by decide +kernel
theorem md_M_height_25 : decode mc_M_height 25 = .ok (.aload_n 0, 1) := by decide +kernel
theorem md_M_height_26 : decode mc_M_height 26 = .ok (.getfield 72, 3) := by decide +kernel
theorem md_M_height_29 : decode mc_M_height 29 = .ok (.iload_n 3, 1) := by decide +kernel
theorem md_M_height_30 : decode mc_M_height 30 = .ok (.iaload, 1) := by decide +kernel
theorem md_M_height_31 : decode mc_M_height 31 = .ok (.iload_n 2, 1) := by decide +kernel
theorem md_M_height_32 : decode mc_M_height 32 = .ok (.if_icmp .le 12, 3) := by decide +kernel
theorem md_M_height_35 : decode mc_M_height 35 = .ok (.aload_n 0, 1) := by decide +kernel
theorem md_M_height_36 : decode mc_M_height 36 = .ok (.getfield 72, 3) := by decide +kernel
theorem md_M_height_39 : decode mc_M_height 39 = .ok (.iload_n 3, 1) := by decide +kernel
theorem md_M_height_40 : decode mc_M_height 40 = .ok (.iaload, 1) := by decide +kernel
theorem md_M_height_41 : decode mc_M_height 41 = .ok (.goto 4, 3) := by decide +kernel
theorem md_M_height_44 : decode mc_M_height 44 = .ok (.iload_n 2, 1) := by decide +kernel
theorem md_M_height_45 : decode mc_M_height 45 = .ok (.istore_n 2, 1) := by decide +kernel
theorem md_M_height_46 : decode mc_M_height 46 = .ok (.iinc 3 1, 3) := by decide +kernel
theorem md_M_height_49 : decode mc_M_height 49 = .ok (.goto (-40), 3) := by decide +kernel
theorem md_M_height_52 : decode mc_M_height 52 = .ok (.iload_n 2, 1) := by decide +kernel
theorem md_M_height_53 : decode mc_M_height 53 = .ok (.ireturn, 1) := by decide +kernel
theorem md_M_findCeilings_0 : decode mc_M_findCeilings 0 = .ok (.iconst 1, 1) := by decide +kernel
theorem md_M_findCeilings_1 : decode mc_M_findCeilings 1 = .ok (.istore_n 1, 1) := by decide +kernel
theorem md_M_findCeilings_2 : decode mc_M_findCeilings 2 = .ok (.iload_n 1, 1) := by decide +kernel
theorem md_M_findCeilings_3 : decode mc_M_findCeilings 3 = .ok (.bipush 32, 2) := by decide +kernel
theorem md_M_findCeilings_5 : decode mc_M_findCeilings 5 = .ok (.if_icmp .gt 16, 3) := by decide +kernel
theorem md_M_findCeilings_8 : decode mc_M_findCeilings 8 = .ok (.aload_n 0, 1) := by decide +kernel
theorem md_M_findCeilings_9 : decode mc_M_findCeilings 9 = .ok (.getfield 72, 3) := by decide +kernel
theorem md_M_findCeilings_12 : decode mc_M_findCeilings 12 = .ok (.iload_n 1, 1) := by decide +kernel
theorem md_M_findCeilings_13 : decode mc_M_findCeilings 13 = .ok (.iconst 0, 1) := by decide +kernel
theorem md_M_findCeilings_14 : decode mc_M_findCeilings 14 = .ok (.iastore, 1) := by decide +kernel
theorem md_M_findCeilings_15 : decode mc_M_findCeilings 15 = .ok (.iinc 1 1, 3) := by decide +kernel
theorem md_M_findCeilings_18 : decode mc_M_findCeilings 18 = .ok (.goto (-16), 3) := by decide +kernel
theorem md_M_findCeilings_21 : decode mc_M_findCeilings 21 = .ok (.iconst 0, 1) := by decide +kernel
theorem md_M_findCeilings_22 : decode mc_M_findCeilings 22 = .ok (.istore_n 1, 1) := by decide +kernel
theorem md_M_findCeilings_23 : decode mc_M_findCeilings 23 = .ok (.iload_n 1, 1) := by decide +kernel
theorem md_M_findCeilings_24 : decode mc_M_findCeilings 24 = .ok (.aload_n 0, 1) := by decide +kernel
theorem md_M_findCeilings_25 : decode mc_M_findCeilings 25 = .ok (.getfield 148, 3) := by decide +kernel
theorem md_M_findCeilings_28 : decode mc_M_findCeilings 28 = .ok (.if_icmp .ge 65, 3) := by decide +kernel
theorem md_M_findCeilings_31 : decode mc_M_findCeilings 31 = .ok (.aload_n 0, 1) := by decide +kernel
theorem md_M_findCeilings_32 : decode mc_M_findCeilings 32 = .ok (.getfield 32, 3) := by decide +kernel
theorem md_M_findCeilings_35 : decode mc_M_findCeilings 35 = .ok (.iload_n 1, 1) := by decide +kernel
theorem md_M_findCeilings_36 : decode mc_M_findCeilings 36 = .ok (.laload, 1) := by decide +kernel
theorem md_M_findCeilings_37 : decode mc_M_findCeilings 37 = .ok (.l2i, 1) := by decide +kernel
theorem md_M_findCeilings_38 : decode mc_M_findCeilings 38 = .ok (.istore_n 2, 1) := by decide +kernel
theorem md_M_findCeilings_39 : decode mc_M_findCeilings 39 = .ok (.aload_n 0, 1) := by decide +kernel
theorem md_M_findCeilings_40 : decode mc_M_findCeilings 40 = .ok (.getfield 29, 3) := by decide +kernel
theorem md_M_findCeilings_43 : decode mc_M_findCeilings 43 = .ok (.iload_n 1, 1) := by decide +kernel
theorem md_M_findCeilings_44 : decode mc_M_findCeilings 44 = .ok (.iaload, 1) := by decide +kernel
theorem md_M_findCeilings_45 : decode mc_M_findCeilings 45 = .ok (.bipush 6, 2) := by decide +kernel
theorem md_M_findCeilings_47 : decode mc_M_findCeilings 47 = .ok (.if_icmp .ne 40, 3) := by decide +kernel
theorem md_M_findCeilings_50 : decode mc_M_findCeilings 50 = .ok (.aload_n 0, 1) := by decide +kernel
theorem md_M_findCeilings_51 : decode mc_M_findCeilings 51 = .ok (.getfield 7, 3) := by decide +kernel
theorem md_M_findCeilings_54 : decode mc_M_findCeilings 54 = .ok (.aload_n 0, 1) := by decide +kernel
theorem md_M_findCeilings_55 : decode mc_M_findCeilings 55 = .ok (.getfield 26, 3) := by decide +kernel
theorem md_M_findCeilings_58 : decode mc_M_findCeilings 58 = .ok (.iload_n 1, 1) := by decide +kernel
theorem md_M_findCeilings_59 : decode mc_M_findCeilings 59 = .ok (.iaload, 1) := by decide +kernel
theorem md_M_findCeilings_60 : decode mc_M_findCeilings 60 = .ok (.iaload, 1) := by decide +kernel
theorem md_M_findCeilings_61 : decode mc_M_findCeilings 61 = .ok (.aload_n 0, 1) := by decide +kernel
theorem md_M_findCeilings_62 : decode mc_M_findCeilings 62 = .ok (.getfield 72, 3) := by decide +kernel
theorem md_M_findCeilings_65 : decode mc_M_findCeilings 65 = .ok (.iload_n 2, 1) := by decide +kernel
theorem md_M_findCeilings_66 : decode mc_M_findCeilings 66 = .ok (.iaload, 1) := by decide +kernel
theorem md_M_findCeilings_67 : decode mc_M_findCeilings 67 = .ok (.if_icmp .le 20, 3) := by decide +kernel
theorem md_M_findCeilings_70 : decode mc_M_findCeilings 70 = .ok (.aload_n 0, 1) := by decide +kernel
theorem md_M_findCeilings_71 : decode mc_M_findCeilings 71 = .ok (.getfield 72, 3) := by decide +kernel
theorem md_M_findCeilings_74 : decode mc_M_findCeilings 74 = .ok (.iload_n 2, 1) := by decide +kernel
theorem md_M_findCeilings_75 : decode mc_M_findCeilings 75 = .ok (.aload_n 0, 1) := by decide +kernel
theorem md_M_findCeilings_76 : decode mc_M_findCeilings 76 = .ok (.getfield 7, 3) := by decide +kernel
theorem md_M_findCeilings_79 : decode mc_M_findCeilings 79 = .ok (.aload_n 0, 1) := by decide +kernel
theorem md_M_findCeilings_80 : decode mc_M_findCeilings 80 = .ok (.getfield 26, 3) := by decide +kernel
theorem md_M_findCeilings_83 : decode mc_M_findCeilings 83 = .ok (.iload_n 1, 1) := by decide +kernel
theorem md_M_findCeilings_84 : decode mc_M_findCeilings 84 = .ok (.iaload, 1) := by decide +kernel
theorem md_M_findCeilings_85 : decode mc_M_findCeilings 85 = .ok (.iaload, 1) := by decide +kernel
theorem md_M_findCeilings_86 : decode mc_M_findCeilings 86 = .ok (.iastore, 1) := by decide +kernel
theorem md_M_findCeilings_87 : decode mc_M_findCeilings 87 = .ok (.iinc 1 1, 3) := by decide +kernel
theorem md_M_findCeilings_90 : decode mc_M_findCeilings 90 = .ok (.goto (-67), 3) := by decide +kernel
theorem md_M_findCeilings_93 : decode mc_M_findCeilings 93 = .ok (.return_, 1) := by decide +kernel
theorem md_M_runningOf_0 : decode mc_M_runningOf 0 = .ok (.iconst 0, 1) := by decide +kernel
theorem md_M_runningOf_1 : decode mc_M_runningOf 1 = .ok (.istore_n 2, 1) := by decide +kernel
theorem md_M_runningOf_2 : decode mc_M_runningOf 2 = .ok (.iconst 1, 1) := by decide +kernel
theorem md_M_runningOf_3 : decode mc_M_runningOf 3 = .ok (.istore_n 3, 1) := by decide +kernel
theorem md_M_runningOf_4 : decode mc_M_runningOf 4 = .ok (.iload_n 3, 1) := by decide +kernel
theorem md_M_runningOf_5 : decode mc_M_runningOf 5 = .ok (.aload_n 0, 1) := by decide +kernel
theorem md_M_runningOf_6 : decode mc_M_runningOf 6 = .ok (.getfield 117, 3) := by decide +kernel
theorem md_M_runningOf_9 : decode mc_M_runningOf 9 = .ok (.if_icmp .gt 35, 3) := by decide +kernel
theorem md_M_runningOf_12 : decode mc_M_runningOf 12 = .ok (.aload_n 0, 1) := by decide +kernel
theorem md_M_runningOf_13 : decode mc_M_runningOf 13 = .ok (.getfield 13, 3) := by decide +kernel
theorem md_M_runningOf_16 : decode mc_M_runningOf 16 = .ok (.iload_n 3, 1) := by decide +kernel
theorem md_M_runningOf_17 : decode mc_M_runningOf 17 = .ok (.iaload, 1) := by decide +kernel
theorem md_M_runningOf_18 : decode mc_M_runningOf 18 = .ok (.iload_n 1, 1) := by decide +kernel
theorem md_M_runningOf_19 : decode mc_M_runningOf 19 = .ok (.if_icmp .ne 17, 3) := by decide +kernel
theorem md_M_runningOf_22 : decode mc_M_runningOf 22 = .ok (.aload_n 0, 1) := by decide +kernel
theorem md_M_runningOf_23 : decode mc_M_runningOf 23 = .ok (.getfield 36, 3) := by decide +kernel
theorem md_M_runningOf_26 : decode mc_M_runningOf 26 = .ok (.iload_n 3, 1) := by decide +kernel
theorem md_M_runningOf_27 : decode mc_M_runningOf 27 = .ok (.iaload, 1) := by decide +kernel
theorem md_M_runningOf_28 : decode mc_M_runningOf 28 = .ok (.iconst 2, 1) := by decide +kernel
theorem md_M_runningOf_29 : decode mc_M_runningOf 29 = .ok (.if_icmp .ne 7, 3) := by decide +kernel
theorem md_M_runningOf_32 : decode mc_M_runningOf 32 = .ok (.iload_n 3, 1) := by decide +kernel
theorem md_M_runningOf_33 : decode mc_M_runningOf 33 = .ok (.goto 4, 3) := by decide +kernel
theorem md_M_runningOf_36 : decode mc_M_runningOf 36 = .ok (.iload_n 2, 1) := by decide +kernel
theorem md_M_runningOf_37 : decode mc_M_runningOf 37 = .ok (.istore_n 2, 1) := by decide +kernel
theorem md_M_runningOf_38 : decode mc_M_runningOf 38 = .ok (.iinc 3 1, 3) := by decide +kernel
theorem md_M_runningOf_41 : decode mc_M_runningOf 41 = .ok (.goto (-37), 3) := by decide +kernel
theorem md_M_runningOf_44 : decode mc_M_runningOf 44 = .ok (.iload_n 2, 1) := by decide +kernel
theorem md_M_runningOf_45 : decode mc_M_runningOf 45 = .ok (.ireturn, 1) := by decide +kernel
theorem md_M_choose_0 : decode mc_M_choose 0 = .ok (.aload_n 0, 1) := by decide +kernel
theorem md_M_choose_1 : decode mc_M_choose 1 = .ok (.iload_n 1, 1) := by decide +kernel
theorem md_M_choose_2 : decode mc_M_choose 2 = .ok (.invokevirtual 209, 3) := by decide +kernel
theorem md_M_choose_5 : decode mc_M_choose 5 = .ok (.istore_n 2, 1) := by decide +kernel
theorem md_M_choose_6 : decode mc_M_choose 6 = .ok (.iload_n 2, 1) := by decide +kernel
theorem md_M_choose_7 : decode mc_M_choose 7 = .ok (.ifCond .le 23, 3) := by decide +kernel
theorem md_M_choose_10 : decode mc_M_choose 10 = .ok (.aload_n 0, 1) := by decide +kernel
theorem md_M_choose_11 : decode mc_M_choose 11 = .ok (.getfield 23, 3) := by decide +kernel
theorem md_M_choose_14 : decode mc_M_choose 14 = .ok (.iload_n 2, 1) := by decide +kernel
theorem md_M_choose_15 : decode mc_M_choose 15 = .ok (.baload, 1) := by decide +kernel
theorem md_M_choose_16 : decode mc_M_choose 16 = .ok (.ifCond .ne 14, 3) := by decide +kernel
theorem md_M_choose_19 : decode mc_M_choose 19 = .ok (.aload_n 0, 1) := by decide +kernel
theorem md_M_choose_20 : decode mc_M_choose 20 = .ok (.getfield 60, 3) := by decide +kernel
theorem md_M_choose_23 : decode mc_M_choose 23 = .ok (.iload_n 2, 1) := by decide +kernel
theorem md_M_choose_24 : decode mc_M_choose 24 = .ok (.baload, 1) := by decide +kernel
theorem md_M_choose_25 : decode mc_M_choose 25 = .ok (.ifCond .ne 5, 3) := by decide +kernel
theorem md_M_choose_28 : decode mc_M_choose 28 = .ok (.iload_n 2, 1) := by decide +kernel
theorem md_M_choose_29 : decode mc_M_choose 29 = .ok (.ireturn, 1) := by decide +kernel
theorem md_M_choose_30 : decode mc_M_choose 30 = .ok (.iload_n 2, 1) := by decide +kernel
theorem md_M_choose_31 : decode mc_M_choose 31 = .ok (.istore_n 3, 1) := by decide +kernel
theorem md_M_choose_32 : decode mc_M_choose 32 = .ok (.iload_n 2, 1) := by decide +kernel
theorem md_M_choose_33 : decode mc_M_choose 33 = .ok (.ifCond .le 11, 3) := by decide +kernel
theorem md_M_choose_36 : decode mc_M_choose 36 = .ok (.aload_n 0, 1) := by decide +kernel
theorem md_M_choose_37 : decode mc_M_choose 37 = .ok (.iload_n 2, 1) := by decide +kernel
theorem md_M_choose_38 : decode mc_M_choose 38 = .ok (.invokevirtual 213, 3) := by decide +kernel
theorem md_M_choose_41 : decode mc_M_choose 41 = .ok (.goto 4, 3) := by decide +kernel
theorem md_M_choose_44 : decode mc_M_choose 44 = .ok (.iconst (-1), 1) := by decide +kernel
theorem md_M_choose_45 : decode mc_M_choose 45 = .ok (.istore 4, 2) := by decide +kernel
theorem md_M_choose_47 : decode mc_M_choose 47 = .ok (.iconst 1, 1) := by decide +kernel
theorem md_M_choose_48 : decode mc_M_choose 48 = .ok (.istore 5, 2) := by decide +kernel
theorem md_M_choose_50 : decode mc_M_choose 50 = .ok (.iload 5, 2) := by decide +kernel
theorem md_M_choose_52 : decode mc_M_choose 52 = .ok (.aload_n 0, 1) := by decide +kernel
theorem md_M_choose_53 : decode mc_M_choose 53 = .ok (.getfield 117, 3) := by decide +kernel
theorem md_M_choose_56 : decode mc_M_choose 56 = .ok (.if_icmp .gt 85, 3) := by decide +kernel
theorem md_M_choose_59 : decode mc_M_choose 59 = .ok (.aload_n 0, 1) := by decide +kernel
theorem md_M_choose_60 : decode mc_M_choose 60 = .ok (.getfield 13, 3) := by decide +kernel
theorem md_M_choose_63 : decode mc_M_choose 63 = .ok (.iload 5, 2) := by decide +kernel
theorem md_M_choose_65 : decode mc_M_choose 65 = .ok (.iaload, 1) := by decide +kernel
theorem md_M_choose_66 : decode mc_M_choose 66 = .ok (.iload_n 1, 1) := by decide +kernel
theorem md_M_choose_67 : decode mc_M_choose 67 = .ok (.if_icmp .ne 68, 3) := by decide +kernel
theorem md_M_choose_70 : decode mc_M_choose 70 = .ok (.aload_n 0, 1) := by decide +kernel
theorem md_M_choose_71 : decode mc_M_choose 71 = .ok (.getfield 36, 3) := by decide +kernel
theorem md_M_choose_74 : decode mc_M_choose 74 = .ok (.iload 5, 2) := by decide +kernel
theorem md_M_choose_76 : decode mc_M_choose 76 = .ok (.iaload, 1) := by decide +kernel
theorem md_M_choose_77 : decode mc_M_choose 77 = .ok (.iconst 1, 1) := by decide +kernel
theorem md_M_choose_78 : decode mc_M_choose 78 = .ok (.if_icmp .eq 6, 3) := by decide +kernel
theorem md_M_choose_81 : decode mc_M_choose 81 = .ok (.goto 54, 3) := by decide +kernel
theorem md_M_choose_84 : decode mc_M_choose 84 = .ok (.aload_n 0, 1) := by decide +kernel
theorem md_M_choose_85 : decode mc_M_choose 85 = .ok (.iload 5, 2) := by decide +kernel
theorem md_M_choose_87 : decode mc_M_choose 87 = .ok (.invokevirtual 213, 3) := by decide +kernel
theorem md_M_choose_90 : decode mc_M_choose 90 = .ok (.istore 6, 2) := by decide +kernel
theorem md_M_choose_92 : decode mc_M_choose 92 = .ok (.iload 6, 2) := by decide +kernel
theorem md_M_choose_94 : decode mc_M_choose 94 = .ok (.iload 4, 2) := by decide +kernel
theorem md_M_choose_96 : decode mc_M_choose 96 = .ok (.if_icmp .gt 32, 3) := by decide +kernel
theorem md_M_choose_99 : decode mc_M_choose 99 = .ok (.iload 6, 2) := by decide +kernel
theorem md_M_choose_101 : decode mc_M_choose 101 = .ok (.iload 4, 2) := by decide +kernel
theorem md_M_choose_103 : decode mc_M_choose 103 = .ok (.if_icmp .ne 32, 3) := by decide +kernel
theorem md_M_choose_106 : decode mc_M_choose 106 = .ok (.iload_n 3, 1) := by decide +kernel
theorem md_M_choose_107 : decode mc_M_choose 107 = .ok (.iload_n 2, 1) := by decide +kernel
theorem md_M_choose_108 : decode mc_M_choose 108 = .ok (.if_icmp .eq 27, 3) := by decide +kernel
theorem md_M_choose_111 : decode mc_M_choose 111 = .ok (.aload_n 0, 1) := by decide +kernel
theorem md_M_choose_112 : decode mc_M_choose 112 = .ok (.getfield 39, 3) := by decide +kernel
theorem md_M_choose_115 : decode mc_M_choose 115 = .ok (.iload 5, 2) := by decide +kernel
theorem md_M_choose_117 : decode mc_M_choose 117 = .ok (.laload, 1) := by decide +kernel
theorem md_M_choose_118 : decode mc_M_choose 118 = .ok (.aload_n 0, 1) := by decide +kernel
theorem md_M_choose_119 : decode mc_M_choose 119 = .ok (.getfield 39, 3) := by decide +kernel
theorem md_M_choose_122 : decode mc_M_choose 122 = .ok (.iload_n 3, 1) := by decide +kernel
theorem md_M_choose_123 : decode mc_M_choose 123 = .ok (.laload, 1) := by decide +kernel
theorem md_M_choose_124 : decode mc_M_choose 124 = .ok (.lcmp, 1) := by decide +kernel
theorem md_M_choose_125 : decode mc_M_choose 125 = .ok (.ifCond .ge 10, 3) := by decide +kernel
theorem md_M_choose_128 : decode mc_M_choose 128 = .ok (.iload 5, 2) := by decide +kernel
theorem md_M_choose_130 : decode mc_M_choose 130 = .ok (.istore_n 3, 1) := by decide +kernel
theorem md_M_choose_131 : decode mc_M_choose 131 = .ok (.iload 6, 2) := by decide +kernel
theorem md_M_choose_133 : decode mc_M_choose 133 = .ok (.istore 4, 2) := by decide +kernel
theorem md_M_choose_135 : decode mc_M_choose 135 = .ok (.iinc 5 1, 3) := by decide +kernel
theorem md_M_choose_138 : decode mc_M_choose 138 = .ok (.goto (-88), 3) := by decide +kernel
theorem md_M_choose_141 : decode mc_M_choose 141 = .ok (.iload_n 2, 1) := by decide +kernel
theorem md_M_choose_142 : decode mc_M_choose 142 = .ok (.ifCond .le 17, 3) := by decide +kernel
theorem md_M_choose_145 : decode mc_M_choose 145 = .ok (.aload_n 0, 1) := by decide +kernel
theorem md_M_choose_146 : decode mc_M_choose 146 = .ok (.getfield 60, 3) := by decide +kernel
theorem md_M_choose_149 : decode mc_M_choose 149 = .ok (.iload_n 2, 1) := by decide +kernel
theorem md_M_choose_150 : decode mc_M_choose 150 = .ok (.iconst 0, 1) := by decide +kernel
theorem md_M_choose_151 : decode mc_M_choose 151 = .ok (.bastore, 1) := by decide +kernel
theorem md_M_choose_152 : decode mc_M_choose 152 = .ok (.aload_n 0, 1) := by decide +kernel
theorem md_M_choose_153 : decode mc_M_choose 153 = .ok (.getfield 36, 3) := by decide +kernel
theorem md_M_choose_156 : decode mc_M_choose 156 = .ok (.iload_n 2, 1) := by decide +kernel
theorem md_M_choose_157 : decode mc_M_choose 157 = .ok (.iconst 1, 1) := by decide +kernel
theorem md_M_choose_158 : decode mc_M_choose 158 = .ok (.iastore, 1) := by decide +kernel
theorem md_M_choose_159 : decode mc_M_choose 159 = .ok (.iload_n 3, 1) := by decide +kernel
theorem md_M_choose_160 : decode mc_M_choose 160 = .ok (.ifCond .le 10, 3) := by decide +kernel
theorem md_M_choose_163 : decode mc_M_choose 163 = .ok (.aload_n 0, 1) := by decide +kernel
theorem md_M_choose_164 : decode mc_M_choose 164 = .ok (.getfield 36, 3) := by decide +kernel
theorem md_M_choose_167 : decode mc_M_choose 167 = .ok (.iload_n 3, 1) := by decide +kernel
theorem md_M_choose_168 : decode mc_M_choose 168 = .ok (.iconst 2, 1) := by decide +kernel
theorem md_M_choose_169 : decode mc_M_choose 169 = .ok (.iastore, 1) := by decide +kernel
theorem md_M_choose_170 : decode mc_M_choose 170 = .ok (.iload_n 3, 1) := by decide +kernel
theorem md_M_choose_171 : decode mc_M_choose 171 = .ok (.ireturn, 1) := by decide +kernel
theorem md_M_atHand_0 : decode mc_M_atHand 0 = .ok (.iconst (-1), 1) := by decide +kernel
theorem md_M_atHand_1 : decode mc_M_atHand 1 = .ok (.istore_n 1, 1) := by decide +kernel
theorem md_M_atHand_2 : decode mc_M_atHand 2 = .ok (.iconst 0, 1) := by decide +kernel
theorem md_M_atHand_3 : decode mc_M_atHand 3 = .ok (.istore_n 2, 1) := by decide +kernel
theorem md_M_atHand_4 : decode mc_M_atHand 4 = .ok (.iload_n 2, 1) := by decide +kernel
theorem md_M_atHand_5 : decode mc_M_atHand 5 = .ok (.aload_n 0, 1) := by decide +kernel
theorem md_M_atHand_6 : decode mc_M_atHand 6 = .ok (.getfield 156, 3) := by decide +kernel
theorem md_M_atHand_9 : decode mc_M_atHand 9 = .ok (.if_icmp .ge 83, 3) := by decide +kernel
theorem md_M_atHand_12 : decode mc_M_atHand 12 = .ok (.aload_n 0, 1) := by decide +kernel
theorem md_M_atHand_13 : decode mc_M_atHand 13 = .ok (.getfield 93, 3) := by decide +kernel
theorem md_M_atHand_16 : decode mc_M_atHand 16 = .ok (.iload_n 2, 1) := by decide +kernel
theorem md_M_atHand_17 : decode mc_M_atHand 17 = .ok (.laload, 1) := by decide +kernel
theorem md_M_atHand_18 : decode mc_M_atHand 18 = .ok (.aload_n 0, 1) := by decide +kernel
theorem md_M_atHand_19 : decode mc_M_atHand 19 = .ok (.getfield 120, 3) := by decide +kernel
theorem md_M_atHand_22 : decode mc_M_atHand 22 = .ok (.lcmp, 1) := by decide +kernel
theorem md_M_atHand_23 : decode mc_M_atHand 23 = .ok (.ifCond .gt 36, 3) := by decide +kernel
theorem md_M_atHand_26 : decode mc_M_atHand 26 = .ok (.aload_n 0, 1) := by decide +kernel
theorem md_M_atHand_27 : decode mc_M_atHand 27 = .ok (.getfield 96, 3) := by decide +kernel
theorem md_M_atHand_30 : decode mc_M_atHand 30 = .ok (.iload_n 2, 1) := by decide +kernel
theorem md_M_atHand_31 : decode mc_M_atHand 31 = .ok (.laload, 1) := by decide +kernel
theorem md_M_atHand_32 : decode mc_M_atHand 32 = .ok (.lconst 0, 1) := by decide +kernel
theorem md_M_atHand_33 : decode mc_M_atHand 33 = .ok (.lcmp, 1) := by decide +kernel
theorem md_M_atHand_34 : decode mc_M_atHand 34 = .ok (.ifCond .le 25, 3) := by decide +kernel
theorem md_M_atHand_37 : decode mc_M_atHand 37 = .ok (.aload_n 0, 1) := by decide +kernel
theorem md_M_atHand_38 : decode mc_M_atHand 38 = .ok (.getfield 90, 3) := by decide +kernel
theorem md_M_atHand_41 : decode mc_M_atHand 41 = .ok (.iload_n 2, 1) := by decide +kernel
theorem md_M_atHand_42 : decode mc_M_atHand 42 = .ok (.iaload, 1) := by decide +kernel
theorem md_M_atHand_43 : decode mc_M_atHand 43 = .ok (.bipush 7, 2) := by decide +kernel
theorem md_M_atHand_45 : decode mc_M_atHand 45 = .ok (.if_icmp .gt 10, 3) := by decide +kernel
theorem md_M_atHand_48 : decode mc_M_atHand 48 = .ok (.aload_n 0, 1) := by decide +kernel
theorem md_M_atHand_49 : decode mc_M_atHand 49 = .ok (.getfield 176, 3) := by decide +kernel
theorem md_M_atHand_52 : decode mc_M_atHand 52 = .ok (.ifCond .ne 7, 3) := by decide +kernel
theorem md_M_atHand_55 : decode mc_M_atHand 55 = .ok (.iconst 1, 1) := by decide +kernel
theorem md_M_atHand_56 : decode mc_M_atHand 56 = .ok (.goto 4, 3) := by decide +kernel
theorem md_M_atHand_59 : decode mc_M_atHand 59 = .ok (.iconst 0, 1) := by decide +kernel
theorem md_M_atHand_60 : decode mc_M_atHand 60 = .ok (.istore_n 3, 1) := by decide +kernel
theorem md_M_atHand_61 : decode mc_M_atHand 61 = .ok (.iload_n 3, 1) := by decide +kernel
theorem md_M_atHand_62 : decode mc_M_atHand 62 = .ok (.ifCond .eq 24, 3) := by decide +kernel
theorem md_M_atHand_65 : decode mc_M_atHand 65 = .ok (.iload_n 1, 1) := by decide +kernel
theorem md_M_atHand_66 : decode mc_M_atHand 66 = .ok (.ifCond .lt 18, 3) := by decide +kernel
theorem md_M_atHand_69 : decode mc_M_atHand 69 = .ok (.aload_n 0, 1) := by decide +kernel
theorem md_M_atHand_70 : decode mc_M_atHand 70 = .ok (.getfield 90, 3) := by decide +kernel
theorem md_M_atHand_73 : decode mc_M_atHand 73 = .ok (.iload_n 2, 1) := by decide +kernel
theorem md_M_atHand_74 : decode mc_M_atHand 74 = .ok (.iaload, 1) := by decide +kernel
theorem md_M_atHand_75 : decode mc_M_atHand 75 = .ok (.aload_n 0, 1) := by decide +kernel
theorem md_M_atHand_76 : decode mc_M_atHand 76 = .ok (.getfield 90, 3) := by decide +kernel
theorem md_M_atHand_79 : decode mc_M_atHand 79 = .ok (.iload_n 1, 1) := by decide +kernel
theorem md_M_atHand_80 : decode mc_M_atHand 80 = .ok (.iaload, 1) := by decide +kernel
theorem md_M_atHand_81 : decode mc_M_atHand 81 = .ok (.if_icmp .le 5, 3) := by decide +kernel
theorem md_M_atHand_84 : decode mc_M_atHand 84 = .ok (.iload_n 2, 1) := by decide +kernel
theorem md_M_atHand_85 : decode mc_M_atHand 85 = .ok (.istore_n 1, 1) := by decide +kernel
theorem md_M_atHand_86 : decode mc_M_atHand 86 = .ok (.iinc 2 1, 3) := by decide +kernel
theorem md_M_atHand_89 : decode mc_M_atHand 89 = .ok (.goto (-85), 3) := by decide +kernel
theorem md_M_atHand_92 : decode mc_M_atHand 92 = .ok (.iload_n 1, 1) := by decide +kernel
theorem md_M_atHand_93 : decode mc_M_atHand 93 = .ok (.ireturn, 1) := by decide +kernel
theorem md_M_step_0 : decode mc_M_step 0 = .ok (.iload_n 1, 1) := by decide +kernel
theorem md_M_step_1 : decode mc_M_step 1 = .ok (.ifCond .ne 12, 3) := by decide +kernel
theorem md_M_step_4 : decode mc_M_step 4 = .ok (.aload_n 0, 1) := by decide +kernel
theorem md_M_step_5 : decode mc_M_step 5 = .ok (.invokevirtual 216, 3) := by decide +kernel
theorem md_M_step_8 : decode mc_M_step 8 = .ok (.ifCond .lt 5, 3) := by decide +kernel
theorem md_M_step_11 : decode mc_M_step 11 = .ok (.iconst 0, 1) := by decide +kernel
theorem md_M_step_12 : decode mc_M_step 12 = .ok (.ireturn, 1) := by decide +kernel
theorem md_M_step_13 : decode mc_M_step 13 = .ok (.aload_n 0, 1) := by decide +kernel
theorem md_M_step_14 : decode mc_M_step 14 = .ok (.iload_n 1, 1) := by decide +kernel
theorem md_M_step_15 : decode mc_M_step 15 = .ok (.invokevirtual 220, 3) := by decide +kernel
theorem md_M_step_18 : decode mc_M_step 18 = .ok (.istore_n 2, 1) := by decide +kernel
theorem md_M_step_19 : decode mc_M_step 19 = .ok (.iload_n 2, 1) := by decide +kernel
theorem md_M_step_20 : decode mc_M_step 20 = .ok (.ifCond .eq 21, 3) := by decide +kernel
theorem md_M_step_23 : decode mc_M_step 23 = .ok (.aload_n 0, 1) := by decide +kernel
theorem md_M_step_24 : decode mc_M_step 24 = .ok (.getfield 51, 3) := by decide +kernel
theorem md_M_step_27 : decode mc_M_step 27 = .ok (.iload_n 2, 1) := by decide +kernel
theorem md_M_step_28 : decode mc_M_step 28 = .ok (.baload, 1) := by decide +kernel
theorem md_M_step_29 : decode mc_M_step 29 = .ok (.ifCond .ne 12, 3) := by decide +kernel
theorem md_M_step_32 : decode mc_M_step 32 = .ok (.aload_n 0, 1) := by decide +kernel
theorem md_M_step_33 : decode mc_M_step 33 = .ok (.getfield 78, 3) := by decide +kernel
theorem md_M_step_36 : decode mc_M_step 36 = .ok (.iload_n 2, 1) := by decide +kernel
theorem md_M_step_37 : decode mc_M_step 37 = .ok (.iaload, 1) := by decide +kernel
theorem md_M_step_38 : decode mc_M_step 38 = .ok (.ifCond .le 5, 3) := by decide +kernel
theorem md_M_step_41 : decode mc_M_step 41 = .ok (.iconst 0, 1) := by decide +kernel
theorem md_M_step_42 : decode mc_M_step 42 = .ok (.ireturn, 1) := by decide +kernel
theorem md_M_step_43 : decode mc_M_step 43 = .ok (.aload_n 0, 1) := by decide +kernel
theorem md_M_step_44 : decode mc_M_step 44 = .ok (.iload_n 2, 1) := by decide +kernel
theorem md_M_step_45 : decode mc_M_step 45 = .ok (.invokevirtual 223, 3) := by decide +kernel
theorem md_M_step_48 : decode mc_M_step 48 = .ok (.istore_n 3, 1) := by decide +kernel
theorem md_M_step_49 : decode mc_M_step 49 = .ok (.iload_n 3, 1) := by decide +kernel
theorem md_M_step_50 : decode mc_M_step 50 = .ok (.ifCond .lt 14, 3) := by decide +kernel
theorem md_M_step_53 : decode mc_M_step 53 = .ok (.aload_n 0, 1) := by decide +kernel
theorem md_M_step_54 : decode mc_M_step 54 = .ok (.getfield 29, 3) := by decide +kernel
theorem md_M_step_57 : decode mc_M_step 57 = .ok (.iload_n 3, 1) := by decide +kernel
theorem md_M_step_58 : decode mc_M_step 58 = .ok (.iaload, 1) := by decide +kernel
theorem md_M_step_59 : decode mc_M_step 59 = .ok (.ifCond .ne 5, 3) := by decide +kernel
theorem md_M_step_62 : decode mc_M_step 62 = .ok (.iconst 0, 1) := by decide +kernel
theorem md_M_step_63 : decode mc_M_step 63 = .ok (.ireturn, 1) := by decide +kernel
theorem md_M_step_64 : decode mc_M_step 64 = .ok (.iload_n 3, 1) := by decide +kernel
theorem md_M_step_65 : decode mc_M_step 65 = .ok (.ifCond .ge 11, 3) := by decide +kernel
theorem md_M_step_68 : decode mc_M_step 68 = .ok (.aload_n 0, 1) := by decide +kernel
theorem md_M_step_69 : decode mc_M_step 69 = .ok (.iload_n 2, 1) := by decide +kernel
theorem md_M_step_70 : decode mc_M_step 70 = .ok (.invokevirtual 191, 3) := by decide +kernel
theorem md_M_step_73 : decode mc_M_step 73 = .ok (.goto 20, 3) := by decide +kernel
theorem md_M_step_76 : decode mc_M_step 76 = .ok (.aload_n 0, 1) := by decide +kernel
theorem md_M_step_77 : decode mc_M_step 77 = .ok (.iload_n 2, 1) := by decide +kernel
theorem md_M_step_78 : decode mc_M_step 78 = .ok (.aload_n 0, 1) := by decide +kernel
theorem md_M_step_79 : decode mc_M_step 79 = .ok (.getfield 29, 3) := by decide +kernel
theorem md_M_step_82 : decode mc_M_step 82 = .ok (.iload_n 3, 1) := by decide +kernel
theorem md_M_step_83 : decode mc_M_step 83 = .ok (.iaload, 1) := by decide +kernel
theorem md_M_step_84 : decode mc_M_step 84 = .ok (.aload_n 0, 1) := by decide +kernel
theorem md_M_step_85 : decode mc_M_step 85 = .ok (.getfield 32, 3) := by decide +kernel
theorem md_M_step_88 : decode mc_M_step 88 = .ok (.iload_n 3, 1) := by decide +kernel
theorem md_M_step_89 : decode mc_M_step 89 = .ok (.laload, 1) := by decide +kernel
theorem md_M_step_90 : decode mc_M_step 90 = .ok (.invokevirtual 226, 3) := by decide +kernel
theorem md_M_step_93 : decode mc_M_step 93 = .ok (.iconst 1, 1) := by decide +kernel
theorem md_M_step_94 : decode mc_M_step 94 = .ok (.ireturn, 1) := by decide +kernel
theorem md_M_pass_0 : decode mc_M_pass 0 = .ok (.aload_n 0, 1) := by decide +kernel
theorem md_M_pass_1 : decode mc_M_pass 1 = .ok (.getfield 63, 3) := by decide +kernel
theorem md_M_pass_4 : decode mc_M_pass 4 = .ok (.iload_n 1, 1) := by decide +kernel
theorem md_M_pass_5 : decode mc_M_pass 5 = .ok (.dup2, 1) := by decide +kernel
theorem md_M_pass_6 : decode mc_M_pass 6 = .ok (.laload, 1) := by decide +kernel
theorem md_M_pass_7 : decode mc_M_pass 7 = .ok (.lconst 1, 1) := by decide +kernel
theorem md_M_pass_8 : decode mc_M_pass 8 = .ok (.ladd, 1) := by decide +kernel
theorem md_M_pass_9 : decode mc_M_pass 9 = .ok (.lastore, 1) := by decide +kernel
theorem md_M_pass_10 : decode mc_M_pass 10 = .ok (.aload_n 0, 1) := by decide +kernel
theorem md_M_pass_11 : decode mc_M_pass 11 = .ok (.getfield 78, 3) := by decide +kernel
theorem md_M_pass_14 : decode mc_M_pass 14 = .ok (.iload_n 1, 1) := by decide +kernel
theorem md_M_pass_15 : decode mc_M_pass 15 = .ok (.iaload, 1) := by decide +kernel
theorem md_M_pass_16 : decode mc_M_pass 16 = .ok (.ifCond .le 4, 3) := by decide +kernel
theorem md_M_pass_19 : decode mc_M_pass 19 = .ok (.return_, 1) := by decide +kernel
theorem md_M_pass_20 : decode mc_M_pass 20 = .ok (.aload_n 0, 1) := by decide +kernel
theorem md_M_pass_21 : decode mc_M_pass 21 = .ok (.getfield 51, 3) := by decide +kernel
theorem md_M_pass_24 : decode mc_M_pass 24 = .ok (.iload_n 1, 1) := by decide +kernel
theorem md_M_pass_25 : decode mc_M_pass 25 = .ok (.baload, 1) := by decide +kernel
theorem md_M_pass_26 : decode mc_M_pass 26 = .ok (.ifCond .eq 20, 3) := by decide +kernel
theorem md_M_pass_29 : decode mc_M_pass 29 = .ok (.aload_n 0, 1) := by decide +kernel
theorem md_M_pass_30 : decode mc_M_pass 30 = .ok (.getfield 51, 3) := by decide +kernel
theorem md_M_pass_33 : decode mc_M_pass 33 = .ok (.iload_n 1, 1) := by decide +kernel
theorem md_M_pass_34 : decode mc_M_pass 34 = .ok (.iconst 0, 1) := by decide +kernel
theorem md_M_pass_35 : decode mc_M_pass 35 = .ok (.bastore, 1) := by decide +kernel
theorem md_M_pass_36 : decode mc_M_pass 36 = .ok (.aload_n 0, 1) := by decide +kernel
theorem md_M_pass_37 : decode mc_M_pass 37 = .ok (.getfield 48, 3) := by decide +kernel
theorem md_M_pass_40 : decode mc_M_pass 40 = .ok (.iload_n 1, 1) := by decide +kernel
theorem md_M_pass_41 : decode mc_M_pass 41 = .ok (.ldc2_w 230, 3) := by decide +kernel
theorem md_M_pass_44 : decode mc_M_pass 44 = .ok (.lastore, 1) := by decide +kernel
theorem md_M_pass_45 : decode mc_M_pass 45 = .ok (.return_, 1) := by decide +kernel
theorem md_M_pass_46 : decode mc_M_pass 46 = .ok (.aload_n 0, 1) := by decide +kernel
theorem md_M_pass_47 : decode mc_M_pass 47 = .ok (.getfield 48, 3) := by decide +kernel
theorem md_M_pass_50 : decode mc_M_pass 50 = .ok (.iload_n 1, 1) := by decide +kernel
theorem md_M_pass_51 : decode mc_M_pass 51 = .ok (.laload, 1) := by decide +kernel
theorem md_M_pass_52 : decode mc_M_pass 52 = .ok (.lconst 0, 1) := by decide +kernel
theorem md_M_pass_53 : decode mc_M_pass 53 = .ok (.lcmp, 1) := by decide +kernel
theorem md_M_pass_54 : decode mc_M_pass 54 = .ok (.ifCond .ge 19, 3) := by decide +kernel
theorem md_M_pass_57 : decode mc_M_pass 57 = .ok (.aload_n 0, 1) := by decide +kernel
theorem md_M_pass_58 : decode mc_M_pass 58 = .ok (.getfield 48, 3) := by decide +kernel
theorem md_M_pass_61 : decode mc_M_pass 61 = .ok (.iload_n 1, 1) := by decide +kernel
theorem md_M_pass_62 : decode mc_M_pass 62 = .ok (.aload_n 0, 1) := by decide +kernel
theorem md_M_pass_63 : decode mc_M_pass 63 = .ok (.getfield 32, 3) := by decide +kernel
theorem md_M_pass_66 : decode mc_M_pass 66 = .ok (.aload_n 0, 1) := by decide +kernel
theorem md_M_pass_67 : decode mc_M_pass 67 = .ok (.iload_n 1, 1) := by decide +kernel
theorem md_M_pass_68 : decode mc_M_pass 68 = .ok (.invokevirtual 223, 3) := by decide +kernel
theorem md_M_pass_71 : decode mc_M_pass 71 = .ok (.laload, 1) := by decide +kernel
theorem md_M_pass_72 : decode mc_M_pass 72 = .ok (.lastore, 1) := by decide +kernel
theorem md_M_pass_73 : decode mc_M_pass 73 = .ok (.aload_n 0, 1) := by decide +kernel
theorem md_M_pass_74 : decode mc_M_pass 74 = .ok (.getfield 48, 3) := by decide +kernel
theorem md_M_pass_77 : decode mc_M_pass 77 = .ok (.iload_n 1, 1) := by decide +kernel
theorem md_M_pass_78 : decode mc_M_pass 78 = .ok (.dup2, 1) := by decide +kernel
theorem md_M_pass_79 : decode mc_M_pass 79 = .ok (.laload, 1) := by decide +kernel
theorem md_M_pass_80 : decode mc_M_pass 80 = .ok (.lconst 1, 1) := by decide +kernel
theorem md_M_pass_81 : decode mc_M_pass 81 = .ok (.lsub, 1) := by decide +kernel
theorem md_M_pass_82 : decode mc_M_pass 82 = .ok (.lastore, 1) := by decide +kernel
theorem md_M_pass_83 : decode mc_M_pass 83 = .ok (.aload_n 0, 1) := by decide +kernel
theorem md_M_pass_84 : decode mc_M_pass 84 = .ok (.getfield 48, 3) := by decide +kernel
theorem md_M_pass_87 : decode mc_M_pass 87 = .ok (.iload_n 1, 1) := by decide +kernel
theorem md_M_pass_88 : decode mc_M_pass 88 = .ok (.laload, 1) := by decide +kernel
theorem md_M_pass_89 : decode mc_M_pass 89 = .ok (.lconst 0, 1) := by decide +kernel
theorem md_M_pass_90 : decode mc_M_pass 90 = .ok (.lcmp, 1) := by decide +kernel
theorem md_M_pass_91 : decode mc_M_pass 91 = .ok (.ifCond .le 4, 3) := by decide +kernel
theorem md_M_pass_94 : decode mc_M_pass 94 = .ok (.return_, 1) := by decide +kernel
theorem md_M_pass_95 : decode mc_M_pass 95 = .ok (.aload_n 0, 1) := by decide +kernel
theorem md_M_pass_96 : decode mc_M_pass 96 = .ok (.getfield 48, 3) := by decide +kernel
theorem md_M_pass_99 : decode mc_M_pass 99 = .ok (.iload_n 1, 1) := by decide +kernel
theorem md_M_pass_100 : decode mc_M_pass 100 = .ok (.ldc2_w 230, 3) := by decide +kernel
theorem md_M_pass_103 : decode mc_M_pass 103 = .ok (.lastore, 1) := by decide +kernel
theorem md_M_pass_104 : decode mc_M_pass 104 = .ok (.aload_n 0, 1) := by decide +kernel
theorem md_M_pass_105 : decode mc_M_pass 105 = .ok (.getfield 45, 3) := by decide +kernel
theorem md_M_pass_108 : decode mc_M_pass 108 = .ok (.iload_n 1, 1) := by decide +kernel
theorem md_M_pass_109 : decode mc_M_pass 109 = .ok (.dup2, 1) := by decide +kernel
theorem md_M_pass_110 : decode mc_M_pass 110 = .ok (.iaload, 1) := by decide +kernel
theorem md_M_pass_111 : decode mc_M_pass 111 = .ok (.iconst 1, 1) := by decide +kernel
theorem md_M_pass_112 : decode mc_M_pass 112 = .ok (.iadd, 1) := by decide +kernel
theorem md_M_pass_113 : decode mc_M_pass 113 = .ok (.iastore, 1) := by decide +kernel
theorem md_M_pass_114 : decode mc_M_pass 114 = .ok (.return_, 1) := by decide +kernel
theorem md_M_microsecond_0 : decode mc_M_microsecond 0 = .ok (.iconst 0, 1) := by decide +kernel
theorem md_M_microsecond_1 : decode mc_M_microsecond 1 = .ok (.istore_n 1, 1) := by decide +kernel
theorem md_M_microsecond_2 : decode mc_M_microsecond 2 = .ok (.iload_n 1, 1) := by decide +kernel
theorem md_M_microsecond_3 : decode mc_M_microsecond 3 = .ok (.aload_n 0, 1) := by decide +kernel
theorem md_M_microsecond_4 : decode mc_M_microsecond 4 = .ok (.getfield 151, 3) := by decide +kernel
theorem md_M_microsecond_7 : decode mc_M_microsecond 7 = .ok (.if_icmp .ge 33, 3) := by decide +kernel
theorem md_M_microsecond_10 : decode mc_M_microsecond 10 = .ok (.aload_n 0, 1) := by decide +kernel
theorem md_M_microsecond_11 : decode mc_M_microsecond 11 = .ok (.getfield 87, 3) := by decide +kernel
theorem md_M_microsecond_14 : decode mc_M_microsecond 14 = .ok (.iload_n 1, 1) := by decide +kernel
theorem md_M_microsecond_15 : decode mc_M_microsecond 15 = .ok (.laload, 1) := by decide +kernel
theorem md_M_microsecond_16 : decode mc_M_microsecond 16 = .ok (.aload_n 0, 1) := by decide +kernel
theorem md_M_microsecond_17 : decode mc_M_microsecond 17 = .ok (.getfield 120, 3) := by decide +kernel
theorem md_M_microsecond_20 : decode mc_M_microsecond 20 = .ok (.lcmp, 1) := by decide +kernel
theorem md_M_microsecond_21 : decode mc_M_microsecond 21 = .ok (.ifCond .ne 13, 3) := by decide +kernel
theorem md_M_microsecond_24 : decode mc_M_microsecond 24 = .ok (.aload_n 0, 1) := by decide +kernel
theorem md_M_microsecond_25 : decode mc_M_microsecond 25 = .ok (.aload_n 0, 1) := by decide +kernel
theorem md_M_microsecond_26 : decode mc_M_microsecond 26 = .ok (.getfield 84, 3) := by decide +kernel
theorem md_M_microsecond_29 : decode mc_M_microsecond 29 = .ok (.iload_n 1, 1) := by decide +kernel
theorem md_M_microsecond_30 : decode mc_M_microsecond 30 = .ok (.iaload, 1) := by decide +kernel
theorem md_M_microsecond_31 : decode mc_M_microsecond 31 = .ok (.invokevirtual 185, 3) := by decide +kernel
theorem md_M_microsecond_34 : decode mc_M_microsecond 34 = .ok (.iinc 1 1, 3) := by decide +kernel
theorem md_M_microsecond_37 : decode mc_M_microsecond 37 = .ok (.goto (-35), 3) := by decide +kernel
theorem md_M_microsecond_40 : decode mc_M_microsecond 40 = .ok (.iconst 1, 1) := by decide +kernel
theorem md_M_microsecond_41 : decode mc_M_microsecond 41 = .ok (.istore_n 1, 1) := by decide +kernel
theorem md_M_microsecond_42 : decode mc_M_microsecond 42 = .ok (.iload_n 1, 1) := by decide +kernel
theorem md_M_microsecond_43 : decode mc_M_microsecond 43 = .ok (.ifCond .eq 37, 3) := by decide +kernel
theorem md_M_microsecond_46 : decode mc_M_microsecond 46 = .ok (.iconst 0, 1) := by decide +kernel
theorem md_M_microsecond_47 : decode mc_M_microsecond 47 = .ok (.istore_n 1, 1) := by decide +kernel
theorem md_M_microsecond_48 : decode mc_M_microsecond 48 = .ok (.iconst 0, 1) := by decide +kernel
theorem md_M_microsecond_49 : decode mc_M_microsecond 49 = .ok (.istore_n 2, 1) := by decide +kernel
theorem md_M_microsecond_50 : decode mc_M_microsecond 50 = .ok (.iload_n 2, 1) := by decide +kernel
theorem md_M_microsecond_51 : decode mc_M_microsecond 51 = .ok (.aload_n 0, 1) := by decide +kernel
theorem md_M_microsecond_52 : decode mc_M_microsecond 52 = .ok (.getfield 113, 3) := by decide +kernel
theorem md_M_microsecond_55 : decode mc_M_microsecond 55 = .ok (.if_icmp .ge 22, 3) := by decide +kernel
theorem md_M_microsecond_58 : decode mc_M_microsecond 58 = .ok (.aload_n 0, 1) := by decide +kernel
theorem md_M_microsecond_59 : decode mc_M_microsecond 59 = .ok (.iload_n 2, 1) := by decide +kernel
theorem md_M_microsecond_60 : decode mc_M_microsecond 60 = .ok (.invokevirtual 232, 3) := by decide +kernel
theorem md_M_microsecond_63 : decode mc_M_microsecond 63 = .ok (.ifCond .eq 8, 3) := by decide +kernel
theorem md_M_microsecond_66 : decode mc_M_microsecond 66 = .ok (.iconst 1, 1) := by decide +kernel
theorem md_M_microsecond_67 : decode mc_M_microsecond 67 = .ok (.istore_n 1, 1) := by decide +kernel
theorem md_M_microsecond_68 : decode mc_M_microsecond 68 = .ok (.goto (-10), 3) := by decide +kernel
theorem md_M_microsecond_71 : decode mc_M_microsecond 71 = .ok (.iinc 2 1, 3) := by decide +kernel
theorem md_M_microsecond_74 : decode mc_M_microsecond 74 = .ok (.goto (-24), 3) := by decide +kernel
theorem md_M_microsecond_77 : decode mc_M_microsecond 77 = .ok (.goto (-35), 3) := by decide +kernel
theorem md_M_microsecond_80 : decode mc_M_microsecond 80 = .ok (.aload_n 0, 1) := by decide +kernel
theorem md_M_microsecond_81 : decode mc_M_microsecond 81 = .ok (.getfield 176, 3) := by decide +kernel
theorem md_M_microsecond_84 : decode mc_M_microsecond 84 = .ok (.ifCond .le 37, 3) := by decide +kernel
theorem md_M_microsecond_87 : decode mc_M_microsecond 87 = .ok (.aload_n 0, 1) := by decide +kernel
theorem md_M_microsecond_88 : decode mc_M_microsecond 88 = .ok (.getfield 205, 3) := by decide +kernel
theorem md_M_microsecond_91 : decode mc_M_microsecond 91 = .ok (.ifCond .ne 30, 3) := by decide +kernel
theorem md_M_microsecond_94 : decode mc_M_microsecond 94 = .ok (.aload_n 0, 1) := by decide +kernel
theorem md_M_microsecond_95 : decode mc_M_microsecond 95 = .ok (.getfield 120, 3) := by decide +kernel
theorem md_M_microsecond_98 : decode mc_M_microsecond 98 = .ok (.aload_n 0, 1) := by decide +kernel
theorem md_M_microsecond_99 : decode mc_M_microsecond 99 = .ok (.getfield 202, 3) := by decide +kernel
theorem md_M_microsecond_102 : decode mc_M_microsecond 102 = .ok (.lcmp, 1) := by decide +kernel
theorem md_M_microsecond_103 : decode mc_M_microsecond 103 = .ok (.ifCond .lt 18, 3) := by decide +kernel
theorem md_M_microsecond_106 : decode mc_M_microsecond 106 = .ok (.aload_n 0, 1) := by decide +kernel
theorem md_M_microsecond_107 : decode mc_M_microsecond 107 = .ok (.bipush 9, 2) := by decide +kernel
theorem md_M_microsecond_109 : decode mc_M_microsecond 109 = .ok (.aload_n 0, 1) := by decide +kernel
theorem md_M_microsecond_110 : decode mc_M_microsecond 110 = .ok (.getfield 176, 3) := by decide +kernel
theorem md_M_microsecond_113 : decode mc_M_microsecond 113 = .ok (.invokevirtual 165, 3) := by decide +kernel
theorem md_M_microsecond_116 : decode mc_M_microsecond 116 = .ok (.aload_n 0, 1) := by decide +kernel
theorem md_M_microsecond_117 : decode mc_M_microsecond 117 = .ok (.iconst 1, 1) := by decide +kernel
theorem md_M_microsecond_118 : decode mc_M_microsecond 118 = .ok (.putfield 205, 3) := by decide +kernel
theorem md_M_microsecond_121 : decode mc_M_microsecond 121 = .ok (.iconst 0, 1) := by decide +kernel
theorem md_M_microsecond_122 : decode mc_M_microsecond 122 = .ok (.istore_n 2, 1) := by decide +kernel
theorem md_M_microsecond_123 : decode mc_M_microsecond 123 = .ok (.iconst 0, 1) := by decide +kernel
theorem md_M_microsecond_124 : decode mc_M_microsecond 124 = .ok (.istore_n 3, 1) := by decide +kernel
theorem md_M_microsecond_125 : decode mc_M_microsecond 125 = .ok (.iload_n 3, 1) := by decide +kernel
theorem md_M_microsecond_126 : decode mc_M_microsecond 126 = .ok (.aload_n 0, 1) := by decide +kernel
theorem md_M_microsecond_127 : decode mc_M_microsecond 127 = .ok (.getfield 113, 3) := by decide +kernel
theorem md_M_microsecond_130 : decode mc_M_microsecond 130 = .ok (.if_icmp .ge 148, 3) := by decide +kernel
theorem md_M_microsecond_133 : decode mc_M_microsecond 133 = .ok (.aload_n 0, 1) := by decide +kernel
theorem md_M_microsecond_134 : decode mc_M_microsecond 134 = .ok (.iload_n 3, 1) := by decide +kernel
theorem md_M_microsecond_135 : decode mc_M_microsecond 135 = .ok (.invokevirtual 220, 3) := by decide +kernel
theorem md_M_microsecond_138 : decode mc_M_microsecond 138 = .ok (.istore 4, 2) := by decide +kernel
theorem md_M_microsecond_140 : decode mc_M_microsecond 140 = .ok (.iload_n 3, 1) := by decide +kernel
theorem md_M_microsecond_141 : decode mc_M_microsecond 141 = .ok (.ifCond .ne 10, 3) := by decide +kernel
theorem md_M_microsecond_144 : decode mc_M_microsecond 144 = .ok (.aload_n 0, 1) := by decide +kernel
theorem md_M_microsecond_145 : decode mc_M_microsecond 145 = .ok (.invokevirtual 216, 3) := by decide +kernel
theorem md_M_microsecond_148 : decode mc_M_microsecond 148 = .ok (.goto 4, 3) := by decide +kernel
theorem md_M_microsecond_151 : decode mc_M_microsecond 151 = .ok (.iconst (-1), 1) := by decide +kernel
theorem md_M_microsecond_152 : decode mc_M_microsecond 152 = .ok (.istore 5, 2) := by decide +kernel
theorem md_M_microsecond_154 : decode mc_M_microsecond 154 = .ok (.iload 5, 2) := by decide +kernel
theorem md_M_microsecond_156 : decode mc_M_microsecond 156 = .ok (.ifCond .lt 17, 3) := by decide +kernel
theorem md_M_microsecond_159 : decode mc_M_microsecond 159 = .ok (.sipush 1000, 3) := by decide +kernel
theorem md_M_microsecond_162 : decode mc_M_microsecond 162 = .ok (.aload_n 0, 1) := by decide +kernel
theorem md_M_microsecond_163 : decode mc_M_microsecond 163 = .ok (.getfield 90, 3) := by decide +kernel
theorem md_M_microsecond_166 : decode mc_M_microsecond 166 = .ok (.iload 5, 2) := by decide +kernel
theorem md_M_microsecond_168 : decode mc_M_microsecond 168 = .ok (.iaload, 1) := by decide +kernel
theorem md_M_microsecond_169 : decode mc_M_microsecond 169 = .ok (.iadd, 1) := by decide +kernel
theorem md_M_microsecond_170 : decode mc_M_microsecond 170 = .ok (.goto 5, 3) := by decide +kernel
theorem md_M_microsecond_173 : decode mc_M_microsecond 173 = .ok (.iload 4, 2) := by decide +kernel
theorem md_M_microsecond_175 : decode mc_M_microsecond 175 = .ok (.istore 6, 2) := by decide +kernel
theorem md_M_microsecond_177 : decode mc_M_microsecond 177 = .ok (.aload_n 0, 1) := by decide +kernel
theorem md_M_microsecond_178 : decode mc_M_microsecond 178 = .ok (.getfield 109, 3) := by decide +kernel
theorem md_M_microsecond_181 : decode mc_M_microsecond 181 = .ok (.ldc 235, 2) := by decide +kernel
theorem md_M_microsecond_183 : decode mc_M_microsecond 183 = .ok (.iload_n 3, 1) := by decide +kernel
theorem md_M_microsecond_184 : decode mc_M_microsecond 184 = .ok (.imul, 1) := by decide +kernel
theorem md_M_microsecond_185 : decode mc_M_microsecond 185 = .ok (.aload_n 0, 1) := by decide +kernel
theorem md_M_microsecond_186 : decode mc_M_microsecond 186 = .ok (.getfield 120, 3) := by decide +kernel
theorem md_M_microsecond_189 : decode mc_M_microsecond 189 = .ok (.l2i, 1) := by decide +kernel
theorem md_M_microsecond_190 : decode mc_M_microsecond 190 = .ok (.iadd, 1) := by decide +kernel
theorem md_M_microsecond_191 : decode mc_M_microsecond 191 = .ok (.iload 6, 2) := by decide +kernel
theorem md_M_microsecond_193 : decode mc_M_microsecond 193 = .ok (.i2s, 1) := by decide +kernel
theorem md_M_microsecond_194 : decode mc_M_microsecond 194 = .ok (.sastore, 1) := by decide +kernel
theorem md_M_microsecond_195 : decode mc_M_microsecond 195 = .ok (.aload_n 0, 1) := by decide +kernel
theorem md_M_microsecond_196 : decode mc_M_microsecond 196 = .ok (.getfield 120, 3) := by decide +kernel
theorem md_M_microsecond_199 : decode mc_M_microsecond 199 = .ok (.lconst 0, 1) := by decide +kernel
theorem md_M_microsecond_200 : decode mc_M_microsecond 200 = .ok (.lcmp, 1) := by decide +kernel
theorem md_M_microsecond_201 : decode mc_M_microsecond 201 = .ok (.ifCond .le 23, 3) := by decide +kernel
theorem md_M_microsecond_204 : decode mc_M_microsecond 204 = .ok (.aload_n 0, 1) := by decide +kernel
theorem md_M_microsecond_205 : decode mc_M_microsecond 205 = .ok (.getfield 109, 3) := by decide +kernel
theorem md_M_microsecond_208 : decode mc_M_microsecond 208 = .ok (.ldc 235, 2) := by decide +kernel
theorem md_M_microsecond_210 : decode mc_M_microsecond 210 = .ok (.iload_n 3, 1) := by decide +kernel
theorem md_M_microsecond_211 : decode mc_M_microsecond 211 = .ok (.imul, 1) := by decide +kernel
theorem md_M_microsecond_212 : decode mc_M_microsecond 212 = .ok (.aload_n 0, 1) := by decide +kernel
theorem md_M_microsecond_213 : decode mc_M_microsecond 213 = .ok (.getfield 120, 3) := by decide +kernel
theorem md_M_microsecond_216 : decode mc_M_microsecond 216 = .ok (.l2i, 1) := by decide +kernel
theorem md_M_microsecond_217 : decode mc_M_microsecond 217 = .ok (.iadd, 1) := by decide +kernel
theorem md_M_microsecond_218 : decode mc_M_microsecond 218 = .ok (.iconst 1, 1) := by decide +kernel
theorem md_M_microsecond_219 : decode mc_M_microsecond 219 = .ok (.isub, 1) := by decide +kernel
theorem md_M_microsecond_220 : decode mc_M_microsecond 220 = .ok (.saload, 1) := by decide +kernel
theorem md_M_microsecond_221 : decode mc_M_microsecond 221 = .ok (.goto 4, 3) := by decide +kernel
theorem md_M_microsecond_224 : decode mc_M_microsecond 224 = .ok (.iconst 0, 1) := by decide +kernel
theorem md_M_microsecond_225 : decode mc_M_microsecond 225 = .ok (.istore 7, 2) := by decide +kernel
theorem md_M_microsecond_227 : decode mc_M_microsecond 227 = .ok (.iload 6, 2) := by decide +kernel
theorem md_M_microsecond_229 : decode mc_M_microsecond 229 = .ok (.iload 7, 2) := by decide +kernel
theorem md_M_microsecond_231 : decode mc_M_microsecond 231 = .ok (.if_icmp .eq 9, 3) := by decide +kernel
theorem md_M_microsecond_234 : decode mc_M_microsecond 234 = .ok (.iload_n 2, 1) := by decide +kernel
theorem md_M_microsecond_235 : decode mc_M_microsecond 235 = .ok (.iconst 1, 1) := by decide +kernel
theorem md_M_microsecond_236 : decode mc_M_microsecond 236 = .ok (.iadd, 1) := by decide +kernel
theorem md_M_microsecond_237 : decode mc_M_microsecond 237 = .ok (.goto 4, 3) := by decide +kernel
theorem md_M_microsecond_240 : decode mc_M_microsecond 240 = .ok (.iload_n 2, 1) := by decide +kernel
theorem md_M_microsecond_241 : decode mc_M_microsecond 241 = .ok (.istore_n 2, 1) := by decide +kernel
theorem md_M_microsecond_242 : decode mc_M_microsecond 242 = .ok (.iload 5, 2) := by decide +kernel
theorem md_M_microsecond_244 : decode mc_M_microsecond 244 = .ok (.ifCond .lt 17, 3) := by decide +kernel
theorem md_M_microsecond_247 : decode mc_M_microsecond 247 = .ok (.aload_n 0, 1) := by decide +kernel
theorem md_M_microsecond_248 : decode mc_M_microsecond 248 = .ok (.getfield 96, 3) := by decide +kernel
theorem md_M_microsecond_251 : decode mc_M_microsecond 251 = .ok (.iload 5, 2) := by decide +kernel
theorem md_M_microsecond_253 : decode mc_M_microsecond 253 = .ok (.dup2, 1) := by decide +kernel
theorem md_M_microsecond_254 : decode mc_M_microsecond 254 = .ok (.laload, 1) := by decide +kernel
theorem md_M_microsecond_255 : decode mc_M_microsecond 255 = .ok (.lconst 1, 1) := by decide +kernel
theorem md_M_microsecond_256 : decode mc_M_microsecond 256 = .ok (.lsub, 1) := by decide +kernel
theorem md_M_microsecond_257 : decode mc_M_microsecond 257 = .ok (.lastore, 1) := by decide +kernel
theorem md_M_microsecond_258 : decode mc_M_microsecond 258 = .ok (.goto 14, 3) := by decide +kernel
theorem md_M_microsecond_261 : decode mc_M_microsecond 261 = .ok (.iload 4, 2) := by decide +kernel
theorem md_M_microsecond_263 : decode mc_M_microsecond 263 = .ok (.ifCond .le 9, 3) := by decide +kernel
theorem md_M_microsecond_266 : decode mc_M_microsecond 266 = .ok (.aload_n 0, 1) := by decide +kernel
theorem md_M_microsecond_267 : decode mc_M_microsecond 267 = .ok (.iload 4, 2) := by decide +kernel
theorem md_M_microsecond_269 : decode mc_M_microsecond 269 = .ok (.invokevirtual 236, 3) := by decide +kernel
theorem md_M_microsecond_272 : decode mc_M_microsecond 272 = .ok (.iinc 3 1, 3) := by decide +kernel
theorem md_M_microsecond_275 : decode mc_M_microsecond 275 = .ok (.goto (-150), 3) := by decide +kernel
theorem md_M_microsecond_278 : decode mc_M_microsecond 278 = .ok (.aload_n 0, 1) := by decide +kernel
theorem md_M_microsecond_279 : decode mc_M_microsecond 279 = .ok (.dup, 1) := by decide +kernel
theorem md_M_microsecond_280 : decode mc_M_microsecond 280 = .ok (.getfield 120, 3) := by decide +kernel
theorem md_M_microsecond_283 : decode mc_M_microsecond 283 = .ok (.lconst 1, 1) := by decide +kernel
theorem md_M_microsecond_284 : decode mc_M_microsecond 284 = .ok (.ladd, 1) := by decide +kernel
theorem md_M_microsecond_285 : decode mc_M_microsecond 285 = .ok (.putfield 120, 3) := by decide +kernel
theorem md_M_microsecond_288 : decode mc_M_microsecond 288 = .ok (.iload_n 2, 1) := by decide +kernel
theorem md_M_microsecond_289 : decode mc_M_microsecond 289 = .ok (.ireturn, 1) := by decide +kernel
theorem md_M_run_0 : decode mc_M_run 0 = .ok (.lload_n 1, 1) := by decide +kernel
theorem md_M_run_1 : decode mc_M_run 1 = .ok (.lconst 0, 1) := by decide +kernel
theorem md_M_run_2 : decode mc_M_run 2 = .ok (.lcmp, 1) := by decide +kernel
theorem md_M_run_3 : decode mc_M_run 3 = .ok (.ifCond .lt 16, 3) := by decide +kernel
theorem md_M_run_6 : decode mc_M_run 6 = .ok (.lload_n 1, 1) := by decide +kernel
theorem md_M_run_7 : decode mc_M_run 7 = .ok (.ldc2_w 124, 3) := by decide +kernel
theorem md_M_run_10 : decode mc_M_run 10 = .ok (.aload_n 0, 1) := by decide +kernel
theorem md_M_run_11 : decode mc_M_run 11 = .ok (.getfield 120, 3) := by decide +kernel
theorem md_M_run_14 : decode mc_M_run 14 = .ok (.lsub, 1) := by decide +kernel
theorem md_M_run_15 : decode mc_M_run 15 = .ok (.lcmp, 1) := by decide +kernel
theorem md_M_run_16 : decode mc_M_run 16 = .ok (.ifCond .le 6, 3) := by decide +kernel
theorem md_M_run_19 : decode mc_M_run 19 = .ok (.bipush (-2), 2) := by decide +kernel
theorem md_M_run_21 : decode mc_M_run 21 = .ok (.ireturn, 1) := by decide +kernel
theorem md_M_run_22 : decode mc_M_run 22 = .ok (.aload_n 0, 1) := by decide +kernel
theorem md_M_run_23 : decode mc_M_run 23 = .ok (.invokevirtual 239, 3) := by decide +kernel
theorem md_M_run_26 : decode mc_M_run 26 = .ok (.iconst 0, 1) := by decide +kernel
theorem md_M_run_27 : decode mc_M_run 27 = .ok (.istore_n 3, 1) := by decide +kernel
theorem md_M_run_28 : decode mc_M_run 28 = .ok (.lconst 0, 1) := by decide +kernel
theorem md_M_run_29 : decode mc_M_run 29 = .ok (.lstore 4, 2) := by decide +kernel
theorem md_M_run_31 : decode mc_M_run 31 = .ok (.lload 4, 2) := by decide +kernel
theorem md_M_run_33 : decode mc_M_run 33 = .ok (.lload_n 1, 1) := by decide +kernel
theorem md_M_run_34 : decode mc_M_run 34 = .ok (.lcmp, 1) := by decide +kernel
theorem md_M_run_35 : decode mc_M_run 35 = .ok (.ifCond .ge 19, 3) := by decide +kernel
theorem md_M_run_38 : decode mc_M_run 38 = .ok (.iload_n 3, 1) := by decide +kernel
theorem md_M_run_39 : decode mc_M_run 39 = .ok (.aload_n 0, 1) := by decide +kernel
theorem md_M_run_40 : decode mc_M_run 40 = .ok (.invokevirtual 242, 3) := by decide +kernel
theorem md_M_run_43 : decode mc_M_run 43 = .ok (.iadd, 1) := by decide +kernel
theorem md_M_run_44 : decode mc_M_run 44 = .ok (.istore_n 3, 1) := by decide +kernel
theorem md_M_run_45 : decode mc_M_run 45 = .ok (.lload 4, 2) := by decide +kernel
theorem md_M_run_47 : decode mc_M_run 47 = .ok (.lconst 1, 1) := by decide +kernel
theorem md_M_run_48 : decode mc_M_run 48 = .ok (.ladd, 1) := by decide +kernel
theorem md_M_run_49 : decode mc_M_run 49 = .ok (.lstore 4, 2) := by decide +kernel
theorem md_M_run_51 : decode mc_M_run 51 = .ok (.goto (-20), 3) := by decide +kernel
theorem md_M_run_54 : decode mc_M_run 54 = .ok (.iload_n 3, 1) := by decide +kernel
theorem md_M_run_55 : decode mc_M_run 55 = .ok (.ireturn, 1) := by decide +kernel
theorem md_M_now_0 : decode mc_M_now 0 = .ok (.aload_n 0, 1) := by decide +kernel
theorem md_M_now_1 : decode mc_M_now 1 = .ok (.getfield 120, 3) := by decide +kernel
theorem md_M_now_4 : decode mc_M_now 4 = .ok (.lreturn, 1) := by decide +kernel
theorem md_M_running_0 : decode mc_M_running 0 = .ok (.iload_n 1, 1) := by decide +kernel
theorem md_M_running_1 : decode mc_M_running 1 = .ok (.ifCond .lt 11, 3) := by decide +kernel
theorem md_M_running_4 : decode mc_M_running 4 = .ok (.iload_n 1, 1) := by decide +kernel
theorem md_M_running_5 : decode mc_M_running 5 = .ok (.aload_n 0, 1) := by decide +kernel
theorem md_M_running_6 : decode mc_M_running 6 = .ok (.getfield 113, 3) := by decide +kernel
theorem md_M_running_9 : decode mc_M_running 9 = .ok (.if_icmp .lt 5, 3) := by decide +kernel
theorem md_M_running_12 : decode mc_M_running 12 = .ok (.iconst (-1), 1) := by decide +kernel
theorem md_M_running_13 : decode mc_M_running 13 = .ok (.ireturn, 1) := by decide +kernel
theorem md_M_running_14 : decode mc_M_running 14 = .ok (.lload_n 2, 1) := by decide +kernel
theorem md_M_running_15 : decode mc_M_running 15 = .ok (.lconst 0, 1) := by decide +kernel
theorem md_M_running_16 : decode mc_M_running 16 = .ok (.lcmp, 1) := by decide +kernel
theorem md_M_running_17 : decode mc_M_running 17 = .ok (.ifCond .lt 12, 3) := by decide +kernel
theorem md_M_running_20 : decode mc_M_running 20 = .ok (.lload_n 2, 1) := by decide +kernel
theorem md_M_running_21 : decode mc_M_running 21 = .ok (.aload_n 0, 1) := by decide +kernel
theorem md_M_running_22 : decode mc_M_running 22 = .ok (.getfield 120, 3) := by decide +kernel
theorem md_M_running_25 : decode mc_M_running 25 = .ok (.lcmp, 1) := by decide +kernel
theorem md_M_running_26 : decode mc_M_running 26 = .ok (.ifCond .lt 6, 3) := by decide +kernel
theorem md_M_running_29 : decode mc_M_running 29 = .ok (.bipush (-2), 2) := by decide +kernel
theorem md_M_running_31 : decode mc_M_running 31 = .ok (.ireturn, 1) := by decide +kernel
theorem md_M_running_32 : decode mc_M_running 32 = .ok (.aload_n 0, 1) := by decide +kernel
theorem md_M_running_33 : decode mc_M_running 33 = .ok (.getfield 109, 3) := by decide +kernel
theorem md_M_running_36 : decode mc_M_running 36 = .ok (.ldc 235, 2) := by decide +kernel
theorem md_M_running_38 : decode mc_M_running 38 = .ok (.iload_n 1, 1) := by decide +kernel
theorem md_M_running_39 : decode mc_M_running 39 = .ok (.imul, 1) := by decide +kernel
theorem md_M_running_40 : decode mc_M_running 40 = .ok (.lload_n 2, 1) := by decide +kernel
theorem md_M_running_41 : decode mc_M_running 41 = .ok (.l2i, 1) := by decide +kernel
theorem md_M_running_42 : decode mc_M_running 42 = .ok (.iadd, 1) := by decide +kernel
theorem md_M_running_43 : decode mc_M_running 43 = .ok (.saload, 1) := by decide +kernel
theorem md_M_running_44 : decode mc_M_running 44 = .ok (.ireturn, 1) := by decide +kernel
theorem md_M_used_0 : decode mc_M_used 0 = .ok (.aload_n 0, 1) := by decide +kernel
theorem md_M_used_1 : decode mc_M_used 1 = .ok (.iload_n 1, 1) := by decide +kernel
theorem md_M_used_2 : decode mc_M_used 2 = .ok (.invokevirtual 140, 3) := by decide +kernel
theorem md_M_used_5 : decode mc_M_used 5 = .ok (.ifCond .eq 9, 3) := by decide +kernel
theorem md_M_used_8 : decode mc_M_used 8 = .ok (.ldc2_w 230, 3) := by decide +kernel
theorem md_M_used_11 : decode mc_M_used 11 = .ok (.goto 9, 3) := by decide +kernel
theorem md_M_used_14 : decode mc_M_used 14 = .ok (.aload_n 0, 1) := by decide +kernel
theorem md_M_used_15 : decode mc_M_used 15 = .ok (.getfield 63, 3) := by decide +kernel
theorem md_M_used_18 : decode mc_M_used 18 = .ok (.iload_n 1, 1) := by decide +kernel
theorem md_M_used_19 : decode mc_M_used 19 = .ok (.laload, 1) := by decide +kernel
theorem md_M_used_20 : decode mc_M_used 20 = .ok (.lreturn, 1) := by decide +kernel
theorem md_M_state_0 : decode mc_M_state 0 = .ok (.aload_n 0, 1) := by decide +kernel
theorem md_M_state_1 : decode mc_M_state 1 = .ok (.iload_n 1, 1) := by decide +kernel
theorem md_M_state_2 : decode mc_M_state 2 = .ok (.invokevirtual 140, 3) := by decide +kernel
theorem md_M_state_5 : decode mc_M_state 5 = .ok (.ifCond .eq 7, 3) := by decide +kernel
theorem md_M_state_8 : decode mc_M_state 8 = .ok (.iconst (-1), 1) := by decide +kernel
theorem md_M_state_9 : decode mc_M_state 9 = .ok (.goto 9, 3) := by decide +kernel
theorem md_M_state_12 : decode mc_M_state 12 = .ok (.aload_n 0, 1) := by decide +kernel
theorem md_M_state_13 : decode mc_M_state 13 = .ok (.getfield 36, 3) := by decide +kernel
theorem md_M_state_16 : decode mc_M_state 16 = .ok (.iload_n 1, 1) := by decide +kernel
theorem md_M_state_17 : decode mc_M_state 17 = .ok (.iaload, 1) := by decide +kernel
theorem md_M_state_18 : decode mc_M_state 18 = .ok (.ireturn, 1) := by decide +kernel
theorem md_M_event_0 : decode mc_M_event 0 = .ok (.aload_n 0, 1) := by decide +kernel
theorem md_M_event_1 : decode mc_M_event 1 = .ok (.iload_n 1, 1) := by decide +kernel
theorem md_M_event_2 : decode mc_M_event 2 = .ok (.invokevirtual 140, 3) := by decide +kernel
theorem md_M_event_5 : decode mc_M_event 5 = .ok (.ifCond .eq 5, 3) := by decide +kernel
theorem md_M_event_8 : decode mc_M_event 8 = .ok (.iconst (-1), 1) := by decide +kernel
theorem md_M_event_9 : decode mc_M_event 9 = .ok (.ireturn, 1) := by decide +kernel
theorem md_M_event_10 : decode mc_M_event 10 = .ok (.iload_n 2, 1) := by decide +kernel
theorem md_M_event_11 : decode mc_M_event 11 = .ok (.iconst 1, 1) := by decide +kernel
theorem md_M_event_12 : decode mc_M_event 12 = .ok (.if_icmp .lt 9, 3) := by decide +kernel
theorem md_M_event_15 : decode mc_M_event 15 = .ok (.iload_n 2, 1) := by decide +kernel
theorem md_M_event_16 : decode mc_M_event 16 = .ok (.ldc 245, 2) := by decide +kernel
theorem md_M_event_18 : decode mc_M_event 18 = .ok (.if_icmp .le 6, 3) := by decide +kernel
theorem md_M_event_21 : decode mc_M_event 21 = .ok (.bipush (-2), 2) := by decide +kernel
theorem md_M_event_23 : decode mc_M_event 23 = .ok (.ireturn, 1) := by decide +kernel
theorem md_M_event_24 : decode mc_M_event 24 = .ok (.aload_n 0, 1) := by decide +kernel
theorem md_M_event_25 : decode mc_M_event 25 = .ok (.iload_n 1, 1) := by decide +kernel
theorem md_M_event_26 : decode mc_M_event 26 = .ok (.iload_n 2, 1) := by decide +kernel
theorem md_M_event_27 : decode mc_M_event 27 = .ok (.invokevirtual 198, 3) := by decide +kernel
theorem md_M_event_30 : decode mc_M_event 30 = .ok (.ifCond .eq 7, 3) := by decide +kernel
theorem md_M_event_33 : decode mc_M_event 33 = .ok (.iconst 1, 1) := by decide +kernel
theorem md_M_event_34 : decode mc_M_event 34 = .ok (.goto 5, 3) := by decide +kernel
theorem md_M_event_37 : decode mc_M_event 37 = .ok (.bipush (-3), 2) := by decide +kernel
theorem md_M_event_39 : decode mc_M_event 39 = .ok (.ireturn, 1) := by decide +kernel
theorem md_M_events_0 : decode mc_M_events 0 = .ok (.aload_n 0, 1) := by decide +kernel
theorem md_M_events_1 : decode mc_M_events 1 = .ok (.iload_n 1, 1) := by decide +kernel
theorem md_M_events_2 : decode mc_M_events 2 = .ok (.invokevirtual 140, 3) := by decide +kernel
theorem md_M_events_5 : decode mc_M_events 5 = .ok (.ifCond .eq 7, 3) := by decide +kernel
theorem md_M_events_8 : decode mc_M_events 8 = .ok (.iconst (-1), 1) := by decide +kernel
theorem md_M_events_9 : decode mc_M_events 9 = .ok (.goto 9, 3) := by decide +kernel
theorem md_M_events_12 : decode mc_M_events 12 = .ok (.aload_n 0, 1) := by decide +kernel
theorem md_M_events_13 : decode mc_M_events 13 = .ok (.getfield 54, 3) := by decide +kernel
theorem md_M_events_16 : decode mc_M_events 16 = .ok (.iload_n 1, 1) := by decide +kernel
theorem md_M_events_17 : decode mc_M_events 17 = .ok (.iaload, 1) := by decide +kernel
theorem md_M_events_18 : decode mc_M_events 18 = .ok (.ireturn, 1) := by decide +kernel
theorem md_M_code_0 : decode mc_M_code 0 = .ok (.iload_n 1, 1) := by decide +kernel
theorem md_M_code_1 : decode mc_M_code 1 = .ok (.iconst (-1), 1) := by decide +kernel
theorem md_M_code_2 : decode mc_M_code 2 = .ok (.if_icmp .ne 12, 3) := by decide +kernel
theorem md_M_code_5 : decode mc_M_code 5 = .ok (.iload_n 2, 1) := by decide +kernel
theorem md_M_code_6 : decode mc_M_code 6 = .ok (.ifCond .ne 8, 3) := by decide +kernel
theorem md_M_code_9 : decode mc_M_code 9 = .ok (.aload_n 0, 1) := by decide +kernel
theorem md_M_code_10 : decode mc_M_code 10 = .ok (.getfield 159, 3) := by decide +kernel
theorem md_M_code_13 : decode mc_M_code 13 = .ok (.ireturn, 1) := by decide +kernel
theorem md_M_code_14 : decode mc_M_code 14 = .ok (.iload_n 1, 1) := by decide +kernel
theorem md_M_code_15 : decode mc_M_code 15 = .ok (.ifCond .lt 18, 3) := by decide +kernel
theorem md_M_code_18 : decode mc_M_code 18 = .ok (.iload_n 1, 1) := by decide +kernel
theorem md_M_code_19 : decode mc_M_code 19 = .ok (.aload_n 0, 1) := by decide +kernel
theorem md_M_code_20 : decode mc_M_code 20 = .ok (.getfield 159, 3) := by decide +kernel
theorem md_M_code_23 : decode mc_M_code 23 = .ok (.if_icmp .ge 10, 3) := by decide +kernel
theorem md_M_code_26 : decode mc_M_code 26 = .ok (.iload_n 1, 1) := by decide +kernel
theorem md_M_code_27 : decode mc_M_code 27 = .ok (.sipush 999, 3) := by decide +kernel
theorem md_M_code_30 : decode mc_M_code 30 = .ok (.if_icmp .le 5, 3) := by decide +kernel
theorem md_M_code_33 : decode mc_M_code 33 = .ok (.iconst (-1), 1) := by decide +kernel
theorem md_M_code_34 : decode mc_M_code 34 = .ok (.ireturn, 1) := by decide +kernel
theorem md_M_code_35 : decode mc_M_code 35 = .ok (.iload_n 2, 1) := by decide +kernel
theorem md_M_code_36 : decode mc_M_code 36 = .ok (.ifCond .lt 8, 3) := by decide +kernel
theorem md_M_code_39 : decode mc_M_code 39 = .ok (.iload_n 2, 1) := by decide +kernel
theorem md_M_code_40 : decode mc_M_code 40 = .ok (.iconst 2, 1) := by decide +kernel
theorem md_M_code_41 : decode mc_M_code 41 = .ok (.if_icmp .le 6, 3) := by decide +kernel
theorem md_M_code_44 : decode mc_M_code 44 = .ok (.bipush (-2), 2) := by decide +kernel
theorem md_M_code_46 : decode mc_M_code 46 = .ok (.ireturn, 1) := by decide +kernel
theorem md_M_code_47 : decode mc_M_code 47 = .ok (.iload_n 2, 1) := by decide +kernel
theorem md_M_code_48 : decode mc_M_code 48 = .ok (.ifCond .ne 12, 3) := by decide +kernel
theorem md_M_code_51 : decode mc_M_code 51 = .ok (.aload_n 0, 1) := by decide +kernel
theorem md_M_code_52 : decode mc_M_code 52 = .ok (.getfield 99, 3) := by decide +kernel
theorem md_M_code_55 : decode mc_M_code 55 = .ok (.iload_n 1, 1) := by decide +kernel
theorem md_M_code_56 : decode mc_M_code 56 = .ok (.iaload, 1) := by decide +kernel
theorem md_M_code_57 : decode mc_M_code 57 = .ok (.goto 24, 3) := by decide +kernel
theorem md_M_code_60 : decode mc_M_code 60 = .ok (.iload_n 2, 1) := by decide +kernel
theorem md_M_code_61 : decode mc_M_code 61 = .ok (.iconst 1, 1) := by decide +kernel
theorem md_M_code_62 : decode mc_M_code 62 = .ok (.if_icmp .ne 12, 3) := by decide +kernel
theorem md_M_code_65 : decode mc_M_code 65 = .ok (.aload_n 0, 1) := by decide +kernel
theorem md_M_code_66 : decode mc_M_code 66 = .ok (.getfield 102, 3) := by decide +kernel
theorem md_M_code_69 : decode mc_M_code 69 = .ok (.iload_n 1, 1) := by decide +kernel
theorem md_M_code_70 : decode mc_M_code 70 = .ok (.iaload, 1) := by decide +kernel
theorem md_M_code_71 : decode mc_M_code 71 = .ok (.goto 10, 3) := by decide +kernel
theorem md_M_code_74 : decode mc_M_code 74 = .ok (.aload_n 0, 1) := by decide +kernel
theorem md_M_code_75 : decode mc_M_code 75 = .ok (.getfield 105, 3) := by decide +kernel
theorem md_M_code_78 : decode mc_M_code 78 = .ok (.iload_n 1, 1) := by decide +kernel
theorem md_M_code_79 : decode mc_M_code 79 = .ok (.laload, 1) := by decide +kernel
theorem md_M_code_80 : decode mc_M_code 80 = .ok (.l2i, 1) := by decide +kernel
theorem md_M_code_81 : decode mc_M_code 81 = .ok (.ireturn, 1) := by decide +kernel
theorem md_M_isSwitch_0 : decode mc_M_isSwitch 0 = .ok (.aload_n 0, 1) := by decide +kernel
theorem md_M_isSwitch_1 : decode mc_M_isSwitch 1 = .ok (.getfield 109, 3) := by decide +kernel
theorem md_M_isSwitch_4 : decode mc_M_isSwitch 4 = .ok (.ldc 235, 2) := by decide +kernel
theorem md_M_isSwitch_6 : decode mc_M_isSwitch 6 = .ok (.iload_n 1, 1) := by decide +kernel
theorem md_M_isSwitch_7 : decode mc_M_isSwitch 7 = .ok (.imul, 1) := by decide +kernel
theorem md_M_isSwitch_8 : decode mc_M_isSwitch 8 = .ok (.iload_n 2, 1) := by decide +kernel
theorem md_M_isSwitch_9 : decode mc_M_isSwitch 9 = .ok (.iadd, 1) := by decide +kernel
theorem md_M_isSwitch_10 : decode mc_M_isSwitch 10 = .ok (.saload, 1) := by decide +kernel
theorem md_M_isSwitch_11 : decode mc_M_isSwitch 11 = .ok (.iload_n 2, 1) := by decide +kernel
theorem md_M_isSwitch_12 : decode mc_M_isSwitch 12 = .ok (.ifCond .ne 7, 3) := by decide +kernel
theorem md_M_isSwitch_15 : decode mc_M_isSwitch 15 = .ok (.iconst 0, 1) := by decide +kernel
theorem md_M_isSwitch_16 : decode mc_M_isSwitch 16 = .ok (.goto 16, 3) := by decide +kernel
theorem md_M_isSwitch_19 : decode mc_M_isSwitch 19 = .ok (.aload_n 0, 1) := by decide +kernel
theorem md_M_isSwitch_20 : decode mc_M_isSwitch 20 = .ok (.getfield 109, 3) := by decide +kernel
theorem md_M_isSwitch_23 : decode mc_M_isSwitch 23 = .ok (.ldc 235, 2) := by decide +kernel
theorem md_M_isSwitch_25 : decode mc_M_isSwitch 25 = .ok (.iload_n 1, 1) := by decide +kernel
theorem md_M_isSwitch_26 : decode mc_M_isSwitch 26 = .ok (.imul, 1) := by decide +kernel
theorem md_M_isSwitch_27 : decode mc_M_isSwitch 27 = .ok (.iload_n 2, 1) := by decide +kernel
theorem md_M_isSwitch_28 : decode mc_M_isSwitch 28 = .ok (.iadd, 1) := by decide +kernel
theorem md_M_isSwitch_29 : decode mc_M_isSwitch 29 = .ok (.iconst 1, 1) := by decide +kernel
theorem md_M_isSwitch_30 : decode mc_M_isSwitch 30 = .ok (.isub, 1) := by decide +kernel
theorem md_M_isSwitch_31 : decode mc_M_isSwitch 31 = .ok (.saload, 1) := by decide +kernel
theorem md_M_isSwitch_32 : decode mc_M_isSwitch 32 = .ok (.if_icmp .eq 7, 3) := by decide +kernel
theorem md_M_isSwitch_35 : decode mc_M_isSwitch 35 = .ok (.iconst 1, 1) := by decide +kernel
theorem md_M_isSwitch_36 : decode mc_M_isSwitch 36 = .ok (.goto 4, 3) := by decide +kernel
theorem md_M_isSwitch_39 : decode mc_M_isSwitch 39 = .ok (.iconst 0, 1) := by decide +kernel
theorem md_M_isSwitch_40 : decode mc_M_isSwitch 40 = .ok (.ireturn, 1) := by decide +kernel
theorem md_M_order_0 : decode mc_M_order 0 = .ok (.iconst 0, 1) := by decide +kernel
theorem md_M_order_1 : decode mc_M_order 1 = .ok (.istore_n 3, 1) := by decide +kernel
theorem md_M_order_2 : decode mc_M_order 2 = .ok (.iconst (-1), 1) := by decide +kernel
theorem md_M_order_3 : decode mc_M_order 3 = .ok (.istore 4, 2) := by decide +kernel
theorem md_M_order_5 : decode mc_M_order 5 = .ok (.iconst 0, 1) := by decide +kernel
theorem md_M_order_6 : decode mc_M_order 6 = .ok (.istore 5, 2) := by decide +kernel
theorem md_M_order_8 : decode mc_M_order 8 = .ok (.iload 5, 2) := by decide +kernel
theorem md_M_order_10 : decode mc_M_order 10 = .ok (.i2l, 1) := by decide +kernel
theorem md_M_order_11 : decode mc_M_order 11 = .ok (.aload_n 0, 1) := by decide +kernel
theorem md_M_order_12 : decode mc_M_order 12 = .ok (.getfield 120, 3) := by decide +kernel
theorem md_M_order_15 : decode mc_M_order 15 = .ok (.lcmp, 1) := by decide +kernel
theorem md_M_order_16 : decode mc_M_order 16 = .ok (.ifCond .ge 64, 3) := by decide +kernel
theorem md_M_order_19 : decode mc_M_order 19 = .ok (.iconst 0, 1) := by decide +kernel
theorem md_M_order_20 : decode mc_M_order 20 = .ok (.istore 6, 2) := by decide +kernel
theorem md_M_order_22 : decode mc_M_order 22 = .ok (.iload 6, 2) := by decide +kernel
theorem md_M_order_24 : decode mc_M_order 24 = .ok (.aload_n 0, 1) := by decide +kernel
theorem md_M_order_25 : decode mc_M_order 25 = .ok (.getfield 113, 3) := by decide +kernel
theorem md_M_order_28 : decode mc_M_order 28 = .ok (.if_icmp .ge 46, 3) := by decide +kernel
theorem md_M_order_31 : decode mc_M_order 31 = .ok (.aload_n 0, 1) := by decide +kernel
theorem md_M_order_32 : decode mc_M_order 32 = .ok (.iload 6, 2) := by decide +kernel
theorem md_M_order_34 : decode mc_M_order 34 = .ok (.iload 5, 2) := by decide +kernel
theorem md_M_order_36 : decode mc_M_order 36 = .ok (.invokevirtual 246, 3) := by decide +kernel
theorem md_M_order_39 : decode mc_M_order 39 = .ok (.ifCond .ne 6, 3) := by decide +kernel
theorem md_M_order_42 : decode mc_M_order 42 = .ok (.goto 26, 3) := by decide +kernel
theorem md_M_order_45 : decode mc_M_order 45 = .ok (.iload_n 3, 1) := by decide +kernel
theorem md_M_order_46 : decode mc_M_order 46 = .ok (.iload_n 1, 1) := by decide +kernel
theorem md_M_order_47 : decode mc_M_order 47 = .ok (.if_icmp .ne 14, 3) := by decide +kernel
theorem md_M_order_50 : decode mc_M_order 50 = .ok (.bipush 8, 2) := by decide +kernel
theorem md_M_order_52 : decode mc_M_order 52 = .ok (.iload 5, 2) := by decide +kernel
theorem md_M_order_54 : decode mc_M_order 54 = .ok (.imul, 1) := by decide +kernel
theorem md_M_order_55 : decode mc_M_order 55 = .ok (.iload 6, 2) := by decide +kernel
theorem md_M_order_57 : decode mc_M_order 57 = .ok (.iadd, 1) := by decide +kernel
theorem md_M_order_58 : decode mc_M_order 58 = .ok (.goto 5, 3) := by decide +kernel
theorem md_M_order_61 : decode mc_M_order 61 = .ok (.iload 4, 2) := by decide +kernel
theorem md_M_order_63 : decode mc_M_order 63 = .ok (.istore 4, 2) := by decide +kernel
theorem md_M_order_65 : decode mc_M_order 65 = .ok (.iinc 3 1, 3) := by decide +kernel
theorem md_M_order_68 : decode mc_M_order 68 = .ok (.iinc 6 1, 3) := by decide +kernel
theorem md_M_order_71 : decode mc_M_order 71 = .ok (.goto (-49), 3) := by decide +kernel
theorem md_M_order_74 : decode mc_M_order 74 = .ok (.iinc 5 1, 3) := by decide +kernel
theorem md_M_order_77 : decode mc_M_order 77 = .ok (.goto (-69), 3) := by decide +kernel
theorem md_M_order_80 : decode mc_M_order 80 = .ok (.iload_n 1, 1) := by decide +kernel
theorem md_M_order_81 : decode mc_M_order 81 = .ok (.iconst (-1), 1) := by decide +kernel
theorem md_M_order_82 : decode mc_M_order 82 = .ok (.if_icmp .ne 9, 3) := by decide +kernel
theorem md_M_order_85 : decode mc_M_order 85 = .ok (.iload_n 2, 1) := by decide +kernel
theorem md_M_order_86 : decode mc_M_order 86 = .ok (.ifCond .ne 5, 3) := by decide +kernel
theorem md_M_order_89 : decode mc_M_order 89 = .ok (.iload_n 3, 1) := by decide +kernel
theorem md_M_order_90 : decode mc_M_order 90 = .ok (.ireturn, 1) := by decide +kernel
theorem md_M_order_91 : decode mc_M_order 91 = .ok (.iload 4, 2) := by decide +kernel
theorem md_M_order_93 : decode mc_M_order 93 = .ok (.ifCond .ge 5, 3) := by decide +kernel
theorem md_M_order_96 : decode mc_M_order 96 = .ok (.iconst (-1), 1) := by decide +kernel
theorem md_M_order_97 : decode mc_M_order 97 = .ok (.ireturn, 1) := by decide +kernel
theorem md_M_order_98 : decode mc_M_order 98 = .ok (.iload_n 2, 1) := by decide +kernel
theorem md_M_order_99 : decode mc_M_order 99 = .ok (.ifCond .lt 8, 3) := by decide +kernel
theorem md_M_order_102 : decode mc_M_order 102 = .ok (.iload_n 2, 1) := by decide +kernel
theorem md_M_order_103 : decode mc_M_order 103 = .ok (.iconst 2, 1) := by decide +kernel
theorem md_M_order_104 : decode mc_M_order 104 = .ok (.if_icmp .le 6, 3) := by decide +kernel
theorem md_M_order_107 : decode mc_M_order 107 = .ok (.bipush (-2), 2) := by decide +kernel
theorem md_M_order_109 : decode mc_M_order 109 = .ok (.ireturn, 1) := by decide +kernel
theorem md_M_order_110 : decode mc_M_order 110 = .ok (.iload_n 2, 1) := by decide +kernel
theorem md_M_order_111 : decode mc_M_order 111 = .ok (.ifCond .ne 11, 3) := by decide +kernel
theorem md_M_order_114 : decode mc_M_order 114 = .ok (.iload 4, 2) := by decide +kernel
theorem md_M_order_116 : decode mc_M_order 116 = .ok (.bipush 8, 2) := by decide +kernel
theorem md_M_order_118 : decode mc_M_order 118 = .ok (.idiv, 1) := by decide +kernel
theorem md_M_order_119 : decode mc_M_order 119 = .ok (.goto 35, 3) := by decide +kernel
theorem md_M_order_122 : decode mc_M_order 122 = .ok (.iload_n 2, 1) := by decide +kernel
theorem md_M_order_123 : decode mc_M_order 123 = .ok (.iconst 1, 1) := by decide +kernel
theorem md_M_order_124 : decode mc_M_order 124 = .ok (.if_icmp .ne 11, 3) := by decide +kernel
theorem md_M_order_127 : decode mc_M_order 127 = .ok (.iload 4, 2) := by decide +kernel
theorem md_M_order_129 : decode mc_M_order 129 = .ok (.bipush 8, 2) := by decide +kernel
theorem md_M_order_131 : decode mc_M_order 131 = .ok (.irem, 1) := by decide +kernel
theorem md_M_order_132 : decode mc_M_order 132 = .ok (.goto 22, 3) := by decide +kernel
theorem md_M_order_135 : decode mc_M_order 135 = .ok (.aload_n 0, 1) := by decide +kernel
theorem md_M_order_136 : decode mc_M_order 136 = .ok (.getfield 109, 3) := by decide +kernel
theorem md_M_order_139 : decode mc_M_order 139 = .ok (.ldc 235, 2) := by decide +kernel
theorem md_M_order_141 : decode mc_M_order 141 = .ok (.iload 4, 2) := by decide +kernel
theorem md_M_order_143 : decode mc_M_order 143 = .ok (.bipush 8, 2) := by decide +kernel
theorem md_M_order_145 : decode mc_M_order 145 = .ok (.irem, 1) := by decide +kernel
theorem md_M_order_146 : decode mc_M_order 146 = .ok (.imul, 1) := by decide +kernel
theorem md_M_order_147 : decode mc_M_order 147 = .ok (.iload 4, 2) := by decide +kernel
theorem md_M_order_149 : decode mc_M_order 149 = .ok (.bipush 8, 2) := by decide +kernel
theorem md_M_order_151 : decode mc_M_order 151 = .ok (.idiv, 1) := by decide +kernel
theorem md_M_order_152 : decode mc_M_order 152 = .ok (.iadd, 1) := by decide +kernel
theorem md_M_order_153 : decode mc_M_order 153 = .ok (.saload, 1) := by decide +kernel
theorem md_M_order_154 : decode mc_M_order 154 = .ok (.ireturn, 1) := by decide +kernel
theorem md_M_spin_0 : decode mc_M_spin 0 = .ok (.iload_n 1, 1) := by decide +kernel
theorem md_M_spin_1 : decode mc_M_spin 1 = .ok (.ifCond .lt 11, 3) := by decide +kernel
theorem md_M_spin_4 : decode mc_M_spin 4 = .ok (.iload_n 1, 1) := by decide +kernel
theorem md_M_spin_5 : decode mc_M_spin 5 = .ok (.aload_n 0, 1) := by decide +kernel
theorem md_M_spin_6 : decode mc_M_spin 6 = .ok (.getfield 113, 3) := by decide +kernel
theorem md_M_spin_9 : decode mc_M_spin 9 = .ok (.if_icmp .lt 7, 3) := by decide +kernel
theorem md_M_spin_12 : decode mc_M_spin 12 = .ok (.sipush (-1000), 3) := by decide +kernel
theorem md_M_spin_15 : decode mc_M_spin 15 = .ok (.ireturn, 1) := by decide +kernel
theorem md_M_spin_16 : decode mc_M_spin 16 = .ok (.iload_n 2, 1) := by decide +kernel
theorem md_M_spin_17 : decode mc_M_spin 17 = .ok (.iconst 1, 1) := by decide +kernel
theorem md_M_spin_18 : decode mc_M_spin 18 = .ok (.if_icmp .lt 9, 3) := by decide +kernel
theorem md_M_spin_21 : decode mc_M_spin 21 = .ok (.iload_n 2, 1) := by decide +kernel
theorem md_M_spin_22 : decode mc_M_spin 22 = .ok (.bipush 16, 2) := by decide +kernel
theorem md_M_spin_24 : decode mc_M_spin 24 = .ok (.if_icmp .le 7, 3) := by decide +kernel
theorem md_M_spin_27 : decode mc_M_spin 27 = .ok (.sipush (-2000), 3) := by decide +kernel
theorem md_M_spin_30 : decode mc_M_spin 30 = .ok (.ireturn, 1) := by decide +kernel
theorem md_M_spin_31 : decode mc_M_spin 31 = .ok (.aload_n 0, 1) := by decide +kernel
theorem md_M_spin_32 : decode mc_M_spin 32 = .ok (.getfield 75, 3) := by decide +kernel
theorem md_M_spin_35 : decode mc_M_spin 35 = .ok (.iload_n 2, 1) := by decide +kernel
theorem md_M_spin_36 : decode mc_M_spin 36 = .ok (.iaload, 1) := by decide +kernel
theorem md_M_spin_37 : decode mc_M_spin 37 = .ok (.ifCond .le 25, 3) := by decide +kernel
theorem md_M_spin_40 : decode mc_M_spin 40 = .ok (.aload_n 0, 1) := by decide +kernel
theorem md_M_spin_41 : decode mc_M_spin 41 = .ok (.getfield 13, 3) := by decide +kernel
theorem md_M_spin_44 : decode mc_M_spin 44 = .ok (.aload_n 0, 1) := by decide +kernel
theorem md_M_spin_45 : decode mc_M_spin 45 = .ok (.getfield 75, 3) := by decide +kernel
theorem md_M_spin_48 : decode mc_M_spin 48 = .ok (.iload_n 2, 1) := by decide +kernel
theorem md_M_spin_49 : decode mc_M_spin 49 = .ok (.iaload, 1) := by decide +kernel
theorem md_M_spin_50 : decode mc_M_spin 50 = .ok (.iaload, 1) := by decide +kernel
theorem md_M_spin_51 : decode mc_M_spin 51 = .ok (.iload_n 1, 1) := by decide +kernel
theorem md_M_spin_52 : decode mc_M_spin 52 = .ok (.if_icmp .ne 10, 3) := by decide +kernel
theorem md_M_spin_55 : decode mc_M_spin 55 = .ok (.aload_n 0, 1) := by decide +kernel
theorem md_M_spin_56 : decode mc_M_spin 56 = .ok (.getfield 75, 3) := by decide +kernel
theorem md_M_spin_59 : decode mc_M_spin 59 = .ok (.iload_n 2, 1) := by decide +kernel
theorem md_M_spin_60 : decode mc_M_spin 60 = .ok (.iaload, 1) := by decide +kernel
theorem md_M_spin_61 : decode mc_M_spin 61 = .ok (.ireturn, 1) := by decide +kernel
theorem md_M_spin_62 : decode mc_M_spin 62 = .ok (.iconst 0, 1) := by decide +kernel
theorem md_M_spin_63 : decode mc_M_spin 63 = .ok (.istore_n 3, 1) := by decide +kernel
theorem md_M_spin_64 : decode mc_M_spin 64 = .ok (.iconst 1, 1) := by decide +kernel
theorem md_M_spin_65 : decode mc_M_spin 65 = .ok (.istore 4, 2) := by decide +kernel
theorem md_M_spin_67 : decode mc_M_spin 67 = .ok (.iload 4, 2) := by decide +kernel
theorem md_M_spin_69 : decode mc_M_spin 69 = .ok (.aload_n 0, 1) := by decide +kernel
theorem md_M_spin_70 : decode mc_M_spin 70 = .ok (.getfield 117, 3) := by decide +kernel
theorem md_M_spin_73 : decode mc_M_spin 73 = .ok (.if_icmp .gt 55, 3) := by decide +kernel
theorem md_M_spin_76 : decode mc_M_spin 76 = .ok (.aload_n 0, 1) := by decide +kernel
theorem md_M_spin_77 : decode mc_M_spin 77 = .ok (.getfield 13, 3) := by decide +kernel
theorem md_M_spin_80 : decode mc_M_spin 80 = .ok (.iload 4, 2) := by decide +kernel
theorem md_M_spin_82 : decode mc_M_spin 82 = .ok (.iaload, 1) := by decide +kernel
theorem md_M_spin_83 : decode mc_M_spin 83 = .ok (.iload_n 1, 1) := by decide +kernel
theorem md_M_spin_84 : decode mc_M_spin 84 = .ok (.if_icmp .ne 38, 3) := by decide +kernel
theorem md_M_spin_87 : decode mc_M_spin 87 = .ok (.aload_n 0, 1) := by decide +kernel
theorem md_M_spin_88 : decode mc_M_spin 88 = .ok (.getfield 78, 3) := by decide +kernel
theorem md_M_spin_91 : decode mc_M_spin 91 = .ok (.iload 4, 2) := by decide +kernel
theorem md_M_spin_93 : decode mc_M_spin 93 = .ok (.iaload, 1) := by decide +kernel
theorem md_M_spin_94 : decode mc_M_spin 94 = .ok (.iload_n 2, 1) := by decide +kernel
theorem md_M_spin_95 : decode mc_M_spin 95 = .ok (.if_icmp .ne 27, 3) := by decide +kernel
theorem md_M_spin_98 : decode mc_M_spin 98 = .ok (.iload_n 3, 1) := by decide +kernel
theorem md_M_spin_99 : decode mc_M_spin 99 = .ok (.ifCond .eq 20, 3) := by decide +kernel
theorem md_M_spin_102 : decode mc_M_spin 102 = .ok (.aload_n 0, 1) := by decide +kernel
theorem md_M_spin_103 : decode mc_M_spin 103 = .ok (.getfield 81, 3) := by decide +kernel
theorem md_M_spin_106 : decode mc_M_spin 106 = .ok (.iload 4, 2) := by decide +kernel
theorem md_M_spin_108 : decode mc_M_spin 108 = .ok (.laload, 1) := by decide +kernel
theorem md_M_spin_109 : decode mc_M_spin 109 = .ok (.aload_n 0, 1) := by decide +kernel
theorem md_M_spin_110 : decode mc_M_spin 110 = .ok (.getfield 81, 3) := by decide +kernel
theorem md_M_spin_113 : decode mc_M_spin 113 = .ok (.iload_n 3, 1) := by decide +kernel
theorem md_M_spin_114 : decode mc_M_spin 114 = .ok (.laload, 1) := by decide +kernel
theorem md_M_spin_115 : decode mc_M_spin 115 = .ok (.lcmp, 1) := by decide +kernel
theorem md_M_spin_116 : decode mc_M_spin 116 = .ok (.ifCond .ge 6, 3) := by decide +kernel
theorem md_M_spin_119 : decode mc_M_spin 119 = .ok (.iload 4, 2) := by decide +kernel
theorem md_M_spin_121 : decode mc_M_spin 121 = .ok (.istore_n 3, 1) := by decide +kernel
theorem md_M_spin_122 : decode mc_M_spin 122 = .ok (.iinc 4 1, 3) := by decide +kernel
theorem md_M_spin_125 : decode mc_M_spin 125 = .ok (.goto (-58), 3) := by decide +kernel
theorem md_M_spin_128 : decode mc_M_spin 128 = .ok (.iload_n 3, 1) := by decide +kernel
theorem md_M_spin_129 : decode mc_M_spin 129 = .ok (.ineg, 1) := by decide +kernel
theorem md_M_spin_130 : decode mc_M_spin 130 = .ok (.ireturn, 1) := by decide +kernel
theorem md_M_holder_0 : decode mc_M_holder 0 = .ok (.iload_n 1, 1) := by decide +kernel
theorem md_M_holder_1 : decode mc_M_holder 1 = .ok (.iconst 1, 1) := by decide +kernel
theorem md_M_holder_2 : decode mc_M_holder 2 = .ok (.if_icmp .lt 9, 3) := by decide +kernel
theorem md_M_holder_5 : decode mc_M_holder 5 = .ok (.iload_n 1, 1) := by decide +kernel
theorem md_M_holder_6 : decode mc_M_holder 6 = .ok (.bipush 32, 2) := by decide +kernel
theorem md_M_holder_8 : decode mc_M_holder 8 = .ok (.if_icmp .le 8, 3) := by decide +kernel
theorem md_M_holder_11 : decode mc_M_holder 11 = .ok (.bipush (-2), 2) := by decide +kernel
theorem md_M_holder_13 : decode mc_M_holder 13 = .ok (.goto 9, 3) := by decide +kernel
theorem md_M_holder_16 : decode mc_M_holder 16 = .ok (.aload_n 0, 1) := by decide +kernel
theorem md_M_holder_17 : decode mc_M_holder 17 = .ok (.getfield 66, 3) := by decide +kernel
theorem md_M_holder_20 : decode mc_M_holder 20 = .ok (.iload_n 1, 1) := by decide +kernel
theorem md_M_holder_21 : decode mc_M_holder 21 = .ok (.iaload, 1) := by decide +kernel
theorem md_M_holder_22 : decode mc_M_holder 22 = .ok (.ireturn, 1) := by decide +kernel
theorem md_C_init_0 : decode mc_C_init 0 = .ok (.aload_n 0, 1) := by decide +kernel
theorem md_C_init_1 : decode mc_C_init 1 = .ok (.invokespecial 3, 3) := by decide +kernel
theorem md_C_init_4 : decode mc_C_init 4 = .ok (.aload_n 0, 1) := by decide +kernel
theorem md_C_init_5 : decode mc_C_init 5 = .ok (.new 9, 3) := by decide +kernel
theorem md_C_init_8 : decode mc_C_init 8 = .ok (.dup, 1) := by decide +kernel
theorem md_C_init_9 : decode mc_C_init 9 = .ok (.ldc 11, 2) := by decide +kernel
theorem md_C_init_11 : decode mc_C_init 11 = .ok (.invokespecial 12, 3) := by decide +kernel
theorem md_C_init_14 : decode mc_C_init 14 = .ok (.putfield 15, 3) := by decide +kernel
theorem md_C_init_17 : decode mc_C_init 17 = .ok (.aload_n 0, 1) := by decide +kernel
theorem md_C_init_18 : decode mc_C_init 18 = .ok (.iload_n 1, 1) := by decide +kernel
theorem md_C_init_19 : decode mc_C_init 19 = .ok (.putfield 21, 3) := by decide +kernel
theorem md_C_init_22 : decode mc_C_init 22 = .ok (.return_, 1) := by decide +kernel
theorem md_C_addTask_0 : decode mc_C_addTask 0 = .ok (.aload_n 0, 1) := by decide +kernel
theorem md_C_addTask_1 : decode mc_C_addTask 1 = .ok (.getfield 25, 3) := by decide +kernel
theorem md_C_addTask_4 : decode mc_C_addTask 4 = .ok (.ifnonnull 11, 3) := by decide +kernel
theorem md_C_addTask_7 : decode mc_C_addTask 7 = .ok (.aload_n 0, 1) := by decide +kernel
theorem md_C_addTask_8 : decode mc_C_addTask 8 = .ok (.aload_n 1, 1) := by decide +kernel
theorem md_C_addTask_9 : decode mc_C_addTask 9 = .ok (.putfield 29, 3) := by decide +kernel
theorem md_C_addTask_12 : decode mc_C_addTask 12 = .ok (.goto 11, 3) := by decide +kernel
theorem md_C_addTask_15 : decode mc_C_addTask 15 = .ok (.aload_n 0, 1) := by decide +kernel
theorem md_C_addTask_16 : decode mc_C_addTask 16 = .ok (.getfield 25, 3) := by decide +kernel
theorem md_C_addTask_19 : decode mc_C_addTask 19 = .ok (.aload_n 1, 1) := by decide +kernel
theorem md_C_addTask_20 : decode mc_C_addTask 20 = .ok (.putfield 32, 3) := by decide +kernel
theorem md_C_addTask_23 : decode mc_C_addTask 23 = .ok (.aload_n 0, 1) := by decide +kernel
theorem md_C_addTask_24 : decode mc_C_addTask 24 = .ok (.aload_n 1, 1) := by decide +kernel
theorem md_C_addTask_25 : decode mc_C_addTask 25 = .ok (.putfield 25, 3) := by decide +kernel
theorem md_C_addTask_28 : decode mc_C_addTask 28 = .ok (.return_, 1) := by decide +kernel
theorem md_C_noteWho_0 : decode mc_C_noteWho 0 = .ok (.aload_n 0, 1) := by decide +kernel
theorem md_C_noteWho_1 : decode mc_C_noteWho 1 = .ok (.iload_n 2, 1) := by decide +kernel
theorem md_C_noteWho_2 : decode mc_C_noteWho 2 = .ok (.putfield 37, 3) := by decide +kernel
theorem md_C_noteWho_5 : decode mc_C_noteWho 5 = .ok (.aload_n 0, 1) := by decide +kernel
theorem md_C_noteWho_6 : decode mc_C_noteWho 6 = .ok (.getfield 15, 3) := by decide +kernel
theorem md_C_noteWho_9 : decode mc_C_noteWho 9 = .ok (.iload_n 1, 1) := by decide +kernel
theorem md_C_noteWho_10 : decode mc_C_noteWho 10 = .ok (.iload_n 2, 1) := by decide +kernel
theorem md_C_noteWho_11 : decode mc_C_noteWho 11 = .ok (.iconst 0, 1) := by decide +kernel
theorem md_C_noteWho_12 : decode mc_C_noteWho 12 = .ok (.invokevirtual 40, 3) := by decide +kernel
theorem md_C_noteWho_15 : decode mc_C_noteWho 15 = .ok (.return_, 1) := by decide +kernel
theorem md_C_whoAt_0 : decode mc_C_whoAt 0 = .ok (.iconst 0, 1) := by decide +kernel
theorem md_C_whoAt_1 : decode mc_C_whoAt 1 = .ok (.istore_n 2, 1) := by decide +kernel
theorem md_C_whoAt_2 : decode mc_C_whoAt 2 = .ok (.aload_n 0, 1) := by decide +kernel
theorem md_C_whoAt_3 : decode mc_C_whoAt 3 = .ok (.getfield 15, 3) := by decide +kernel
theorem md_C_whoAt_6 : decode mc_C_whoAt 6 = .ok (.getfield 44, 3) := by decide +kernel
theorem md_C_whoAt_9 : decode mc_C_whoAt 9 = .ok (.istore_n 3, 1) := by decide +kernel
theorem md_C_whoAt_10 : decode mc_C_whoAt 10 = .ok (.iconst 0, 1) := by decide +kernel
theorem md_C_whoAt_11 : decode mc_C_whoAt 11 = .ok (.istore 4, 2) := by decide +kernel
theorem md_C_whoAt_13 : decode mc_C_whoAt 13 = .ok (.iload 4, 2) := by decide +kernel
theorem md_C_whoAt_15 : decode mc_C_whoAt 15 = .ok (.bipush 32, 2) := by decide +kernel
theorem md_C_whoAt_17 : decode mc_C_whoAt 17 = .ok (.if_icmp .ge 46, 3) := by decide +kernel
theorem md_C_whoAt_20 : decode mc_C_whoAt 20 = .ok (.iload_n 2, 1) := by decide +kernel
theorem md_C_whoAt_21 : decode mc_C_whoAt 21 = .ok (.iload_n 3, 1) := by decide +kernel
theorem md_C_whoAt_22 : decode mc_C_whoAt 22 = .ok (.if_icmp .ge 41, 3) := by decide +kernel
theorem md_C_whoAt_25 : decode mc_C_whoAt 25 = .ok (.iload_n 2, 1) := by decide +kernel
theorem md_C_whoAt_26 : decode mc_C_whoAt 26 = .ok (.iload_n 3, 1) := by decide +kernel
theorem md_C_whoAt_27 : decode mc_C_whoAt 27 = .ok (.iadd, 1) := by decide +kernel
theorem md_C_whoAt_28 : decode mc_C_whoAt 28 = .ok (.iconst 2, 1) := by decide +kernel
theorem md_C_whoAt_29 : decode mc_C_whoAt 29 = .ok (.idiv, 1) := by decide +kernel
theorem md_C_whoAt_30 : decode mc_C_whoAt 30 = .ok (.istore 5, 2) := by decide +kernel
theorem md_C_whoAt_32 : decode mc_C_whoAt 32 = .ok (.aload_n 0, 1) := by decide +kernel
theorem md_C_whoAt_33 : decode mc_C_whoAt 33 = .ok (.getfield 15, 3) := by decide +kernel
theorem md_C_whoAt_36 : decode mc_C_whoAt 36 = .ok (.iload 5, 2) := by decide +kernel
theorem md_C_whoAt_38 : decode mc_C_whoAt 38 = .ok (.iconst 0, 1) := by decide +kernel
theorem md_C_whoAt_39 : decode mc_C_whoAt 39 = .ok (.invokevirtual 47, 3) := by decide +kernel
theorem md_C_whoAt_42 : decode mc_C_whoAt 42 = .ok (.iload_n 1, 1) := by decide +kernel
theorem md_C_whoAt_43 : decode mc_C_whoAt 43 = .ok (.if_icmp .gt 11, 3) := by decide +kernel
theorem md_C_whoAt_46 : decode mc_C_whoAt 46 = .ok (.iload 5, 2) := by decide +kernel
theorem md_C_whoAt_48 : decode mc_C_whoAt 48 = .ok (.iconst 1, 1) := by decide +kernel
theorem md_C_whoAt_49 : decode mc_C_whoAt 49 = .ok (.iadd, 1) := by decide +kernel
theorem md_C_whoAt_50 : decode mc_C_whoAt 50 = .ok (.istore_n 2, 1) := by decide +kernel
theorem md_C_whoAt_51 : decode mc_C_whoAt 51 = .ok (.goto 6, 3) := by decide +kernel
theorem md_C_whoAt_54 : decode mc_C_whoAt 54 = .ok (.iload 5, 2) := by decide +kernel
theorem md_C_whoAt_56 : decode mc_C_whoAt 56 = .ok (.istore_n 3, 1) := by decide +kernel
theorem md_C_whoAt_57 : decode mc_C_whoAt 57 = .ok (.iinc 4 1, 3) := by decide +kernel
theorem md_C_whoAt_60 : decode mc_C_whoAt 60 = .ok (.goto (-47), 3) := by decide +kernel
theorem md_C_whoAt_63 : decode mc_C_whoAt 63 = .ok (.iload_n 2, 1) := by decide +kernel
theorem md_C_whoAt_64 : decode mc_C_whoAt 64 = .ok (.ifCond .ne 7, 3) := by decide +kernel
theorem md_C_whoAt_67 : decode mc_C_whoAt 67 = .ok (.iconst 0, 1) := by decide +kernel
theorem md_C_whoAt_68 : decode mc_C_whoAt 68 = .ok (.goto 14, 3) := by decide +kernel
theorem md_C_whoAt_71 : decode mc_C_whoAt 71 = .ok (.aload_n 0, 1) := by decide +kernel
theorem md_C_whoAt_72 : decode mc_C_whoAt 72 = .ok (.getfield 15, 3) := by decide +kernel
theorem md_C_whoAt_75 : decode mc_C_whoAt 75 = .ok (.iload_n 2, 1) := by decide +kernel
theorem md_C_whoAt_76 : decode mc_C_whoAt 76 = .ok (.iconst 1, 1) := by decide +kernel
theorem md_C_whoAt_77 : decode mc_C_whoAt 77 = .ok (.isub, 1) := by decide +kernel
theorem md_C_whoAt_78 : decode mc_C_whoAt 78 = .ok (.iconst 1, 1) := by decide +kernel
theorem md_C_whoAt_79 : decode mc_C_whoAt 79 = .ok (.invokevirtual 47, 3) := by decide +kernel
theorem md_C_whoAt_82 : decode mc_C_whoAt 82 = .ok (.ireturn, 1) := by decide +kernel
theorem md_I_init_0 : decode mc_I_init 0 = .ok (.aload_n 0, 1) := by decide +kernel
theorem md_I_init_1 : decode mc_I_init 1 = .ok (.invokespecial 1, 3) := by decide +kernel
theorem md_I_init_4 : decode mc_I_init 4 = .ok (.aload_n 0, 1) := by decide +kernel
