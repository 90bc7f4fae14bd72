theorem dL_areSongs_186 : decode cL_areSongs 186 = .ok (.iconst 1, 1) := by decide +kernel
theorem dL_areSongs_187 : decode cL_areSongs 187 = .ok (.iadd, 1) := by decide +kernel
theorem dL_areSongs_188 : decode cL_areSongs 188 = .ok (.invokevirtual 35, 3) := by decide +kernel
theorem dL_areSongs_191 : decode cL_areSongs 191 = .ok (.if_icmp .ne 9, 3) := by decide +kernel
theorem dL_areSongs_194 : decode cL_areSongs 194 = .ok (.iinc 6 1, 3) := by decide +kernel
theorem dL_areSongs_197 : decode cL_areSongs 197 = .ok (.goto (-39), 3) := by decide +kernel
theorem dL_areSongs_200 : decode cL_areSongs 200 = .ok (.iload_n 3, 1) := by decide +kernel
theorem dL_areSongs_201 : decode cL_areSongs 201 = .ok (.iconst 1, 1) := by decide +kernel
theorem dL_areSongs_202 : decode cL_areSongs 202 = .ok (.if_icmp .ne 8, 3) := by decide +kernel
theorem dL_areSongs_205 : decode cL_areSongs 205 = .ok (.bipush 100, 2) := by decide +kernel
theorem dL_areSongs_207 : decode cL_areSongs 207 = .ok (.goto 12, 3) := by decide +kernel
theorem dL_areSongs_210 : decode cL_areSongs 210 = .ok (.bipush 100, 2) := by decide +kernel
theorem dL_areSongs_212 : decode cL_areSongs 212 = .ok (.iload 6, 2) := by decide +kernel
theorem dL_areSongs_214 : decode cL_areSongs 214 = .ok (.imul, 1) := by decide +kernel
theorem dL_areSongs_215 : decode cL_areSongs 215 = .ok (.iload_n 3, 1) := by decide +kernel
theorem dL_areSongs_216 : decode cL_areSongs 216 = .ok (.iconst 1, 1) := by decide +kernel
theorem dL_areSongs_217 : decode cL_areSongs 217 = .ok (.isub, 1) := by decide +kernel
theorem dL_areSongs_218 : decode cL_areSongs 218 = .ok (.idiv, 1) := by decide +kernel
theorem dL_areSongs_219 : decode cL_areSongs 219 = .ok (.istore 7, 2) := by decide +kernel
theorem dL_areSongs_221 : decode cL_areSongs 221 = .ok (.iload 4, 2) := by decide +kernel
theorem dL_areSongs_223 : decode cL_areSongs 223 = .ok (.iload 7, 2) := by decide +kernel
theorem dL_areSongs_225 : decode cL_areSongs 225 = .ok (.bipush 100, 2) := by decide +kernel
theorem dL_areSongs_227 : decode cL_areSongs 227 = .ok (.if_icmp .ne 10, 3) := by decide +kernel
theorem dL_areSongs_230 : decode cL_areSongs 230 = .ok (.iconst 1, 1) := by decide +kernel
theorem dL_areSongs_231 : decode cL_areSongs 231 = .ok (.iload 5, 2) := by decide +kernel
theorem dL_areSongs_233 : decode cL_areSongs 233 = .ok (.ishl, 1) := by decide +kernel
theorem dL_areSongs_234 : decode cL_areSongs 234 = .ok (.goto 4, 3) := by decide +kernel
theorem dL_areSongs_237 : decode cL_areSongs 237 = .ok (.iconst 0, 1) := by decide +kernel
theorem dL_areSongs_238 : decode cL_areSongs 238 = .ok (.ior, 1) := by decide +kernel
theorem dL_areSongs_239 : decode cL_areSongs 239 = .ok (.istore 4, 2) := by decide +kernel
theorem dL_areSongs_241 : decode cL_areSongs 241 = .ok (.aload_n 0, 1) := by decide +kernel
theorem dL_areSongs_242 : decode cL_areSongs 242 = .ok (.iload 5, 2) := by decide +kernel
theorem dL_areSongs_244 : decode cL_areSongs 244 = .ok (.aload_n 0, 1) := by decide +kernel
theorem dL_areSongs_245 : decode cL_areSongs 245 = .ok (.iload_n 2, 1) := by decide +kernel
theorem dL_areSongs_246 : decode cL_areSongs 246 = .ok (.iconst 3, 1) := by decide +kernel
theorem dL_areSongs_247 : decode cL_areSongs 247 = .ok (.invokevirtual 32, 3) := by decide +kernel
theorem dL_areSongs_250 : decode cL_areSongs 250 = .ok (.iconst 1, 1) := by decide +kernel
theorem dL_areSongs_251 : decode cL_areSongs 251 = .ok (.invokevirtual 19, 3) := by decide +kernel
theorem dL_areSongs_254 : decode cL_areSongs 254 = .ok (.istore 8, 2) := by decide +kernel
theorem dL_areSongs_256 : decode cL_areSongs 256 = .ok (.aload_n 0, 1) := by decide +kernel
theorem dL_areSongs_257 : decode cL_areSongs 257 = .ok (.iload 5, 2) := by decide +kernel
theorem dL_areSongs_259 : decode cL_areSongs 259 = .ok (.iload_n 2, 1) := by decide +kernel
theorem dL_areSongs_260 : decode cL_areSongs 260 = .ok (.invokevirtual 41, 3) := by decide +kernel
theorem dL_areSongs_263 : decode cL_areSongs 263 = .ok (.iload 7, 2) := by decide +kernel
theorem dL_areSongs_265 : decode cL_areSongs 265 = .ok (.if_icmp .ne 140, 3) := by decide +kernel
theorem dL_areSongs_268 : decode cL_areSongs 268 = .ok (.aload_n 0, 1) := by decide +kernel
theorem dL_areSongs_269 : decode cL_areSongs 269 = .ok (.iload 5, 2) := by decide +kernel
theorem dL_areSongs_271 : decode cL_areSongs 271 = .ok (.bipush 6, 2) := by decide +kernel
theorem dL_areSongs_273 : decode cL_areSongs 273 = .ok (.invokevirtual 9, 3) := by decide +kernel
theorem dL_areSongs_276 : decode cL_areSongs 276 = .ok (.iload_n 2, 1) := by decide +kernel
theorem dL_areSongs_277 : decode cL_areSongs 277 = .ok (.ishr, 1) := by decide +kernel
theorem dL_areSongs_278 : decode cL_areSongs 278 = .ok (.iconst 1, 1) := by decide +kernel
theorem dL_areSongs_279 : decode cL_areSongs 279 = .ok (.iand, 1) := by decide +kernel
theorem dL_areSongs_280 : decode cL_areSongs 280 = .ok (.iload 7, 2) := by decide +kernel
theorem dL_areSongs_282 : decode cL_areSongs 282 = .ok (.bipush 100, 2) := by decide +kernel
theorem dL_areSongs_284 : decode cL_areSongs 284 = .ok (.if_icmp .ne 7, 3) := by decide +kernel
theorem dL_areSongs_287 : decode cL_areSongs 287 = .ok (.iconst 1, 1) := by decide +kernel
theorem dL_areSongs_288 : decode cL_areSongs 288 = .ok (.goto 4, 3) := by decide +kernel
theorem dL_areSongs_291 : decode cL_areSongs 291 = .ok (.iconst 0, 1) := by decide +kernel
theorem dL_areSongs_292 : decode cL_areSongs 292 = .ok (.if_icmp .ne 113, 3) := by decide +kernel
theorem dL_areSongs_295 : decode cL_areSongs 295 = .ok (.aload_n 0, 1) := by decide +kernel
theorem dL_areSongs_296 : decode cL_areSongs 296 = .ok (.iload 5, 2) := by decide +kernel
theorem dL_areSongs_298 : decode cL_areSongs 298 = .ok (.iload_n 2, 1) := by decide +kernel
theorem dL_areSongs_299 : decode cL_areSongs 299 = .ok (.iconst 0, 1) := by decide +kernel
theorem dL_areSongs_300 : decode cL_areSongs 300 = .ok (.invokevirtual 44, 3) := by decide +kernel
theorem dL_areSongs_303 : decode cL_areSongs 303 = .ok (.iload 7, 2) := by decide +kernel
theorem dL_areSongs_305 : decode cL_areSongs 305 = .ok (.bipush 100, 2) := by decide +kernel
theorem dL_areSongs_307 : decode cL_areSongs 307 = .ok (.if_icmp .ne 8, 3) := by decide +kernel
theorem dL_areSongs_310 : decode cL_areSongs 310 = .ok (.bipush (-5), 2) := by decide +kernel
theorem dL_areSongs_312 : decode cL_areSongs 312 = .ok (.goto 7, 3) := by decide +kernel
theorem dL_areSongs_315 : decode cL_areSongs 315 = .ok (.iload 6, 2) := by decide +kernel
theorem dL_areSongs_317 : decode cL_areSongs 317 = .ok (.iconst 1, 1) := by decide +kernel
theorem dL_areSongs_318 : decode cL_areSongs 318 = .ok (.iadd, 1) := by decide +kernel
theorem dL_areSongs_319 : decode cL_areSongs 319 = .ok (.if_icmp .ne 86, 3) := by decide +kernel
theorem dL_areSongs_322 : decode cL_areSongs 322 = .ok (.iload 7, 2) := by decide +kernel
theorem dL_areSongs_324 : decode cL_areSongs 324 = .ok (.bipush 100, 2) := by decide +kernel
theorem dL_areSongs_326 : decode cL_areSongs 326 = .ok (.if_icmp .eq 28, 3) := by decide +kernel
theorem dL_areSongs_329 : decode cL_areSongs 329 = .ok (.aload_n 0, 1) := by decide +kernel
theorem dL_areSongs_330 : decode cL_areSongs 330 = .ok (.iload 5, 2) := by decide +kernel
theorem dL_areSongs_332 : decode cL_areSongs 332 = .ok (.iload_n 2, 1) := by decide +kernel
theorem dL_areSongs_333 : decode cL_areSongs 333 = .ok (.iconst 1, 1) := by decide +kernel
theorem dL_areSongs_334 : decode cL_areSongs 334 = .ok (.invokevirtual 44, 3) := by decide +kernel
theorem dL_areSongs_337 : decode cL_areSongs 337 = .ok (.aload_n 0, 1) := by decide +kernel
theorem dL_areSongs_338 : decode cL_areSongs 338 = .ok (.iload 5, 2) := by decide +kernel
theorem dL_areSongs_340 : decode cL_areSongs 340 = .ok (.aload_n 0, 1) := by decide +kernel
theorem dL_areSongs_341 : decode cL_areSongs 341 = .ok (.iload_n 2, 1) := by decide +kernel
theorem dL_areSongs_342 : decode cL_areSongs 342 = .ok (.iload 6, 2) := by decide +kernel
theorem dL_areSongs_344 : decode cL_areSongs 344 = .ok (.invokevirtual 35, 3) := by decide +kernel
theorem dL_areSongs_347 : decode cL_areSongs 347 = .ok (.iconst 1, 1) := by decide +kernel
theorem dL_areSongs_348 : decode cL_areSongs 348 = .ok (.invokevirtual 19, 3) := by decide +kernel
theorem dL_areSongs_351 : decode cL_areSongs 351 = .ok (.if_icmp .ne 54, 3) := by decide +kernel
theorem dL_areSongs_354 : decode cL_areSongs 354 = .ok (.iload 7, 2) := by decide +kernel
theorem dL_areSongs_356 : decode cL_areSongs 356 = .ok (.bipush 100, 2) := by decide +kernel
theorem dL_areSongs_358 : decode cL_areSongs 358 = .ok (.if_icmp .lt 13, 3) := by decide +kernel
theorem dL_areSongs_361 : decode cL_areSongs 361 = .ok (.aload_n 0, 1) := by decide +kernel
theorem dL_areSongs_362 : decode cL_areSongs 362 = .ok (.iload 5, 2) := by decide +kernel
theorem dL_areSongs_364 : decode cL_areSongs 364 = .ok (.iload_n 2, 1) := by decide +kernel
theorem dL_areSongs_365 : decode cL_areSongs 365 = .ok (.invokevirtual 47, 3) := by decide +kernel
theorem dL_areSongs_368 : decode cL_areSongs 368 = .ok (.ifCond .ne 37, 3) := by decide +kernel
theorem dL_areSongs_371 : decode cL_areSongs 371 = .ok (.iload 7, 2) := by decide +kernel
theorem dL_areSongs_373 : decode cL_areSongs 373 = .ok (.bipush 100, 2) := by decide +kernel
theorem dL_areSongs_375 : decode cL_areSongs 375 = .ok (.if_icmp .ne 7, 3) := by decide +kernel
theorem dL_areSongs_378 : decode cL_areSongs 378 = .ok (.iconst 1, 1) := by decide +kernel
theorem dL_areSongs_379 : decode cL_areSongs 379 = .ok (.goto 4, 3) := by decide +kernel
theorem dL_areSongs_382 : decode cL_areSongs 382 = .ok (.iconst 0, 1) := by decide +kernel
theorem dL_areSongs_383 : decode cL_areSongs 383 = .ok (.aload_n 0, 1) := by decide +kernel
theorem dL_areSongs_384 : decode cL_areSongs 384 = .ok (.iload 5, 2) := by decide +kernel
theorem dL_areSongs_386 : decode cL_areSongs 386 = .ok (.iload_n 2, 1) := by decide +kernel
theorem dL_areSongs_387 : decode cL_areSongs 387 = .ok (.invokevirtual 50, 3) := by decide +kernel
theorem dL_areSongs_390 : decode cL_areSongs 390 = .ok (.ifCond .eq 7, 3) := by decide +kernel
theorem dL_areSongs_393 : decode cL_areSongs 393 = .ok (.iconst 1, 1) := by decide +kernel
theorem dL_areSongs_394 : decode cL_areSongs 394 = .ok (.goto 4, 3) := by decide +kernel
theorem dL_areSongs_397 : decode cL_areSongs 397 = .ok (.iconst 0, 1) := by decide +kernel
theorem dL_areSongs_398 : decode cL_areSongs 398 = .ok (.if_icmp .ne 7, 3) := by decide +kernel
theorem dL_areSongs_401 : decode cL_areSongs 401 = .ok (.iconst 1, 1) := by decide +kernel
theorem dL_areSongs_402 : decode cL_areSongs 402 = .ok (.goto 4, 3) := by decide +kernel
theorem dL_areSongs_405 : decode cL_areSongs 405 = .ok (.iconst 0, 1) := by decide +kernel
theorem dL_areSongs_406 : decode cL_areSongs 406 = .ok (.istore_n 1, 1) := by decide +kernel
theorem dL_areSongs_407 : decode cL_areSongs 407 = .ok (.iconst 0, 1) := by decide +kernel
theorem dL_areSongs_408 : decode cL_areSongs 408 = .ok (.istore 9, 2) := by decide +kernel
theorem dL_areSongs_410 : decode cL_areSongs 410 = .ok (.iload 9, 2) := by decide +kernel
theorem dL_areSongs_412 : decode cL_areSongs 412 = .ok (.aload_n 0, 1) := by decide +kernel
theorem dL_areSongs_413 : decode cL_areSongs 413 = .ok (.iconst 1, 1) := by decide +kernel
theorem dL_areSongs_414 : decode cL_areSongs 414 = .ok (.invokevirtual 28, 3) := by decide +kernel
theorem dL_areSongs_417 : decode cL_areSongs 417 = .ok (.if_icmp .ge 73, 3) := by decide +kernel
theorem dL_areSongs_420 : decode cL_areSongs 420 = .ok (.iload_n 1, 1) := by decide +kernel
theorem dL_areSongs_421 : decode cL_areSongs 421 = .ok (.ifCond .eq 69, 3) := by decide +kernel
theorem dL_areSongs_424 : decode cL_areSongs 424 = .ok (.aload_n 0, 1) := by decide +kernel
theorem dL_areSongs_425 : decode cL_areSongs 425 = .ok (.iload 5, 2) := by decide +kernel
theorem dL_areSongs_427 : decode cL_areSongs 427 = .ok (.iload_n 2, 1) := by decide +kernel
theorem dL_areSongs_428 : decode cL_areSongs 428 = .ok (.invokevirtual 53, 3) := by decide +kernel
theorem dL_areSongs_431 : decode cL_areSongs 431 = .ok (.iload 9, 2) := by decide +kernel
theorem dL_areSongs_433 : decode cL_areSongs 433 = .ok (.ishr, 1) := by decide +kernel
theorem dL_areSongs_434 : decode cL_areSongs 434 = .ok (.iconst 1, 1) := by decide +kernel
theorem dL_areSongs_435 : decode cL_areSongs 435 = .ok (.iand, 1) := by decide +kernel
theorem dL_areSongs_436 : decode cL_areSongs 436 = .ok (.iload 8, 2) := by decide +kernel
theorem dL_areSongs_438 : decode cL_areSongs 438 = .ok (.ifCond .lt 19, 3) := by decide +kernel
theorem dL_areSongs_441 : decode cL_areSongs 441 = .ok (.aload_n 0, 1) := by decide +kernel
theorem dL_areSongs_442 : decode cL_areSongs 442 = .ok (.iload 9, 2) := by decide +kernel
theorem dL_areSongs_444 : decode cL_areSongs 444 = .ok (.iconst 2, 1) := by decide +kernel
theorem dL_areSongs_445 : decode cL_areSongs 445 = .ok (.invokevirtual 32, 3) := by decide +kernel
theorem dL_areSongs_448 : decode cL_areSongs 448 = .ok (.iload 8, 2) := by decide +kernel
theorem dL_areSongs_450 : decode cL_areSongs 450 = .ok (.if_icmp .ne 7, 3) := by decide +kernel
theorem dL_areSongs_453 : decode cL_areSongs 453 = .ok (.iconst 1, 1) := by decide +kernel
theorem dL_areSongs_454 : decode cL_areSongs 454 = .ok (.goto 4, 3) := by decide +kernel
theorem dL_areSongs_457 : decode cL_areSongs 457 = .ok (.iconst 0, 1) := by decide +kernel
theorem dL_areSongs_458 : decode cL_areSongs 458 = .ok (.if_icmp .ne 24, 3) := by decide +kernel
theorem dL_areSongs_461 : decode cL_areSongs 461 = .ok (.aload_n 0, 1) := by decide +kernel
theorem dL_areSongs_462 : decode cL_areSongs 462 = .ok (.iload_n 2, 1) := by decide +kernel
theorem dL_areSongs_463 : decode cL_areSongs 463 = .ok (.iload 9, 2) := by decide +kernel
theorem dL_areSongs_465 : decode cL_areSongs 465 = .ok (.invokevirtual 38, 3) := by decide +kernel
theorem dL_areSongs_468 : decode cL_areSongs 468 = .ok (.aload_n 0, 1) := by decide +kernel
theorem dL_areSongs_469 : decode cL_areSongs 469 = .ok (.iload 9, 2) := by decide +kernel
theorem dL_areSongs_471 : decode cL_areSongs 471 = .ok (.iload_n 2, 1) := by decide +kernel
theorem dL_areSongs_472 : decode cL_areSongs 472 = .ok (.invokevirtual 38, 3) := by decide +kernel
theorem dL_areSongs_475 : decode cL_areSongs 475 = .ok (.if_icmp .ne 7, 3) := by decide +kernel
theorem dL_areSongs_478 : decode cL_areSongs 478 = .ok (.iconst 1, 1) := by decide +kernel
theorem dL_areSongs_479 : decode cL_areSongs 479 = .ok (.goto 4, 3) := by decide +kernel
theorem dL_areSongs_482 : decode cL_areSongs 482 = .ok (.iconst 0, 1) := by decide +kernel
theorem dL_areSongs_483 : decode cL_areSongs 483 = .ok (.istore_n 1, 1) := by decide +kernel
theorem dL_areSongs_484 : decode cL_areSongs 484 = .ok (.iinc 9 1, 3) := by decide +kernel
theorem dL_areSongs_487 : decode cL_areSongs 487 = .ok (.goto (-77), 3) := by decide +kernel
theorem dL_areSongs_490 : decode cL_areSongs 490 = .ok (.iinc 5 1, 3) := by decide +kernel
theorem dL_areSongs_493 : decode cL_areSongs 493 = .ok (.goto (-352), 3) := by decide +kernel
theorem dL_areSongs_496 : decode cL_areSongs 496 = .ok (.iload_n 1, 1) := by decide +kernel
theorem dL_areSongs_497 : decode cL_areSongs 497 = .ok (.ifCond .eq 18, 3) := by decide +kernel
theorem dL_areSongs_500 : decode cL_areSongs 500 = .ok (.aload_n 0, 1) := by decide +kernel
theorem dL_areSongs_501 : decode cL_areSongs 501 = .ok (.iload_n 2, 1) := by decide +kernel
theorem dL_areSongs_502 : decode cL_areSongs 502 = .ok (.iconst 5, 1) := by decide +kernel
theorem dL_areSongs_503 : decode cL_areSongs 503 = .ok (.invokevirtual 32, 3) := by decide +kernel
theorem dL_areSongs_506 : decode cL_areSongs 506 = .ok (.iload 4, 2) := by decide +kernel
theorem dL_areSongs_508 : decode cL_areSongs 508 = .ok (.if_icmp .ne 7, 3) := by decide +kernel
theorem dL_areSongs_511 : decode cL_areSongs 511 = .ok (.iconst 1, 1) := by decide +kernel
theorem dL_areSongs_512 : decode cL_areSongs 512 = .ok (.goto 4, 3) := by decide +kernel
theorem dL_areSongs_515 : decode cL_areSongs 515 = .ok (.iconst 0, 1) := by decide +kernel
theorem dL_areSongs_516 : decode cL_areSongs 516 = .ok (.istore_n 1, 1) := by decide +kernel
theorem dL_areSongs_517 : decode cL_areSongs 517 = .ok (.iinc 2 1, 3) := by decide +kernel
theorem dL_areSongs_520 : decode cL_areSongs 520 = .ok (.goto (-484), 3) := by decide +kernel
theorem dL_areSongs_523 : decode cL_areSongs 523 = .ok (.iload_n 1, 1) := by decide +kernel
theorem dL_areSongs_524 : decode cL_areSongs 524 = .ok (.ireturn, 1) := by decide +kernel
theorem dL_areSums_0 : decode cL_areSums 0 = .ok (.iconst 0, 1) := by decide +kernel
theorem dL_areSums_1 : decode cL_areSums 1 = .ok (.istore_n 1, 1) := by decide +kernel
theorem dL_areSums_2 : decode cL_areSums 2 = .ok (.iconst 0, 1) := by decide +kernel
theorem dL_areSums_3 : decode cL_areSums 3 = .ok (.istore_n 2, 1) := by decide +kernel
theorem dL_areSums_4 : decode cL_areSums 4 = .ok (.iconst 0, 1) := by decide +kernel
theorem dL_areSums_5 : decode cL_areSums 5 = .ok (.istore_n 3, 1) := by decide +kernel
theorem dL_areSums_6 : decode cL_areSums 6 = .ok (.iconst 0, 1) := by decide +kernel
theorem dL_areSums_7 : decode cL_areSums 7 = .ok (.istore 4, 2) := by decide +kernel
theorem dL_areSums_9 : decode cL_areSums 9 = .ok (.iconst 0, 1) := by decide +kernel
theorem dL_areSums_10 : decode cL_areSums 10 = .ok (.istore 5, 2) := by decide +kernel
theorem dL_areSums_12 : decode cL_areSums 12 = .ok (.iconst 1, 1) := by decide +kernel
theorem dL_areSums_13 : decode cL_areSums 13 = .ok (.istore 6, 2) := by decide +kernel
theorem dL_areSums_15 : decode cL_areSums 15 = .ok (.iconst 0, 1) := by decide +kernel
theorem dL_areSums_16 : decode cL_areSums 16 = .ok (.istore 7, 2) := by decide +kernel
theorem dL_areSums_18 : decode cL_areSums 18 = .ok (.iload 7, 2) := by decide +kernel
theorem dL_areSums_20 : decode cL_areSums 20 = .ok (.aload_n 0, 1) := by decide +kernel
theorem dL_areSums_21 : decode cL_areSums 21 = .ok (.iconst 2, 1) := by decide +kernel
theorem dL_areSums_22 : decode cL_areSums 22 = .ok (.invokevirtual 28, 3) := by decide +kernel
theorem dL_areSums_25 : decode cL_areSums 25 = .ok (.if_icmp .ge 111, 3) := by decide +kernel
theorem dL_areSums_28 : decode cL_areSums 28 = .ok (.iload 6, 2) := by decide +kernel
theorem dL_areSums_30 : decode cL_areSums 30 = .ok (.ifCond .eq 106, 3) := by decide +kernel
theorem dL_areSums_33 : decode cL_areSums 33 = .ok (.iload_n 1, 1) := by decide +kernel
theorem dL_areSums_34 : decode cL_areSums 34 = .ok (.aload_n 0, 1) := by decide +kernel
theorem dL_areSums_35 : decode cL_areSums 35 = .ok (.iload 7, 2) := by decide +kernel
theorem dL_areSums_37 : decode cL_areSums 37 = .ok (.iconst 0, 1) := by decide +kernel
theorem dL_areSums_38 : decode cL_areSums 38 = .ok (.invokevirtual 9, 3) := by decide +kernel
theorem dL_areSums_41 : decode cL_areSums 41 = .ok (.iadd, 1) := by decide +kernel
theorem dL_areSums_42 : decode cL_areSums 42 = .ok (.istore_n 1, 1) := by decide +kernel
theorem dL_areSums_43 : decode cL_areSums 43 = .ok (.iload_n 2, 1) := by decide +kernel
theorem dL_areSums_44 : decode cL_areSums 44 = .ok (.aload_n 0, 1) := by decide +kernel
theorem dL_areSums_45 : decode cL_areSums 45 = .ok (.iload 7, 2) := by decide +kernel
theorem dL_areSums_47 : decode cL_areSums 47 = .ok (.iconst 4, 1) := by decide +kernel
theorem dL_areSums_48 : decode cL_areSums 48 = .ok (.invokevirtual 9, 3) := by decide +kernel
theorem dL_areSums_51 : decode cL_areSums 51 = .ok (.iadd, 1) := by decide +kernel
theorem dL_areSums_52 : decode cL_areSums 52 = .ok (.istore_n 2, 1) := by decide +kernel
theorem dL_areSums_53 : decode cL_areSums 53 = .ok (.iload_n 3, 1) := by decide +kernel
theorem dL_areSums_54 : decode cL_areSums 54 = .ok (.aload_n 0, 1) := by decide +kernel
theorem dL_areSums_55 : decode cL_areSums 55 = .ok (.iload 7, 2) := by decide +kernel
theorem dL_areSums_57 : decode cL_areSums 57 = .ok (.iconst 5, 1) := by decide +kernel
theorem dL_areSums_58 : decode cL_areSums 58 = .ok (.invokevirtual 9, 3) := by decide +kernel
theorem dL_areSums_61 : decode cL_areSums 61 = .ok (.iadd, 1) := by decide +kernel
theorem dL_areSums_62 : decode cL_areSums 62 = .ok (.istore_n 3, 1) := by decide +kernel
theorem dL_areSums_63 : decode cL_areSums 63 = .ok (.iload 5, 2) := by decide +kernel
theorem dL_areSums_65 : decode cL_areSums 65 = .ok (.aload_n 0, 1) := by decide +kernel
theorem dL_areSums_66 : decode cL_areSums 66 = .ok (.iload 7, 2) := by decide +kernel
theorem dL_areSums_68 : decode cL_areSums 68 = .ok (.iconst 3, 1) := by decide +kernel
theorem dL_areSums_69 : decode cL_areSums 69 = .ok (.invokevirtual 9, 3) := by decide +kernel
theorem dL_areSums_72 : decode cL_areSums 72 = .ok (.aload_n 0, 1) := by decide +kernel
theorem dL_areSums_73 : decode cL_areSums 73 = .ok (.bipush 11, 2) := by decide +kernel
theorem dL_areSums_75 : decode cL_areSums 75 = .ok (.invokevirtual 28, 3) := by decide +kernel
theorem dL_areSums_78 : decode cL_areSums 78 = .ok (.if_icmp .lt 10, 3) := by decide +kernel
theorem dL_areSums_81 : decode cL_areSums 81 = .ok (.iconst 1, 1) := by decide +kernel
theorem dL_areSums_82 : decode cL_areSums 82 = .ok (.iload 7, 2) := by decide +kernel
theorem dL_areSums_84 : decode cL_areSums 84 = .ok (.ishl, 1) := by decide +kernel
theorem dL_areSums_85 : decode cL_areSums 85 = .ok (.goto 4, 3) := by decide +kernel
theorem dL_areSums_88 : decode cL_areSums 88 = .ok (.iconst 0, 1) := by decide +kernel
theorem dL_areSums_89 : decode cL_areSums 89 = .ok (.ior, 1) := by decide +kernel
theorem dL_areSums_90 : decode cL_areSums 90 = .ok (.istore 5, 2) := by decide +kernel
theorem dL_areSums_92 : decode cL_areSums 92 = .ok (.aload_n 0, 1) := by decide +kernel
theorem dL_areSums_93 : decode cL_areSums 93 = .ok (.iload 7, 2) := by decide +kernel
theorem dL_areSums_95 : decode cL_areSums 95 = .ok (.invokestatic 56, 3) := by decide +kernel
theorem dL_areSums_98 : decode cL_areSums 98 = .ok (.ifCond .eq 29, 3) := by decide +kernel
theorem dL_areSums_101 : decode cL_areSums 101 = .ok (.aload_n 0, 1) := by decide +kernel
theorem dL_areSums_102 : decode cL_areSums 102 = .ok (.iload 7, 2) := by decide +kernel
theorem dL_areSums_104 : decode cL_areSums 104 = .ok (.iconst 2, 1) := by decide +kernel
theorem dL_areSums_105 : decode cL_areSums 105 = .ok (.invokevirtual 9, 3) := by decide +kernel
theorem dL_areSums_108 : decode cL_areSums 108 = .ok (.bipush (-6), 2) := by decide +kernel
theorem dL_areSums_110 : decode cL_areSums 110 = .ok (.if_icmp .eq 13, 3) := by decide +kernel
theorem dL_areSums_113 : decode cL_areSums 113 = .ok (.aload_n 0, 1) := by decide +kernel
theorem dL_areSums_114 : decode cL_areSums 114 = .ok (.iload 7, 2) := by decide +kernel
theorem dL_areSums_116 : decode cL_areSums 116 = .ok (.iconst 3, 1) := by decide +kernel
theorem dL_areSums_117 : decode cL_areSums 117 = .ok (.invokevirtual 9, 3) := by decide +kernel
theorem dL_areSums_120 : decode cL_areSums 120 = .ok (.ifCond .le 7, 3) := by decide +kernel
theorem dL_areSums_123 : decode cL_areSums 123 = .ok (.iconst 1, 1) := by decide +kernel
theorem dL_areSums_124 : decode cL_areSums 124 = .ok (.goto 4, 3) := by decide +kernel
theorem dL_areSums_127 : decode cL_areSums 127 = .ok (.iconst 0, 1) := by decide +kernel
theorem dL_areSums_128 : decode cL_areSums 128 = .ok (.istore 6, 2) := by decide +kernel
theorem dL_areSums_130 : decode cL_areSums 130 = .ok (.iinc 7 1, 3) := by decide +kernel
theorem dL_areSums_133 : decode cL_areSums 133 = .ok (.goto (-115), 3) := by decide +kernel
theorem dL_areSums_136 : decode cL_areSums 136 = .ok (.iconst 0, 1) := by decide +kernel
theorem dL_areSums_137 : decode cL_areSums 137 = .ok (.istore 7, 2) := by decide +kernel
theorem dL_areSums_139 : decode cL_areSums 139 = .ok (.iload 7, 2) := by decide +kernel
theorem dL_areSums_141 : decode cL_areSums 141 = .ok (.aload_n 0, 1) := by decide +kernel
theorem dL_areSums_142 : decode cL_areSums 142 = .ok (.iconst 1, 1) := by decide +kernel
theorem dL_areSums_143 : decode cL_areSums 143 = .ok (.invokevirtual 28, 3) := by decide +kernel
theorem dL_areSums_146 : decode cL_areSums 146 = .ok (.if_icmp .ge 21, 3) := by decide +kernel
theorem dL_areSums_149 : decode cL_areSums 149 = .ok (.iload 4, 2) := by decide +kernel
theorem dL_areSums_151 : decode cL_areSums 151 = .ok (.aload_n 0, 1) := by decide +kernel
theorem dL_areSums_152 : decode cL_areSums 152 = .ok (.iload 7, 2) := by decide +kernel
theorem dL_areSums_154 : decode cL_areSums 154 = .ok (.iconst 4, 1) := by decide +kernel
theorem dL_areSums_155 : decode cL_areSums 155 = .ok (.invokevirtual 32, 3) := by decide +kernel
theorem dL_areSums_158 : decode cL_areSums 158 = .ok (.iadd, 1) := by decide +kernel
theorem dL_areSums_159 : decode cL_areSums 159 = .ok (.istore 4, 2) := by decide +kernel
theorem dL_areSums_161 : decode cL_areSums 161 = .ok (.iinc 7 1, 3) := by decide +kernel
theorem dL_areSums_164 : decode cL_areSums 164 = .ok (.goto (-25), 3) := by decide +kernel
theorem dL_areSums_167 : decode cL_areSums 167 = .ok (.iload 6, 2) := by decide +kernel
theorem dL_areSums_169 : decode cL_areSums 169 = .ok (.ifCond .eq 56, 3) := by decide +kernel
theorem dL_areSums_172 : decode cL_areSums 172 = .ok (.iload_n 1, 1) := by decide +kernel
theorem dL_areSums_173 : decode cL_areSums 173 = .ok (.aload_n 0, 1) := by decide +kernel
theorem dL_areSums_174 : decode cL_areSums 174 = .ok (.iconst 5, 1) := by decide +kernel
theorem dL_areSums_175 : decode cL_areSums 175 = .ok (.invokevirtual 28, 3) := by decide +kernel
theorem dL_areSums_178 : decode cL_areSums 178 = .ok (.if_icmp .ne 47, 3) := by decide +kernel
theorem dL_areSums_181 : decode cL_areSums 181 = .ok (.iload_n 2, 1) := by decide +kernel
theorem dL_areSums_182 : decode cL_areSums 182 = .ok (.aload_n 0, 1) := by decide +kernel
theorem dL_areSums_183 : decode cL_areSums 183 = .ok (.iconst 4, 1) := by decide +kernel
theorem dL_areSums_184 : decode cL_areSums 184 = .ok (.invokevirtual 28, 3) := by decide +kernel
theorem dL_areSums_187 : decode cL_areSums 187 = .ok (.if_icmp .ne 38, 3) := by decide +kernel
theorem dL_areSums_190 : decode cL_areSums 190 = .ok (.iload_n 3, 1) := by decide +kernel
theorem dL_areSums_191 : decode cL_areSums 191 = .ok (.aload_n 0, 1) := by decide +kernel
theorem dL_areSums_192 : decode cL_areSums 192 = .ok (.bipush 6, 2) := by decide +kernel
theorem dL_areSums_194 : decode cL_areSums 194 = .ok (.invokevirtual 28, 3) := by decide +kernel
theorem dL_areSums_197 : decode cL_areSums 197 = .ok (.if_icmp .ne 28, 3) := by decide +kernel
theorem dL_areSums_200 : decode cL_areSums 200 = .ok (.iload 4, 2) := by decide +kernel
theorem dL_areSums_202 : decode cL_areSums 202 = .ok (.aload_n 0, 1) := by decide +kernel
theorem dL_areSums_203 : decode cL_areSums 203 = .ok (.iconst 3, 1) := by decide +kernel
theorem dL_areSums_204 : decode cL_areSums 204 = .ok (.invokevirtual 28, 3) := by decide +kernel
theorem dL_areSums_207 : decode cL_areSums 207 = .ok (.if_icmp .ne 18, 3) := by decide +kernel
theorem dL_areSums_210 : decode cL_areSums 210 = .ok (.iload 5, 2) := by decide +kernel
theorem dL_areSums_212 : decode cL_areSums 212 = .ok (.aload_n 0, 1) := by decide +kernel
theorem dL_areSums_213 : decode cL_areSums 213 = .ok (.bipush 7, 2) := by decide +kernel
theorem dL_areSums_215 : decode cL_areSums 215 = .ok (.invokevirtual 28, 3) := by decide +kernel
theorem dL_areSums_218 : decode cL_areSums 218 = .ok (.if_icmp .ne 7, 3) := by decide +kernel
theorem dL_areSums_221 : decode cL_areSums 221 = .ok (.iconst 1, 1) := by decide +kernel
theorem dL_areSums_222 : decode cL_areSums 222 = .ok (.goto 4, 3) := by decide +kernel
theorem dL_areSums_225 : decode cL_areSums 225 = .ok (.iconst 0, 1) := by decide +kernel
theorem dL_areSums_226 : decode cL_areSums 226 = .ok (.ireturn, 1) := by decide +kernel
theorem dL_sings_0 : decode cL_sings 0 = .ok (.iconst 1, 1) := by decide +kernel
theorem dL_sings_1 : decode cL_sings 1 = .ok (.iload_n 1, 1) := by decide +kernel
theorem dL_sings_2 : decode cL_sings 2 = .ok (.bipush 12, 2) := by decide +kernel
theorem dL_sings_4 : decode cL_sings 4 = .ok (.irem, 1) := by decide +kernel
theorem dL_sings_5 : decode cL_sings 5 = .ok (.iadd, 1) := by decide +kernel
theorem dL_sings_6 : decode cL_sings 6 = .ok (.istore_n 2, 1) := by decide +kernel
theorem dL_sings_7 : decode cL_sings 7 = .ok (.aload_n 0, 1) := by decide +kernel
theorem dL_sings_8 : decode cL_sings 8 = .ok (.iconst 1, 1) := by decide +kernel
theorem dL_sings_9 : decode cL_sings 9 = .ok (.invokevirtual 28, 3) := by decide +kernel
theorem dL_sings_12 : decode cL_sings 12 = .ok (.istore_n 3, 1) := by decide +kernel
theorem dL_sings_13 : decode cL_sings 13 = .ok (.aload_n 0, 1) := by decide +kernel
theorem dL_sings_14 : decode cL_sings 14 = .ok (.invokevirtual 60, 3) := by decide +kernel
theorem dL_sings_17 : decode cL_sings 17 = .ok (.ifCond .lt 18, 3) := by decide +kernel
theorem dL_sings_20 : decode cL_sings 20 = .ok (.aload_n 0, 1) := by decide +kernel
theorem dL_sings_21 : decode cL_sings 21 = .ok (.ldc2_w 64, 3) := by decide +kernel
theorem dL_sings_24 : decode cL_sings 24 = .ok (.invokevirtual 66, 3) := by decide +kernel
theorem dL_sings_27 : decode cL_sings 27 = .ok (.iconst 1, 1) := by decide +kernel
theorem dL_sings_28 : decode cL_sings 28 = .ok (.if_icmp .ne 7, 3) := by decide +kernel
theorem dL_sings_31 : decode cL_sings 31 = .ok (.iconst 1, 1) := by decide +kernel
theorem dL_sings_32 : decode cL_sings 32 = .ok (.goto 4, 3) := by decide +kernel
theorem dL_sings_35 : decode cL_sings 35 = .ok (.iconst 0, 1) := by decide +kernel
theorem dL_sings_36 : decode cL_sings 36 = .ok (.istore 4, 2) := by decide +kernel
theorem dL_sings_38 : decode cL_sings 38 = .ok (.iconst 0, 1) := by decide +kernel
theorem dL_sings_39 : decode cL_sings 39 = .ok (.istore 5, 2) := by decide +kernel
theorem dL_sings_41 : decode cL_sings 41 = .ok (.iload 5, 2) := by decide +kernel
theorem dL_sings_43 : decode cL_sings 43 = .ok (.iload_n 2, 1) := by decide +kernel
theorem dL_sings_44 : decode cL_sings 44 = .ok (.if_icmp .ge 42, 3) := by decide +kernel
theorem dL_sings_47 : decode cL_sings 47 = .ok (.iload 4, 2) := by decide +kernel
theorem dL_sings_49 : decode cL_sings 49 = .ok (.ifCond .eq 37, 3) := by decide +kernel
theorem dL_sings_52 : decode cL_sings 52 = .ok (.aload_n 0, 1) := by decide +kernel
theorem dL_sings_53 : decode cL_sings 53 = .ok (.bipush 97, 2) := by decide +kernel
theorem dL_sings_55 : decode cL_sings 55 = .ok (.iload_n 1, 1) := by decide +kernel
theorem dL_sings_56 : decode cL_sings 56 = .ok (.iload 5, 2) := by decide +kernel
theorem dL_sings_58 : decode cL_sings 58 = .ok (.ishr, 1) := by decide +kernel
theorem dL_sings_59 : decode cL_sings 59 = .ok (.iconst 5, 1) := by decide +kernel
theorem dL_sings_60 : decode cL_sings 60 = .ok (.irem, 1) := by decide +kernel
theorem dL_sings_61 : decode cL_sings 61 = .ok (.iadd, 1) := by decide +kernel
theorem dL_sings_62 : decode cL_sings 62 = .ok (.i2l, 1) := by decide +kernel
theorem dL_sings_63 : decode cL_sings 63 = .ok (.invokevirtual 66, 3) := by decide +kernel
theorem dL_sings_66 : decode cL_sings 66 = .ok (.iload 5, 2) := by decide +kernel
theorem dL_sings_68 : decode cL_sings 68 = .ok (.iconst 2, 1) := by decide +kernel
theorem dL_sings_69 : decode cL_sings 69 = .ok (.iadd, 1) := by decide +kernel
theorem dL_sings_70 : decode cL_sings 70 = .ok (.if_icmp .ne 7, 3) := by decide +kernel
theorem dL_sings_73 : decode cL_sings 73 = .ok (.iconst 1, 1) := by decide +kernel
theorem dL_sings_74 : decode cL_sings 74 = .ok (.goto 4, 3) := by decide +kernel
theorem dL_sings_77 : decode cL_sings 77 = .ok (.iconst 0, 1) := by decide +kernel
theorem dL_sings_78 : decode cL_sings 78 = .ok (.istore 4, 2) := by decide +kernel
theorem dL_sings_80 : decode cL_sings 80 = .ok (.iinc 5 1, 3) := by decide +kernel
theorem dL_sings_83 : decode cL_sings 83 = .ok (.goto (-42), 3) := by decide +kernel
theorem dL_sings_86 : decode cL_sings 86 = .ok (.iload 4, 2) := by decide +kernel
theorem dL_sings_88 : decode cL_sings 88 = .ok (.ifCond .eq 56, 3) := by decide +kernel
theorem dL_sings_91 : decode cL_sings 91 = .ok (.aload_n 0, 1) := by decide +kernel
theorem dL_sings_92 : decode cL_sings 92 = .ok (.invokevirtual 70, 3) := by decide +kernel
theorem dL_sings_95 : decode cL_sings 95 = .ok (.bipush (-6), 2) := by decide +kernel
theorem dL_sings_97 : decode cL_sings 97 = .ok (.if_icmp .ne 47, 3) := by decide +kernel
theorem dL_sings_100 : decode cL_sings 100 = .ok (.aload_n 0, 1) := by decide +kernel
theorem dL_sings_101 : decode cL_sings 101 = .ok (.invokevirtual 73, 3) := by decide +kernel
theorem dL_sings_104 : decode cL_sings 104 = .ok (.iload_n 3, 1) := by decide +kernel
theorem dL_sings_105 : decode cL_sings 105 = .ok (.bipush 8, 2) := by decide +kernel
theorem dL_sings_107 : decode cL_sings 107 = .ok (.if_icmp .ne 7, 3) := by decide +kernel
theorem dL_sings_110 : decode cL_sings 110 = .ok (.iconst 0, 1) := by decide +kernel
theorem dL_sings_111 : decode cL_sings 111 = .ok (.goto 4, 3) := by decide +kernel
theorem dL_sings_114 : decode cL_sings 114 = .ok (.iconst 1, 1) := by decide +kernel
theorem dL_sings_115 : decode cL_sings 115 = .ok (.if_icmp .ne 29, 3) := by decide +kernel
theorem dL_sings_118 : decode cL_sings 118 = .ok (.aload_n 0, 1) := by decide +kernel
theorem dL_sings_119 : decode cL_sings 119 = .ok (.iconst 1, 1) := by decide +kernel
theorem dL_sings_120 : decode cL_sings 120 = .ok (.invokevirtual 28, 3) := by decide +kernel
theorem dL_sings_123 : decode cL_sings 123 = .ok (.iload_n 3, 1) := by decide +kernel
theorem dL_sings_124 : decode cL_sings 124 = .ok (.bipush 8, 2) := by decide +kernel
theorem dL_sings_126 : decode cL_sings 126 = .ok (.if_icmp .ne 8, 3) := by decide +kernel
theorem dL_sings_129 : decode cL_sings 129 = .ok (.bipush 8, 2) := by decide +kernel
theorem dL_sings_131 : decode cL_sings 131 = .ok (.goto 6, 3) := by decide +kernel
theorem dL_sings_134 : decode cL_sings 134 = .ok (.iload_n 3, 1) := by decide +kernel
theorem dL_sings_135 : decode cL_sings 135 = .ok (.iconst 1, 1) := by decide +kernel
theorem dL_sings_136 : decode cL_sings 136 = .ok (.iadd, 1) := by decide +kernel
theorem dL_sings_137 : decode cL_sings 137 = .ok (.if_icmp .ne 7, 3) := by decide +kernel
theorem dL_sings_140 : decode cL_sings 140 = .ok (.iconst 1, 1) := by decide +kernel
theorem dL_sings_141 : decode cL_sings 141 = .ok (.goto 4, 3) := by decide +kernel
theorem dL_sings_144 : decode cL_sings 144 = .ok (.iconst 0, 1) := by decide +kernel
theorem dL_sings_145 : decode cL_sings 145 = .ok (.istore 4, 2) := by decide +kernel
theorem dL_sings_147 : decode cL_sings 147 = .ok (.iload 4, 2) := by decide +kernel
theorem dL_sings_149 : decode cL_sings 149 = .ok (.ifCond .eq 35, 3) := by decide +kernel
theorem dL_sings_152 : decode cL_sings 152 = .ok (.iload_n 3, 1) := by decide +kernel
theorem dL_sings_153 : decode cL_sings 153 = .ok (.bipush 8, 2) := by decide +kernel
theorem dL_sings_155 : decode cL_sings 155 = .ok (.if_icmp .eq 25, 3) := by decide +kernel
theorem dL_sings_158 : decode cL_sings 158 = .ok (.aload_n 0, 1) := by decide +kernel
theorem dL_sings_159 : decode cL_sings 159 = .ok (.iload_n 3, 1) := by decide +kernel
theorem dL_sings_160 : decode cL_sings 160 = .ok (.iconst 0, 1) := by decide +kernel
theorem dL_sings_161 : decode cL_sings 161 = .ok (.invokevirtual 32, 3) := by decide +kernel
theorem dL_sings_164 : decode cL_sings 164 = .ok (.iload_n 2, 1) := by decide +kernel
theorem dL_sings_165 : decode cL_sings 165 = .ok (.if_icmp .ne 19, 3) := by decide +kernel
theorem dL_sings_168 : decode cL_sings 168 = .ok (.aload_n 0, 1) := by decide +kernel
theorem dL_sings_169 : decode cL_sings 169 = .ok (.iload_n 3, 1) := by decide +kernel
theorem dL_sings_170 : decode cL_sings 170 = .ok (.iconst 0, 1) := by decide +kernel
theorem dL_sings_171 : decode cL_sings 171 = .ok (.invokevirtual 35, 3) := by decide +kernel
theorem dL_sings_174 : decode cL_sings 174 = .ok (.iload_n 1, 1) := by decide +kernel
theorem dL_sings_175 : decode cL_sings 175 = .ok (.iconst 5, 1) := by decide +kernel
theorem dL_sings_176 : decode cL_sings 176 = .ok (.irem, 1) := by decide +kernel
theorem dL_sings_177 : decode cL_sings 177 = .ok (.if_icmp .ne 7, 3) := by decide +kernel
theorem dL_sings_180 : decode cL_sings 180 = .ok (.iconst 1, 1) := by decide +kernel
theorem dL_sings_181 : decode cL_sings 181 = .ok (.goto 4, 3) := by decide +kernel
theorem dL_sings_184 : decode cL_sings 184 = .ok (.iconst 0, 1) := by decide +kernel
theorem dL_sings_185 : decode cL_sings 185 = .ok (.ireturn, 1) := by decide +kernel
theorem dL_acts_0 : decode cL_acts 0 = .ok (.aload_n 0, 1) := by decide +kernel
theorem dL_acts_1 : decode cL_acts 1 = .ok (.iconst 2, 1) := by decide +kernel
theorem dL_acts_2 : decode cL_acts 2 = .ok (.invokevirtual 28, 3) := by decide +kernel
theorem dL_acts_5 : decode cL_acts 5 = .ok (.istore_n 2, 1) := by decide +kernel
theorem dL_acts_6 : decode cL_acts 6 = .ok (.aload_n 0, 1) := by decide +kernel
theorem dL_acts_7 : decode cL_acts 7 = .ok (.iconst 1, 1) := by decide +kernel
theorem dL_acts_8 : decode cL_acts 8 = .ok (.invokevirtual 28, 3) := by decide +kernel
theorem dL_acts_11 : decode cL_acts 11 = .ok (.istore_n 3, 1) := by decide +kernel
theorem dL_acts_12 : decode cL_acts 12 = .ok (.iload_n 2, 1) := by decide +kernel
theorem dL_acts_13 : decode cL_acts 13 = .ok (.ifCond .ne 7, 3) := by decide +kernel
theorem dL_acts_16 : decode cL_acts 16 = .ok (.iconst 0, 1) := by decide +kernel
theorem dL_acts_17 : decode cL_acts 17 = .ok (.goto 8, 3) := by decide +kernel
theorem dL_acts_20 : decode cL_acts 20 = .ok (.iload_n 1, 1) := by decide +kernel
theorem dL_acts_21 : decode cL_acts 21 = .ok (.iconst 4, 1) := by decide +kernel
theorem dL_acts_22 : decode cL_acts 22 = .ok (.ishr, 1) := by decide +kernel
theorem dL_acts_23 : decode cL_acts 23 = .ok (.iload_n 2, 1) := by decide +kernel
theorem dL_acts_24 : decode cL_acts 24 = .ok (.irem, 1) := by decide +kernel
theorem dL_acts_25 : decode cL_acts 25 = .ok (.istore 4, 2) := by decide +kernel
theorem dL_acts_27 : decode cL_acts 27 = .ok (.iload_n 3, 1) := by decide +kernel
theorem dL_acts_28 : decode cL_acts 28 = .ok (.ifCond .ne 7, 3) := by decide +kernel
theorem dL_acts_31 : decode cL_acts 31 = .ok (.iconst 0, 1) := by decide +kernel
theorem dL_acts_32 : decode cL_acts 32 = .ok (.goto 9, 3) := by decide +kernel
theorem dL_acts_35 : decode cL_acts 35 = .ok (.iload_n 1, 1) := by decide +kernel
theorem dL_acts_36 : decode cL_acts 36 = .ok (.bipush 7, 2) := by decide +kernel
theorem dL_acts_38 : decode cL_acts 38 = .ok (.ishr, 1) := by decide +kernel
theorem dL_acts_39 : decode cL_acts 39 = .ok (.iload_n 3, 1) := by decide +kernel
theorem dL_acts_40 : decode cL_acts 40 = .ok (.irem, 1) := by decide +kernel
theorem dL_acts_41 : decode cL_acts 41 = .ok (.istore 5, 2) := by decide +kernel
theorem dL_acts_43 : decode cL_acts 43 = .ok (.aload_n 0, 1) := by decide +kernel
theorem dL_acts_44 : decode cL_acts 44 = .ok (.bipush 7, 2) := by decide +kernel
theorem dL_acts_46 : decode cL_acts 46 = .ok (.invokevirtual 28, 3) := by decide +kernel
theorem dL_acts_49 : decode cL_acts 49 = .ok (.iload 4, 2) := by decide +kernel
theorem dL_acts_51 : decode cL_acts 51 = .ok (.ishr, 1) := by decide +kernel
theorem dL_acts_52 : decode cL_acts 52 = .ok (.iconst 1, 1) := by decide +kernel
theorem dL_acts_53 : decode cL_acts 53 = .ok (.iand, 1) := by decide +kernel
theorem dL_acts_54 : decode cL_acts 54 = .ok (.iconst 1, 1) := by decide +kernel
theorem dL_acts_55 : decode cL_acts 55 = .ok (.if_icmp .ne 7, 3) := by decide +kernel
theorem dL_acts_58 : decode cL_acts 58 = .ok (.iconst 1, 1) := by decide +kernel
theorem dL_acts_59 : decode cL_acts 59 = .ok (.goto 4, 3) := by decide +kernel
theorem dL_acts_62 : decode cL_acts 62 = .ok (.iconst 0, 1) := by decide +kernel
theorem dL_acts_63 : decode cL_acts 63 = .ok (.istore 6, 2) := by decide +kernel
theorem dL_acts_65 : decode cL_acts 65 = .ok (.aload_n 0, 1) := by decide +kernel
theorem dL_acts_66 : decode cL_acts 66 = .ok (.iload 4, 2) := by decide +kernel
theorem dL_acts_68 : decode cL_acts 68 = .ok (.iconst 2, 1) := by decide +kernel
theorem dL_acts_69 : decode cL_acts 69 = .ok (.invokevirtual 9, 3) := by decide +kernel
theorem dL_acts_72 : decode cL_acts 72 = .ok (.istore 7, 2) := by decide +kernel
theorem dL_acts_74 : decode cL_acts 74 = .ok (.aload_n 0, 1) := by decide +kernel
theorem dL_acts_75 : decode cL_acts 75 = .ok (.iload 4, 2) := by decide +kernel
theorem dL_acts_77 : decode cL_acts 77 = .ok (.iconst 4, 1) := by decide +kernel
theorem dL_acts_78 : decode cL_acts 78 = .ok (.invokevirtual 9, 3) := by decide +kernel
theorem dL_acts_81 : decode cL_acts 81 = .ok (.istore 8, 2) := by decide +kernel
theorem dL_acts_83 : decode cL_acts 83 = .ok (.iload_n 1, 1) := by decide +kernel
theorem dL_acts_84 : decode cL_acts 84 = .ok (.bipush 12, 2) := by decide +kernel
theorem dL_acts_86 : decode cL_acts 86 = .ok (.irem, 1) := by decide +kernel
theorem dL_acts_87 : decode cL_acts 87 = .ok (.tableswitch 574 0 9 #[53, 113, 113, 121, 121, 121, 121, 289, 339, 463], 53) := by decide +kernel
theorem dL_acts_140 : decode cL_acts 140 = .ok (.aload_n 0, 1) := by decide +kernel
theorem dL_acts_141 : decode cL_acts 141 = .ok (.invokevirtual 76, 3) := by decide +kernel
theorem dL_acts_144 : decode cL_acts 144 = .ok (.istore 9, 2) := by decide +kernel
theorem dL_acts_146 : decode cL_acts 146 = .ok (.iload_n 2, 1) := by decide +kernel
theorem dL_acts_147 : decode cL_acts 147 = .ok (.iconst 4, 1) := by decide +kernel
theorem dL_acts_148 : decode cL_acts 148 = .ok (.if_icmp .ne 18, 3) := by decide +kernel
theorem dL_acts_151 : decode cL_acts 151 = .ok (.iload 9, 2) := by decide +kernel
theorem dL_acts_153 : decode cL_acts 153 = .ok (.bipush (-4), 2) := by decide +kernel
theorem dL_acts_155 : decode cL_acts 155 = .ok (.if_icmp .ne 7, 3) := by decide +kernel
theorem dL_acts_158 : decode cL_acts 158 = .ok (.iconst 1, 1) := by decide +kernel
theorem dL_acts_159 : decode cL_acts 159 = .ok (.goto 40, 3) := by decide +kernel
theorem dL_acts_162 : decode cL_acts 162 = .ok (.iconst 0, 1) := by decide +kernel
theorem dL_acts_163 : decode cL_acts 163 = .ok (.goto 36, 3) := by decide +kernel
theorem dL_acts_166 : decode cL_acts 166 = .ok (.iload 9, 2) := by decide +kernel
theorem dL_acts_168 : decode cL_acts 168 = .ok (.iload_n 2, 1) := by decide +kernel
theorem dL_acts_169 : decode cL_acts 169 = .ok (.if_icmp .ne 29, 3) := by decide +kernel
theorem dL_acts_172 : decode cL_acts 172 = .ok (.aload_n 0, 1) := by decide +kernel
theorem dL_acts_173 : decode cL_acts 173 = .ok (.iload 9, 2) := by decide +kernel
theorem dL_acts_175 : decode cL_acts 175 = .ok (.iconst 0, 1) := by decide +kernel
theorem dL_acts_176 : decode cL_acts 176 = .ok (.invokevirtual 9, 3) := by decide +kernel
theorem dL_acts_179 : decode cL_acts 179 = .ok (.ifCond .ne 19, 3) := by decide +kernel
theorem dL_acts_182 : decode cL_acts 182 = .ok (.aload_n 0, 1) := by decide +kernel
theorem dL_acts_183 : decode cL_acts 183 = .ok (.iload 9, 2) := by decide +kernel
theorem dL_acts_185 : decode cL_acts 185 = .ok (.iconst 2, 1) := by decide +kernel
theorem dL_acts_186 : decode cL_acts 186 = .ok (.invokevirtual 9, 3) := by decide +kernel
theorem dL_acts_189 : decode cL_acts 189 = .ok (.bipush (-6), 2) := by decide +kernel
theorem dL_acts_191 : decode cL_acts 191 = .ok (.if_icmp .ne 7, 3) := by decide +kernel
theorem dL_acts_194 : decode cL_acts 194 = .ok (.iconst 1, 1) := by decide +kernel
theorem dL_acts_195 : decode cL_acts 195 = .ok (.goto 4, 3) := by decide +kernel
theorem dL_acts_198 : decode cL_acts 198 = .ok (.iconst 0, 1) := by decide +kernel
theorem dL_acts_199 : decode cL_acts 199 = .ok (.ireturn, 1) := by decide +kernel
theorem dL_acts_200 : decode cL_acts 200 = .ok (.aload_n 0, 1) := by decide +kernel
theorem dL_acts_201 : decode cL_acts 201 = .ok (.iload_n 1, 1) := by decide +kernel
theorem dL_acts_202 : decode cL_acts 202 = .ok (.iconst 4, 1) := by decide +kernel
theorem dL_acts_203 : decode cL_acts 203 = .ok (.ishr, 1) := by decide +kernel
theorem dL_acts_204 : decode cL_acts 204 = .ok (.invokestatic 79, 3) := by decide +kernel
theorem dL_acts_207 : decode cL_acts 207 = .ok (.ireturn, 1) := by decide +kernel
theorem dL_acts_208 : decode cL_acts 208 = .ok (.aload_n 0, 1) := by decide +kernel
theorem dL_acts_209 : decode cL_acts 209 = .ok (.iload 5, 2) := by decide +kernel
theorem dL_acts_211 : decode cL_acts 211 = .ok (.iconst 0, 1) := by decide +kernel
theorem dL_acts_212 : decode cL_acts 212 = .ok (.invokevirtual 32, 3) := by decide +kernel
theorem dL_acts_215 : decode cL_acts 215 = .ok (.istore 10, 2) := by decide +kernel
theorem dL_acts_217 : decode cL_acts 217 = .ok (.iload 10, 2) := by decide +kernel
theorem dL_acts_219 : decode cL_acts 219 = .ok (.iconst 1, 1) := by decide +kernel
theorem dL_acts_220 : decode cL_acts 220 = .ok (.if_icmp .ge 7, 3) := by decide +kernel
theorem dL_acts_223 : decode cL_acts 223 = .ok (.iconst 0, 1) := by decide +kernel
theorem dL_acts_224 : decode cL_acts 224 = .ok (.goto 10, 3) := by decide +kernel
theorem dL_acts_227 : decode cL_acts 227 = .ok (.iload_n 1, 1) := by decide +kernel
theorem dL_acts_228 : decode cL_acts 228 = .ok (.bipush 10, 2) := by decide +kernel
theorem dL_acts_230 : decode cL_acts 230 = .ok (.ishr, 1) := by decide +kernel
theorem dL_acts_231 : decode cL_acts 231 = .ok (.iload 10, 2) := by decide +kernel
theorem dL_acts_233 : decode cL_acts 233 = .ok (.irem, 1) := by decide +kernel
theorem dL_acts_234 : decode cL_acts 234 = .ok (.istore 11, 2) := by decide +kernel
theorem dL_acts_236 : decode cL_acts 236 = .ok (.aload_n 0, 1) := by decide +kernel
theorem dL_acts_237 : decode cL_acts 237 = .ok (.iload 4, 2) := by decide +kernel
theorem dL_acts_239 : decode cL_acts 239 = .ok (.iload 5, 2) := by decide +kernel
theorem dL_acts_241 : decode cL_acts 241 = .ok (.iload 11, 2) := by decide +kernel
theorem dL_acts_243 : decode cL_acts 243 = .ok (.invokevirtual 81, 3) := by decide +kernel
theorem dL_acts_246 : decode cL_acts 246 = .ok (.istore 12, 2) := by decide +kernel
theorem dL_acts_248 : decode cL_acts 248 = .ok (.iload_n 2, 1) := by decide +kernel
theorem dL_acts_249 : decode cL_acts 249 = .ok (.ifCond .eq 7, 3) := by decide +kernel
theorem dL_acts_252 : decode cL_acts 252 = .ok (.iload_n 3, 1) := by decide +kernel
theorem dL_acts_253 : decode cL_acts 253 = .ok (.ifCond .ne 17, 3) := by decide +kernel
theorem dL_acts_256 : decode cL_acts 256 = .ok (.iload 12, 2) := by decide +kernel
theorem dL_acts_258 : decode cL_acts 258 = .ok (.iconst (-1), 1) := by decide +kernel
theorem dL_acts_259 : decode cL_acts 259 = .ok (.if_icmp .ne 7, 3) := by decide +kernel
theorem dL_acts_262 : decode cL_acts 262 = .ok (.iconst 1, 1) := by decide +kernel
theorem dL_acts_263 : decode cL_acts 263 = .ok (.goto 112, 3) := by decide +kernel
theorem dL_acts_266 : decode cL_acts 266 = .ok (.iconst 0, 1) := by decide +kernel
theorem dL_acts_267 : decode cL_acts 267 = .ok (.goto 108, 3) := by decide +kernel
theorem dL_acts_270 : decode cL_acts 270 = .ok (.iload 6, 2) := by decide +kernel
theorem dL_acts_272 : decode cL_acts 272 = .ok (.ifCond .eq 18, 3) := by decide +kernel
theorem dL_acts_275 : decode cL_acts 275 = .ok (.iload 12, 2) := by decide +kernel
theorem dL_acts_277 : decode cL_acts 277 = .ok (.bipush (-5), 2) := by decide +kernel
theorem dL_acts_279 : decode cL_acts 279 = .ok (.if_icmp .ne 7, 3) := by decide +kernel
theorem dL_acts_282 : decode cL_acts 282 = .ok (.iconst 1, 1) := by decide +kernel
theorem dL_acts_283 : decode cL_acts 283 = .ok (.goto 92, 3) := by decide +kernel
theorem dL_acts_286 : decode cL_acts 286 = .ok (.iconst 0, 1) := by decide +kernel
theorem dL_acts_287 : decode cL_acts 287 = .ok (.goto 88, 3) := by decide +kernel
theorem dL_acts_290 : decode cL_acts 290 = .ok (.iload 12, 2) := by decide +kernel
theorem dL_acts_292 : decode cL_acts 292 = .ok (.iconst 1, 1) := by decide +kernel
theorem dL_acts_293 : decode cL_acts 293 = .ok (.if_icmp .lt 81, 3) := by decide +kernel
theorem dL_acts_296 : decode cL_acts 296 = .ok (.iload 12, 2) := by decide +kernel
theorem dL_acts_298 : decode cL_acts 298 = .ok (.iload 10, 2) := by decide +kernel
theorem dL_acts_300 : decode cL_acts 300 = .ok (.iload 11, 2) := by decide +kernel
theorem dL_acts_302 : decode cL_acts 302 = .ok (.isub, 1) := by decide +kernel
theorem dL_acts_303 : decode cL_acts 303 = .ok (.if_icmp .gt 71, 3) := by decide +kernel
theorem dL_acts_306 : decode cL_acts 306 = .ok (.aload_n 0, 1) := by decide +kernel
theorem dL_acts_307 : decode cL_acts 307 = .ok (.iload 4, 2) := by decide +kernel
theorem dL_acts_309 : decode cL_acts 309 = .ok (.iconst 4, 1) := by decide +kernel
theorem dL_acts_310 : decode cL_acts 310 = .ok (.invokevirtual 9, 3) := by decide +kernel
theorem dL_acts_313 : decode cL_acts 313 = .ok (.iload 8, 2) := by decide +kernel
theorem dL_acts_315 : decode cL_acts 315 = .ok (.iload 12, 2) := by decide +kernel
theorem dL_acts_317 : decode cL_acts 317 = .ok (.iadd, 1) := by decide +kernel
theorem dL_acts_318 : decode cL_acts 318 = .ok (.if_icmp .ne 56, 3) := by decide +kernel
theorem dL_acts_321 : decode cL_acts 321 = .ok (.aload_n 0, 1) := by decide +kernel
theorem dL_acts_322 : decode cL_acts 322 = .ok (.iload 4, 2) := by decide +kernel
theorem dL_acts_324 : decode cL_acts 324 = .ok (.iconst 2, 1) := by decide +kernel
theorem dL_acts_325 : decode cL_acts 325 = .ok (.invokevirtual 9, 3) := by decide +kernel
theorem dL_acts_328 : decode cL_acts 328 = .ok (.aload_n 0, 1) := by decide +kernel
theorem dL_acts_329 : decode cL_acts 329 = .ok (.iload 5, 2) := by decide +kernel
theorem dL_acts_331 : decode cL_acts 331 = .ok (.iload 11, 2) := by decide +kernel
theorem dL_acts_333 : decode cL_acts 333 = .ok (.iload 12, 2) := by decide +kernel
theorem dL_acts_335 : decode cL_acts 335 = .ok (.iadd, 1) := by decide +kernel
theorem dL_acts_336 : decode cL_acts 336 = .ok (.iconst 1, 1) := by decide +kernel
theorem dL_acts_337 : decode cL_acts 337 = .ok (.isub, 1) := by decide +kernel
theorem dL_acts_338 : decode cL_acts 338 = .ok (.invokevirtual 35, 3) := by decide +kernel
theorem dL_acts_341 : decode cL_acts 341 = .ok (.if_icmp .ne 33, 3) := by decide +kernel
theorem dL_acts_344 : decode cL_acts 344 = .ok (.iload 12, 2) := by decide +kernel
theorem dL_acts_346 : decode cL_acts 346 = .ok (.iload 10, 2) := by decide +kernel
theorem dL_acts_348 : decode cL_acts 348 = .ok (.iload 11, 2) := by decide +kernel
theorem dL_acts_350 : decode cL_acts 350 = .ok (.isub, 1) := by decide +kernel
theorem dL_acts_351 : decode cL_acts 351 = .ok (.if_icmp .eq 19, 3) := by decide +kernel
theorem dL_acts_354 : decode cL_acts 354 = .ok (.aload_n 0, 1) := by decide +kernel
theorem dL_acts_355 : decode cL_acts 355 = .ok (.iload 4, 2) := by decide +kernel
theorem dL_acts_357 : decode cL_acts 357 = .ok (.iconst 3, 1) := by decide +kernel
theorem dL_acts_358 : decode cL_acts 358 = .ok (.invokevirtual 9, 3) := by decide +kernel
theorem dL_acts_361 : decode cL_acts 361 = .ok (.aload_n 0, 1) := by decide +kernel
theorem dL_acts_362 : decode cL_acts 362 = .ok (.bipush 11, 2) := by decide +kernel
theorem dL_acts_364 : decode cL_acts 364 = .ok (.invokevirtual 28, 3) := by decide +kernel
theorem dL_acts_367 : decode cL_acts 367 = .ok (.if_icmp .lt 7, 3) := by decide +kernel
theorem dL_acts_370 : decode cL_acts 370 = .ok (.iconst 1, 1) := by decide +kernel
theorem dL_acts_371 : decode cL_acts 371 = .ok (.goto 4, 3) := by decide +kernel
theorem dL_acts_374 : decode cL_acts 374 = .ok (.iconst 0, 1) := by decide +kernel
theorem dL_acts_375 : decode cL_acts 375 = .ok (.ireturn, 1) := by decide +kernel
theorem dL_acts_376 : decode cL_acts 376 = .ok (.iload_n 1, 1) := by decide +kernel
theorem dL_acts_377 : decode cL_acts 377 = .ok (.bipush 10, 2) := by decide +kernel
theorem dL_acts_379 : decode cL_acts 379 = .ok (.ishr, 1) := by decide +kernel
theorem dL_acts_380 : decode cL_acts 380 = .ok (.iconst 2, 1) := by decide +kernel
theorem dL_acts_381 : decode cL_acts 381 = .ok (.irem, 1) := by decide +kernel
theorem dL_acts_382 : decode cL_acts 382 = .ok (.ifCond .eq 38, 3) := by decide +kernel
theorem dL_acts_385 : decode cL_acts 385 = .ok (.aload_n 0, 1) := by decide +kernel
theorem dL_acts_386 : decode cL_acts 386 = .ok (.iload 4, 2) := by decide +kernel
theorem dL_acts_388 : decode cL_acts 388 = .ok (.invokevirtual 84, 3) := by decide +kernel
theorem dL_acts_391 : decode cL_acts 391 = .ok (.iload_n 2, 1) := by decide +kernel
theorem dL_acts_392 : decode cL_acts 392 = .ok (.ifCond .ne 7, 3) := by decide +kernel
theorem dL_acts_395 : decode cL_acts 395 = .ok (.iconst (-1), 1) := by decide +kernel
theorem dL_acts_396 : decode cL_acts 396 = .ok (.goto 5, 3) := by decide +kernel
theorem dL_acts_399 : decode cL_acts 399 = .ok (.iload 7, 2) := by decide +kernel
theorem dL_acts_401 : decode cL_acts 401 = .ok (.if_icmp .ne 23, 3) := by decide +kernel
theorem dL_acts_404 : decode cL_acts 404 = .ok (.iload_n 2, 1) := by decide +kernel
theorem dL_acts_405 : decode cL_acts 405 = .ok (.ifCond .eq 15, 3) := by decide +kernel
theorem dL_acts_408 : decode cL_acts 408 = .ok (.aload_n 0, 1) := by decide +kernel
theorem dL_acts_409 : decode cL_acts 409 = .ok (.iload 4, 2) := by decide +kernel
theorem dL_acts_411 : decode cL_acts 411 = .ok (.iconst 2, 1) := by decide +kernel
theorem dL_acts_412 : decode cL_acts 412 = .ok (.invokevirtual 9, 3) := by decide +kernel
theorem dL_acts_415 : decode cL_acts 415 = .ok (.bipush (-6), 2) := by decide +kernel
theorem dL_acts_417 : decode cL_acts 417 = .ok (.if_icmp .ne 7, 3) := by decide +kernel
theorem dL_acts_420 : decode cL_acts 420 = .ok (.iconst 1, 1) := by decide +kernel
theorem dL_acts_421 : decode cL_acts 421 = .ok (.goto 4, 3) := by decide +kernel
theorem dL_acts_424 : decode cL_acts 424 = .ok (.iconst 0, 1) := by decide +kernel
theorem dL_acts_425 : decode cL_acts 425 = .ok (.ireturn, 1) := by decide +kernel
theorem dL_acts_426 : decode cL_acts 426 = .ok (.iconst 1, 1) := by decide +kernel
theorem dL_acts_427 : decode cL_acts 427 = .ok (.iload_n 1, 1) := by decide +kernel
theorem dL_acts_428 : decode cL_acts 428 = .ok (.bipush 10, 2) := by decide +kernel
theorem dL_acts_430 : decode cL_acts 430 = .ok (.ishr, 1) := by decide +kernel
theorem dL_acts_431 : decode cL_acts 431 = .ok (.bipush 40, 2) := by decide +kernel
theorem dL_acts_433 : decode cL_acts 433 = .ok (.irem, 1) := by decide +kernel
theorem dL_acts_434 : decode cL_acts 434 = .ok (.iadd, 1) := by decide +kernel
theorem dL_acts_435 : decode cL_acts 435 = .ok (.istore 13, 2) := by decide +kernel
theorem dL_acts_437 : decode cL_acts 437 = .ok (.iload 7, 2) := by decide +kernel
theorem dL_acts_439 : decode cL_acts 439 = .ok (.ifCond .ge 8, 3) := by decide +kernel
theorem dL_acts_442 : decode cL_acts 442 = .ok (.bipush (-6), 2) := by decide +kernel
theorem dL_acts_444 : decode cL_acts 444 = .ok (.goto 13, 3) := by decide +kernel
theorem dL_acts_447 : decode cL_acts 447 = .ok (.aload_n 0, 1) := by decide +kernel
theorem dL_acts_448 : decode cL_acts 448 = .ok (.iload 4, 2) := by decide +kernel
theorem dL_acts_450 : decode cL_acts 450 = .ok (.iload 7, 2) := by decide +kernel
theorem dL_acts_452 : decode cL_acts 452 = .ok (.iload 13, 2) := by decide +kernel
theorem dL_acts_454 : decode cL_acts 454 = .ok (.invokevirtual 19, 3) := by decide +kernel
theorem dL_acts_457 : decode cL_acts 457 = .ok (.istore 14, 2) := by decide +kernel
theorem dL_acts_459 : decode cL_acts 459 = .ok (.aload_n 0, 1) := by decide +kernel
theorem dL_acts_460 : decode cL_acts 460 = .ok (.iload 4, 2) := by decide +kernel
theorem dL_acts_462 : decode cL_acts 462 = .ok (.iload 13, 2) := by decide +kernel
theorem dL_acts_464 : decode cL_acts 464 = .ok (.invokevirtual 87, 3) := by decide +kernel
theorem dL_acts_467 : decode cL_acts 467 = .ok (.istore 15, 2) := by decide +kernel
theorem dL_acts_469 : decode cL_acts 469 = .ok (.iload_n 2, 1) := by decide +kernel
theorem dL_acts_470 : decode cL_acts 470 = .ok (.ifCond .ne 17, 3) := by decide +kernel
theorem dL_acts_473 : decode cL_acts 473 = .ok (.iload 15, 2) := by decide +kernel
theorem dL_acts_475 : decode cL_acts 475 = .ok (.iconst (-1), 1) := by decide +kernel
theorem dL_acts_476 : decode cL_acts 476 = .ok (.if_icmp .ne 7, 3) := by decide +kernel
theorem dL_acts_479 : decode cL_acts 479 = .ok (.iconst 1, 1) := by decide +kernel
theorem dL_acts_480 : decode cL_acts 480 = .ok (.goto 69, 3) := by decide +kernel
theorem dL_acts_483 : decode cL_acts 483 = .ok (.iconst 0, 1) := by decide +kernel
theorem dL_acts_484 : decode cL_acts 484 = .ok (.goto 65, 3) := by decide +kernel
theorem dL_acts_487 : decode cL_acts 487 = .ok (.iload 7, 2) := by decide +kernel
theorem dL_acts_489 : decode cL_acts 489 = .ok (.ifCond .lt 8, 3) := by decide +kernel
theorem dL_acts_492 : decode cL_acts 492 = .ok (.iload 6, 2) := by decide +kernel
theorem dL_acts_494 : decode cL_acts 494 = .ok (.ifCond .eq 18, 3) := by decide +kernel
theorem dL_acts_497 : decode cL_acts 497 = .ok (.iload 15, 2) := by decide +kernel
theorem dL_acts_499 : decode cL_acts 499 = .ok (.bipush (-5), 2) := by decide +kernel
theorem dL_acts_501 : decode cL_acts 501 = .ok (.if_icmp .ne 7, 3) := by decide +kernel
theorem dL_acts_504 : decode cL_acts 504 = .ok (.iconst 1, 1) := by decide +kernel
theorem dL_acts_505 : decode cL_acts 505 = .ok (.goto 44, 3) := by decide +kernel
theorem dL_acts_508 : decode cL_acts 508 = .ok (.iconst 0, 1) := by decide +kernel
theorem dL_acts_509 : decode cL_acts 509 = .ok (.goto 40, 3) := by decide +kernel
theorem dL_acts_512 : decode cL_acts 512 = .ok (.iload 15, 2) := by decide +kernel
theorem dL_acts_514 : decode cL_acts 514 = .ok (.iload 13, 2) := by decide +kernel
theorem dL_acts_516 : decode cL_acts 516 = .ok (.if_icmp .gt 32, 3) := by decide +kernel
theorem dL_acts_519 : decode cL_acts 519 = .ok (.iload 15, 2) := by decide +kernel
theorem dL_acts_521 : decode cL_acts 521 = .ok (.iload 13, 2) := by decide +kernel
theorem dL_acts_523 : decode cL_acts 523 = .ok (.if_icmp .ne 7, 3) := by decide +kernel
theorem dL_acts_526 : decode cL_acts 526 = .ok (.iconst 1, 1) := by decide +kernel
theorem dL_acts_527 : decode cL_acts 527 = .ok (.goto 4, 3) := by decide +kernel
theorem dL_acts_530 : decode cL_acts 530 = .ok (.iconst 0, 1) := by decide +kernel
theorem dL_acts_531 : decode cL_acts 531 = .ok (.iload 14, 2) := by decide +kernel
theorem dL_acts_533 : decode cL_acts 533 = .ok (.ifCond .lt 7, 3) := by decide +kernel
theorem dL_acts_536 : decode cL_acts 536 = .ok (.iconst 1, 1) := by decide +kernel
theorem dL_acts_537 : decode cL_acts 537 = .ok (.goto 4, 3) := by decide +kernel
theorem dL_acts_540 : decode cL_acts 540 = .ok (.iconst 0, 1) := by decide +kernel
theorem dL_acts_541 : decode cL_acts 541 = .ok (.if_icmp .ne 7, 3) := by decide +kernel
theorem dL_acts_544 : decode cL_acts 544 = .ok (.iconst 1, 1) := by decide +kernel
theorem dL_acts_545 : decode cL_acts 545 = .ok (.goto 4, 3) := by decide +kernel
theorem dL_acts_548 : decode cL_acts 548 = .ok (.iconst 0, 1) := by decide +kernel
theorem dL_acts_549 : decode cL_acts 549 = .ok (.ireturn, 1) := by decide +kernel
theorem dL_acts_550 : decode cL_acts 550 = .ok (.iload_n 1, 1) := by decide +kernel
theorem dL_acts_551 : decode cL_acts 551 = .ok (.iconst 4, 1) := by decide +kernel
theorem dL_acts_552 : decode cL_acts 552 = .ok (.ishr, 1) := by decide +kernel
theorem dL_acts_553 : decode cL_acts 553 = .ok (.iconst 4, 1) := by decide +kernel
theorem dL_acts_554 : decode cL_acts 554 = .ok (.irem, 1) := by decide +kernel
theorem dL_acts_555 : decode cL_acts 555 = .ok (.istore 16, 2) := by decide +kernel
theorem dL_acts_557 : decode cL_acts 557 = .ok (.iload 16, 2) := by decide +kernel
theorem dL_acts_559 : decode cL_acts 559 = .ok (.ifCond .ne 15, 3) := by decide +kernel
theorem dL_acts_562 : decode cL_acts 562 = .ok (.iconst 4, 1) := by decide +kernel
theorem dL_acts_563 : decode cL_acts 563 = .ok (.iload_n 1, 1) := by decide +kernel
theorem dL_acts_564 : decode cL_acts 564 = .ok (.bipush 8, 2) := by decide +kernel
theorem dL_acts_566 : decode cL_acts 566 = .ok (.ishr, 1) := by decide +kernel
theorem dL_acts_567 : decode cL_acts 567 = .ok (.bipush 57, 2) := by decide +kernel
theorem dL_acts_569 : decode cL_acts 569 = .ok (.irem, 1) := by decide +kernel
theorem dL_acts_570 : decode cL_acts 570 = .ok (.iadd, 1) := by decide +kernel
theorem dL_acts_571 : decode cL_acts 571 = .ok (.goto 44, 3) := by decide +kernel
theorem dL_acts_574 : decode cL_acts 574 = .ok (.iload 16, 2) := by decide +kernel
theorem dL_acts_576 : decode cL_acts 576 = .ok (.iconst 1, 1) := by decide +kernel
theorem dL_acts_577 : decode cL_acts 577 = .ok (.if_icmp .ne 12, 3) := by decide +kernel
theorem dL_acts_580 : decode cL_acts 580 = .ok (.iload_n 1, 1) := by decide +kernel
theorem dL_acts_581 : decode cL_acts 581 = .ok (.bipush 8, 2) := by decide +kernel
theorem dL_acts_583 : decode cL_acts 583 = .ok (.ishr, 1) := by decide +kernel
theorem dL_acts_584 : decode cL_acts 584 = .ok (.iconst 4, 1) := by decide +kernel
theorem dL_acts_585 : decode cL_acts 585 = .ok (.irem, 1) := by decide +kernel
theorem dL_acts_586 : decode cL_acts 586 = .ok (.goto 29, 3) := by decide +kernel
theorem dL_acts_589 : decode cL_acts 589 = .ok (.iload 16, 2) := by decide +kernel
theorem dL_acts_591 : decode cL_acts 591 = .ok (.iconst 2, 1) := by decide +kernel
theorem dL_acts_592 : decode cL_acts 592 = .ok (.if_icmp .ne 14, 3) := by decide +kernel
theorem dL_acts_595 : decode cL_acts 595 = .ok (.iconst 1, 1) := by decide +kernel
theorem dL_acts_596 : decode cL_acts 596 = .ok (.iload_n 1, 1) := by decide +kernel
theorem dL_acts_597 : decode cL_acts 597 = .ok (.bipush 8, 2) := by decide +kernel
theorem dL_acts_599 : decode cL_acts 599 = .ok (.ishr, 1) := by decide +kernel
theorem dL_acts_600 : decode cL_acts 600 = .ok (.iconst 3, 1) := by decide +kernel
theorem dL_acts_601 : decode cL_acts 601 = .ok (.irem, 1) := by decide +kernel
theorem dL_acts_602 : decode cL_acts 602 = .ok (.iadd, 1) := by decide +kernel
theorem dL_acts_603 : decode cL_acts 603 = .ok (.goto 12, 3) := by decide +kernel
theorem dL_acts_606 : decode cL_acts 606 = .ok (.iconst 1, 1) := by decide +kernel
theorem dL_acts_607 : decode cL_acts 607 = .ok (.iload_n 1, 1) := by decide +kernel
theorem dL_acts_608 : decode cL_acts 608 = .ok (.bipush 8, 2) := by decide +kernel
theorem dL_acts_610 : decode cL_acts 610 = .ok (.ishr, 1) := by decide +kernel
theorem dL_acts_611 : decode cL_acts 611 = .ok (.bipush 60, 2) := by decide +kernel
theorem dL_acts_613 : decode cL_acts 613 = .ok (.irem, 1) := by decide +kernel
theorem dL_acts_614 : decode cL_acts 614 = .ok (.iadd, 1) := by decide +kernel
theorem dL_acts_615 : decode cL_acts 615 = .ok (.istore 17, 2) := by decide +kernel
theorem dL_acts_617 : decode cL_acts 617 = .ok (.aload_n 0, 1) := by decide +kernel
theorem dL_acts_618 : decode cL_acts 618 = .ok (.bipush 8, 2) := by decide +kernel
theorem dL_acts_620 : decode cL_acts 620 = .ok (.iload 16, 2) := by decide +kernel
theorem dL_acts_622 : decode cL_acts 622 = .ok (.iadd, 1) := by decide +kernel
theorem dL_acts_623 : decode cL_acts 623 = .ok (.invokevirtual 28, 3) := by decide +kernel
theorem dL_acts_626 : decode cL_acts 626 = .ok (.istore 18, 2) := by decide +kernel
theorem dL_acts_628 : decode cL_acts 628 = .ok (.aload_n 0, 1) := by decide +kernel
theorem dL_acts_629 : decode cL_acts 629 = .ok (.iload 16, 2) := by decide +kernel
theorem dL_acts_631 : decode cL_acts 631 = .ok (.iload 17, 2) := by decide +kernel
theorem dL_acts_633 : decode cL_acts 633 = .ok (.invokevirtual 90, 3) := by decide +kernel
theorem dL_acts_636 : decode cL_acts 636 = .ok (.iload 18, 2) := by decide +kernel
theorem dL_acts_638 : decode cL_acts 638 = .ok (.if_icmp .ne 21, 3) := by decide +kernel
theorem dL_acts_641 : decode cL_acts 641 = .ok (.aload_n 0, 1) := by decide +kernel
theorem dL_acts_642 : decode cL_acts 642 = .ok (.bipush 8, 2) := by decide +kernel
theorem dL_acts_644 : decode cL_acts 644 = .ok (.iload 16, 2) := by decide +kernel
theorem dL_acts_646 : decode cL_acts 646 = .ok (.iadd, 1) := by decide +kernel
theorem dL_acts_647 : decode cL_acts 647 = .ok (.invokevirtual 28, 3) := by decide +kernel
theorem dL_acts_650 : decode cL_acts 650 = .ok (.iload 17, 2) := by decide +kernel
theorem dL_acts_652 : decode cL_acts 652 = .ok (.if_icmp .ne 7, 3) := by decide +kernel
theorem dL_acts_655 : decode cL_acts 655 = .ok (.iconst 1, 1) := by decide +kernel
theorem dL_acts_656 : decode cL_acts 656 = .ok (.goto 4, 3) := by decide +kernel
theorem dL_acts_659 : decode cL_acts 659 = .ok (.iconst 0, 1) := by decide +kernel
theorem dL_acts_660 : decode cL_acts 660 = .ok (.ireturn, 1) := by decide +kernel
theorem dL_acts_661 : decode cL_acts 661 = .ok (.aload_n 0, 1) := by decide +kernel
theorem dL_acts_662 : decode cL_acts 662 = .ok (.iconst 0, 1) := by decide +kernel
theorem dL_acts_663 : decode cL_acts 663 = .ok (.invokevirtual 28, 3) := by decide +kernel
theorem dL_acts_666 : decode cL_acts 666 = .ok (.istore 19, 2) := by decide +kernel
theorem dL_acts_668 : decode cL_acts 668 = .ok (.aload_n 0, 1) := by decide +kernel
theorem dL_acts_669 : decode cL_acts 669 = .ok (.iconst 5, 1) := by decide +kernel
theorem dL_acts_670 : decode cL_acts 670 = .ok (.invokevirtual 28, 3) := by decide +kernel
theorem dL_acts_673 : decode cL_acts 673 = .ok (.istore 20, 2) := by decide +kernel
theorem dL_acts_675 : decode cL_acts 675 = .ok (.aload_n 0, 1) := by decide +kernel
theorem dL_acts_676 : decode cL_acts 676 = .ok (.invokevirtual 93, 3) := by decide +kernel
theorem dL_acts_679 : decode cL_acts 679 = .ok (.istore 21, 2) := by decide +kernel
theorem dL_acts_681 : decode cL_acts 681 = .ok (.iload 21, 2) := by decide +kernel
theorem dL_acts_683 : decode cL_acts 683 = .ok (.ifCond .lt 41, 3) := by decide +kernel
theorem dL_acts_686 : decode cL_acts 686 = .ok (.aload_n 0, 1) := by decide +kernel
theorem dL_acts_687 : decode cL_acts 687 = .ok (.iconst 0, 1) := by decide +kernel
theorem dL_acts_688 : decode cL_acts 688 = .ok (.invokevirtual 28, 3) := by decide +kernel
theorem dL_acts_691 : decode cL_acts 691 = .ok (.iload 19, 2) := by decide +kernel
theorem dL_acts_693 : decode cL_acts 693 = .ok (.iconst 1, 1) := by decide +kernel
theorem dL_acts_694 : decode cL_acts 694 = .ok (.iadd, 1) := by decide +kernel
theorem dL_acts_695 : decode cL_acts 695 = .ok (.if_icmp .ne 29, 3) := by decide +kernel
theorem dL_acts_698 : decode cL_acts 698 = .ok (.aload_n 0, 1) := by decide +kernel
theorem dL_acts_699 : decode cL_acts 699 = .ok (.iconst 5, 1) := by decide +kernel
theorem dL_acts_700 : decode cL_acts 700 = .ok (.invokevirtual 28, 3) := by decide +kernel
theorem dL_acts_703 : decode cL_acts 703 = .ok (.iload 20, 2) := by decide +kernel
theorem dL_acts_705 : decode cL_acts 705 = .ok (.iload 21, 2) := by decide +kernel
theorem dL_acts_707 : decode cL_acts 707 = .ok (.isub, 1) := by decide +kernel
theorem dL_acts_708 : decode cL_acts 708 = .ok (.if_icmp .ne 16, 3) := by decide +kernel
theorem dL_acts_711 : decode cL_acts 711 = .ok (.aload_n 0, 1) := by decide +kernel
theorem dL_acts_712 : decode cL_acts 712 = .ok (.bipush 7, 2) := by decide +kernel
theorem dL_acts_714 : decode cL_acts 714 = .ok (.invokevirtual 28, 3) := by decide +kernel
theorem dL_acts_717 : decode cL_acts 717 = .ok (.ifCond .ne 7, 3) := by decide +kernel
theorem dL_acts_720 : decode cL_acts 720 = .ok (.iconst 1, 1) := by decide +kernel
theorem dL_acts_721 : decode cL_acts 721 = .ok (.goto 4, 3) := by decide +kernel
theorem dL_acts_724 : decode cL_acts 724 = .ok (.iconst 0, 1) := by decide +kernel
theorem dL_acts_725 : decode cL_acts 725 = .ok (.ireturn, 1) := by decide +kernel
theorem dL_law_0 : decode cL_law 0 = .ok (.new 10, 3) := by decide +kernel
theorem dL_law_3 : decode cL_law 3 = .ok (.dup, 1) := by decide +kernel
theorem dL_law_4 : decode cL_law 4 = .ok (.invokespecial 96, 3) := by decide +kernel
theorem dL_law_7 : decode cL_law 7 = .ok (.astore_n 1, 1) := by decide +kernel
theorem dL_law_8 : decode cL_law 8 = .ok (.aload_n 1, 1) := by decide +kernel
theorem dL_law_9 : decode cL_law 9 = .ok (.invokevirtual 97, 3) := by decide +kernel
theorem dL_law_12 : decode cL_law 12 = .ok (.bipush (-5), 2) := by decide +kernel
theorem dL_law_14 : decode cL_law 14 = .ok (.if_icmp .ne 48, 3) := by decide +kernel
theorem dL_law_17 : decode cL_law 17 = .ok (.aload_n 1, 1) := by decide +kernel
theorem dL_law_18 : decode cL_law 18 = .ok (.iconst 0, 1) := by decide +kernel
theorem dL_law_19 : decode cL_law 19 = .ok (.invokevirtual 100, 3) := by decide +kernel
theorem dL_law_22 : decode cL_law 22 = .ok (.bipush (-5), 2) := by decide +kernel
theorem dL_law_24 : decode cL_law 24 = .ok (.if_icmp .ne 38, 3) := by decide +kernel
theorem dL_law_27 : decode cL_law 27 = .ok (.aload_n 1, 1) := by decide +kernel
theorem dL_law_28 : decode cL_law 28 = .ok (.invokevirtual 76, 3) := by decide +kernel
theorem dL_law_31 : decode cL_law 31 = .ok (.ifCond .ne 31, 3) := by decide +kernel
theorem dL_law_34 : decode cL_law 34 = .ok (.aload_n 1, 1) := by decide +kernel
theorem dL_law_35 : decode cL_law 35 = .ok (.iconst 0, 1) := by decide +kernel
theorem dL_law_36 : decode cL_law 36 = .ok (.iconst 0, 1) := by decide +kernel
theorem dL_law_37 : decode cL_law 37 = .ok (.invokevirtual 103, 3) := by decide +kernel
theorem dL_law_40 : decode cL_law 40 = .ok (.bipush (-6), 2) := by decide +kernel
theorem dL_law_42 : decode cL_law 42 = .ok (.if_icmp .ne 20, 3) := by decide +kernel
theorem dL_law_45 : decode cL_law 45 = .ok (.aload_n 1, 1) := by decide +kernel
theorem dL_law_46 : decode cL_law 46 = .ok (.aload_n 0, 1) := by decide +kernel
theorem dL_law_47 : decode cL_law 47 = .ok (.bipush 50, 2) := by decide +kernel
theorem dL_law_49 : decode cL_law 49 = .ok (.invokestatic 106, 3) := by decide +kernel
theorem dL_law_52 : decode cL_law 52 = .ok (.invokestatic 79, 3) := by decide +kernel
theorem dL_law_55 : decode cL_law 55 = .ok (.ifCond .eq 7, 3) := by decide +kernel
theorem dL_law_58 : decode cL_law 58 = .ok (.iconst 1, 1) := by decide +kernel
theorem dL_law_59 : decode cL_law 59 = .ok (.goto 4, 3) := by decide +kernel
theorem dL_law_62 : decode cL_law 62 = .ok (.iconst 0, 1) := by decide +kernel
theorem dL_law_63 : decode cL_law 63 = .ok (.istore_n 2, 1) := by decide +kernel
theorem dL_law_64 : decode cL_law 64 = .ok (.iconst 0, 1) := by decide +kernel
theorem dL_law_65 : decode cL_law 65 = .ok (.istore_n 3, 1) := by decide +kernel
theorem dL_law_66 : decode cL_law 66 = .ok (.iload_n 3, 1) := by decide +kernel
theorem dL_law_67 : decode cL_law 67 = .ok (.bipush 36, 2) := by decide +kernel
theorem dL_law_69 : decode cL_law 69 = .ok (.if_icmp .ge 45, 3) := by decide +kernel
theorem dL_law_72 : decode cL_law 72 = .ok (.iload_n 2, 1) := by decide +kernel
theorem dL_law_73 : decode cL_law 73 = .ok (.ifCond .eq 41, 3) := by decide +kernel
theorem dL_law_76 : decode cL_law 76 = .ok (.aload_n 1, 1) := by decide +kernel
theorem dL_law_77 : decode cL_law 77 = .ok (.aload_n 0, 1) := by decide +kernel
theorem dL_law_78 : decode cL_law 78 = .ok (.iload_n 3, 1) := by decide +kernel
theorem dL_law_79 : decode cL_law 79 = .ok (.invokestatic 106, 3) := by decide +kernel
theorem dL_law_82 : decode cL_law 82 = .ok (.invokestatic 110, 3) := by decide +kernel
theorem dL_law_85 : decode cL_law 85 = .ok (.ifCond .eq 21, 3) := by decide +kernel
theorem dL_law_88 : decode cL_law 88 = .ok (.iload_n 3, 1) := by decide +kernel
theorem dL_law_89 : decode cL_law 89 = .ok (.bipush 12, 2) := by decide +kernel
theorem dL_law_91 : decode cL_law 91 = .ok (.irem, 1) := by decide +kernel
theorem dL_law_92 : decode cL_law 92 = .ok (.ifCond .gt 10, 3) := by decide +kernel
theorem dL_law_95 : decode cL_law 95 = .ok (.aload_n 1, 1) := by decide +kernel
theorem dL_law_96 : decode cL_law 96 = .ok (.invokestatic 113, 3) := by decide +kernel
theorem dL_law_99 : decode cL_law 99 = .ok (.ifCond .eq 7, 3) := by decide +kernel
theorem dL_law_102 : decode cL_law 102 = .ok (.iconst 1, 1) := by decide +kernel
theorem dL_law_103 : decode cL_law 103 = .ok (.goto 4, 3) := by decide +kernel
theorem dL_law_106 : decode cL_law 106 = .ok (.iconst 0, 1) := by decide +kernel
theorem dL_law_107 : decode cL_law 107 = .ok (.istore_n 2, 1) := by decide +kernel
theorem dL_law_108 : decode cL_law 108 = .ok (.iinc 3 1, 3) := by decide +kernel
theorem dL_law_111 : decode cL_law 111 = .ok (.goto (-45), 3) := by decide +kernel
theorem dL_law_114 : decode cL_law 114 = .ok (.aload_n 1, 1) := by decide +kernel
theorem dL_law_115 : decode cL_law 115 = .ok (.iconst 1, 1) := by decide +kernel
theorem dL_law_116 : decode cL_law 116 = .ok (.invokevirtual 117, 3) := by decide +kernel
theorem dL_law_119 : decode cL_law 119 = .ok (.istore_n 3, 1) := by decide +kernel
theorem dL_law_120 : decode cL_law 120 = .ok (.aload_n 1, 1) := by decide +kernel
theorem dL_law_121 : decode cL_law 121 = .ok (.iconst 0, 1) := by decide +kernel
theorem dL_law_122 : decode cL_law 122 = .ok (.iconst 0, 1) := by decide +kernel
theorem dL_law_123 : decode cL_law 123 = .ok (.invokevirtual 103, 3) := by decide +kernel
theorem dL_law_126 : decode cL_law 126 = .ok (.istore 4, 2) := by decide +kernel
theorem dL_law_128 : decode cL_law 128 = .ok (.aload_n 1, 1) := by decide +kernel
theorem dL_law_129 : decode cL_law 129 = .ok (.iconst 0, 1) := by decide +kernel
theorem dL_law_130 : decode cL_law 130 = .ok (.iconst 1, 1) := by decide +kernel
theorem dL_law_131 : decode cL_law 131 = .ok (.invokevirtual 103, 3) := by decide +kernel
theorem dL_law_134 : decode cL_law 134 = .ok (.istore 5, 2) := by decide +kernel
theorem dL_law_136 : decode cL_law 136 = .ok (.iconst 0, 1) := by decide +kernel
theorem dL_law_137 : decode cL_law 137 = .ok (.istore 6, 2) := by decide +kernel
theorem dL_law_139 : decode cL_law 139 = .ok (.iconst 0, 1) := by decide +kernel
theorem dL_law_140 : decode cL_law 140 = .ok (.istore 7, 2) := by decide +kernel
theorem dL_law_142 : decode cL_law 142 = .ok (.iload 7, 2) := by decide +kernel
theorem dL_law_144 : decode cL_law 144 = .ok (.iload_n 3, 1) := by decide +kernel
theorem dL_law_145 : decode cL_law 145 = .ok (.if_icmp .ge 21, 3) := by decide +kernel
theorem dL_law_148 : decode cL_law 148 = .ok (.iload 6, 2) := by decide +kernel
theorem dL_law_150 : decode cL_law 150 = .ok (.aload_n 1, 1) := by decide +kernel
theorem dL_law_151 : decode cL_law 151 = .ok (.iconst 0, 1) := by decide +kernel
theorem dL_law_152 : decode cL_law 152 = .ok (.iload 7, 2) := by decide +kernel
theorem dL_law_154 : decode cL_law 154 = .ok (.invokevirtual 41, 3) := by decide +kernel
theorem dL_law_157 : decode cL_law 157 = .ok (.iadd, 1) := by decide +kernel
theorem dL_law_158 : decode cL_law 158 = .ok (.istore 6, 2) := by decide +kernel
theorem dL_law_160 : decode cL_law 160 = .ok (.iinc 7 1, 3) := by decide +kernel
theorem dL_law_163 : decode cL_law 163 = .ok (.goto (-21), 3) := by decide +kernel
theorem dL_law_166 : decode cL_law 166 = .ok (.iload_n 2, 1) := by decide +kernel
theorem dL_law_167 : decode cL_law 167 = .ok (.ifCond .eq 56, 3) := by decide +kernel
theorem dL_law_170 : decode cL_law 170 = .ok (.aload_n 1, 1) := by decide +kernel
theorem dL_law_171 : decode cL_law 171 = .ok (.invokestatic 113, 3) := by decide +kernel
theorem dL_law_174 : decode cL_law 174 = .ok (.ifCond .eq 49, 3) := by decide +kernel
theorem dL_law_177 : decode cL_law 177 = .ok (.aload_n 1, 1) := by decide +kernel
theorem dL_law_178 : decode cL_law 178 = .ok (.invokestatic 120, 3) := by decide +kernel
theorem dL_law_181 : decode cL_law 181 = .ok (.ifCond .eq 42, 3) := by decide +kernel
theorem dL_law_184 : decode cL_law 184 = .ok (.iload 4, 2) := by decide +kernel
theorem dL_law_186 : decode cL_law 186 = .ok (.ifCond .ge 20, 3) := by decide +kernel
theorem dL_law_189 : decode cL_law 189 = .ok (.iload 4, 2) := by decide +kernel
theorem dL_law_191 : decode cL_law 191 = .ok (.bipush (-6), 2) := by decide +kernel
theorem dL_law_193 : decode cL_law 193 = .ok (.if_icmp .ne 30, 3) := by decide +kernel
theorem dL_law_196 : decode cL_law 196 = .ok (.iload 5, 2) := by decide +kernel
theorem dL_law_198 : decode cL_law 198 = .ok (.bipush (-6), 2) := by decide +kernel
theorem dL_law_200 : decode cL_law 200 = .ok (.if_icmp .ne 23, 3) := by decide +kernel
theorem dL_law_203 : decode cL_law 203 = .ok (.goto 16, 3) := by decide +kernel
theorem dL_law_206 : decode cL_law 206 = .ok (.iload 4, 2) := by decide +kernel
theorem dL_law_208 : decode cL_law 208 = .ok (.iload_n 3, 1) := by decide +kernel
theorem dL_law_209 : decode cL_law 209 = .ok (.if_icmp .ge 14, 3) := by decide +kernel
theorem dL_law_212 : decode cL_law 212 = .ok (.iload 5, 2) := by decide +kernel
theorem dL_law_214 : decode cL_law 214 = .ok (.iload 6, 2) := by decide +kernel
theorem dL_law_216 : decode cL_law 216 = .ok (.if_icmp .le 7, 3) := by decide +kernel
theorem dL_law_219 : decode cL_law 219 = .ok (.iconst 1, 1) := by decide +kernel
theorem dL_law_220 : decode cL_law 220 = .ok (.goto 4, 3) := by decide +kernel
theorem dL_law_223 : decode cL_law 223 = .ok (.iconst 0, 1) := by decide +kernel
theorem dL_law_224 : decode cL_law 224 = .ok (.istore_n 2, 1) := by decide +kernel
theorem dL_law_225 : decode cL_law 225 = .ok (.aload_n 1, 1) := by decide +kernel
theorem dL_law_226 : decode cL_law 226 = .ok (.iconst 5, 1) := by decide +kernel
theorem dL_law_227 : decode cL_law 227 = .ok (.invokevirtual 28, 3) := by decide +kernel
theorem dL_law_230 : decode cL_law 230 = .ok (.istore 7, 2) := by decide +kernel
theorem dL_law_232 : decode cL_law 232 = .ok (.iload_n 2, 1) := by decide +kernel
theorem dL_law_233 : decode cL_law 233 = .ok (.ifCond .eq 59, 3) := by decide +kernel
theorem dL_law_236 : decode cL_law 236 = .ok (.aload_n 1, 1) := by decide +kernel
theorem dL_law_237 : decode cL_law 237 = .ok (.invokevirtual 93, 3) := by decide +kernel
theorem dL_law_240 : decode cL_law 240 = .ok (.ifCond .lt 52, 3) := by decide +kernel
theorem dL_law_243 : decode cL_law 243 = .ok (.aload_n 1, 1) := by decide +kernel
theorem dL_law_244 : decode cL_law 244 = .ok (.iconst 1, 1) := by decide +kernel
theorem dL_law_245 : decode cL_law 245 = .ok (.iconst 3, 1) := by decide +kernel
theorem dL_law_246 : decode cL_law 246 = .ok (.invokevirtual 90, 3) := by decide +kernel
theorem dL_law_249 : decode cL_law 249 = .ok (.ifCond .lt 43, 3) := by decide +kernel
theorem dL_law_252 : decode cL_law 252 = .ok (.aload_n 1, 1) := by decide +kernel
theorem dL_law_253 : decode cL_law 253 = .ok (.iconst 1, 1) := by decide +kernel
theorem dL_law_254 : decode cL_law 254 = .ok (.invokevirtual 100, 3) := by decide +kernel
theorem dL_law_257 : decode cL_law 257 = .ok (.iload_n 3, 1) := by decide +kernel
theorem dL_law_258 : decode cL_law 258 = .ok (.if_icmp .ne 34, 3) := by decide +kernel
theorem dL_law_261 : decode cL_law 261 = .ok (.aload_n 1, 1) := by decide +kernel
theorem dL_law_262 : decode cL_law 262 = .ok (.iconst 5, 1) := by decide +kernel
theorem dL_law_263 : decode cL_law 263 = .ok (.invokevirtual 28, 3) := by decide +kernel
theorem dL_law_266 : decode cL_law 266 = .ok (.iload 7, 2) := by decide +kernel
theorem dL_law_268 : decode cL_law 268 = .ok (.if_icmp .ne 24, 3) := by decide +kernel
theorem dL_law_271 : decode cL_law 271 = .ok (.aload_n 1, 1) := by decide +kernel
theorem dL_law_272 : decode cL_law 272 = .ok (.invokevirtual 97, 3) := by decide +kernel
theorem dL_law_275 : decode cL_law 275 = .ok (.ifCond .lt 17, 3) := by decide +kernel
theorem dL_law_278 : decode cL_law 278 = .ok (.aload_n 1, 1) := by decide +kernel
theorem dL_law_279 : decode cL_law 279 = .ok (.bipush 9, 2) := by decide +kernel
theorem dL_law_281 : decode cL_law 281 = .ok (.invokevirtual 28, 3) := by decide +kernel
theorem dL_law_284 : decode cL_law 284 = .ok (.iconst 3, 1) := by decide +kernel
theorem dL_law_285 : decode cL_law 285 = .ok (.if_icmp .ne 7, 3) := by decide +kernel
theorem dL_law_288 : decode cL_law 288 = .ok (.iconst 1, 1) := by decide +kernel
theorem dL_law_289 : decode cL_law 289 = .ok (.goto 4, 3) := by decide +kernel
theorem dL_law_292 : decode cL_law 292 = .ok (.iconst 0, 1) := by decide +kernel
theorem dL_law_293 : decode cL_law 293 = .ok (.ireturn, 1) := by decide +kernel
