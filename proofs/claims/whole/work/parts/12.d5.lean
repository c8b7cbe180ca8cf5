/-! what stands at each place of a code (printed rows of NAMES) -/
theorem dX12_works_229 : decode cX12_works 229 = .ok (.lload 4, 2) := by decide +kernel
theorem dX12_works_231 : decode cX12_works 231 = .ok (.lload_n 2, 1) := by decide +kernel
theorem dX12_works_232 : decode cX12_works 232 = .ok (.ldiv, 1) := by decide +kernel
theorem dX12_works_233 : decode cX12_works 233 = .ok (.lstore 6, 2) := by decide +kernel
theorem dX12_works_235 : decode cX12_works 235 = .ok (.goto 172, 3) := by decide +kernel
theorem dX12_works_238 : decode cX12_works 238 = .ok (.lload 4, 2) := by decide +kernel
theorem dX12_works_240 : decode cX12_works 240 = .ok (.lload_n 2, 1) := by decide +kernel
theorem dX12_works_241 : decode cX12_works 241 = .ok (.lcmp, 1) := by decide +kernel
theorem dX12_works_242 : decode cX12_works 242 = .ok (.ifCond .ge 7, 3) := by decide +kernel
theorem dX12_works_245 : decode cX12_works 245 = .ok (.iconst 1, 1) := by decide +kernel
theorem dX12_works_246 : decode cX12_works 246 = .ok (.goto 4, 3) := by decide +kernel
theorem dX12_works_249 : decode cX12_works 249 = .ok (.iconst 0, 1) := by decide +kernel
theorem dX12_works_250 : decode cX12_works 250 = .ok (.invokestatic 317, 3) := by decide +kernel
theorem dX12_works_253 : decode cX12_works 253 = .ok (.lstore 6, 2) := by decide +kernel
theorem dX12_works_255 : decode cX12_works 255 = .ok (.goto 152, 3) := by decide +kernel
theorem dX12_works_258 : decode cX12_works 258 = .ok (.lload 4, 2) := by decide +kernel
theorem dX12_works_260 : decode cX12_works 260 = .ok (.lload_n 2, 1) := by decide +kernel
theorem dX12_works_261 : decode cX12_works 261 = .ok (.lcmp, 1) := by decide +kernel
theorem dX12_works_262 : decode cX12_works 262 = .ok (.ifCond .le 7, 3) := by decide +kernel
theorem dX12_works_265 : decode cX12_works 265 = .ok (.iconst 1, 1) := by decide +kernel
theorem dX12_works_266 : decode cX12_works 266 = .ok (.goto 4, 3) := by decide +kernel
theorem dX12_works_269 : decode cX12_works 269 = .ok (.iconst 0, 1) := by decide +kernel
theorem dX12_works_270 : decode cX12_works 270 = .ok (.invokestatic 317, 3) := by decide +kernel
theorem dX12_works_273 : decode cX12_works 273 = .ok (.lstore 6, 2) := by decide +kernel
theorem dX12_works_275 : decode cX12_works 275 = .ok (.goto 132, 3) := by decide +kernel
theorem dX12_works_278 : decode cX12_works 278 = .ok (.lload 4, 2) := by decide +kernel
theorem dX12_works_280 : decode cX12_works 280 = .ok (.lload_n 2, 1) := by decide +kernel
theorem dX12_works_281 : decode cX12_works 281 = .ok (.lcmp, 1) := by decide +kernel
theorem dX12_works_282 : decode cX12_works 282 = .ok (.ifCond .ne 7, 3) := by decide +kernel
theorem dX12_works_285 : decode cX12_works 285 = .ok (.iconst 1, 1) := by decide +kernel
theorem dX12_works_286 : decode cX12_works 286 = .ok (.goto 4, 3) := by decide +kernel
theorem dX12_works_289 : decode cX12_works 289 = .ok (.iconst 0, 1) := by decide +kernel
theorem dX12_works_290 : decode cX12_works 290 = .ok (.invokestatic 317, 3) := by decide +kernel
theorem dX12_works_293 : decode cX12_works 293 = .ok (.lstore 6, 2) := by decide +kernel
theorem dX12_works_295 : decode cX12_works 295 = .ok (.goto 112, 3) := by decide +kernel
theorem dX12_works_298 : decode cX12_works 298 = .ok (.lload 4, 2) := by decide +kernel
theorem dX12_works_300 : decode cX12_works 300 = .ok (.lload_n 2, 1) := by decide +kernel
theorem dX12_works_301 : decode cX12_works 301 = .ok (.lcmp, 1) := by decide +kernel
theorem dX12_works_302 : decode cX12_works 302 = .ok (.ifCond .gt 7, 3) := by decide +kernel
theorem dX12_works_305 : decode cX12_works 305 = .ok (.iconst 1, 1) := by decide +kernel
theorem dX12_works_306 : decode cX12_works 306 = .ok (.goto 4, 3) := by decide +kernel
theorem dX12_works_309 : decode cX12_works 309 = .ok (.iconst 0, 1) := by decide +kernel
theorem dX12_works_310 : decode cX12_works 310 = .ok (.invokestatic 317, 3) := by decide +kernel
theorem dX12_works_313 : decode cX12_works 313 = .ok (.lstore 6, 2) := by decide +kernel
theorem dX12_works_315 : decode cX12_works 315 = .ok (.goto 92, 3) := by decide +kernel
theorem dX12_works_318 : decode cX12_works 318 = .ok (.lload 4, 2) := by decide +kernel
theorem dX12_works_320 : decode cX12_works 320 = .ok (.lload_n 2, 1) := by decide +kernel
theorem dX12_works_321 : decode cX12_works 321 = .ok (.lcmp, 1) := by decide +kernel
theorem dX12_works_322 : decode cX12_works 322 = .ok (.ifCond .lt 7, 3) := by decide +kernel
theorem dX12_works_325 : decode cX12_works 325 = .ok (.iconst 1, 1) := by decide +kernel
theorem dX12_works_326 : decode cX12_works 326 = .ok (.goto 4, 3) := by decide +kernel
theorem dX12_works_329 : decode cX12_works 329 = .ok (.iconst 0, 1) := by decide +kernel
theorem dX12_works_330 : decode cX12_works 330 = .ok (.invokestatic 317, 3) := by decide +kernel
theorem dX12_works_333 : decode cX12_works 333 = .ok (.lstore 6, 2) := by decide +kernel
theorem dX12_works_335 : decode cX12_works 335 = .ok (.goto 72, 3) := by decide +kernel
theorem dX12_works_338 : decode cX12_works 338 = .ok (.lload 4, 2) := by decide +kernel
theorem dX12_works_340 : decode cX12_works 340 = .ok (.lload_n 2, 1) := by decide +kernel
theorem dX12_works_341 : decode cX12_works 341 = .ok (.lcmp, 1) := by decide +kernel
theorem dX12_works_342 : decode cX12_works 342 = .ok (.ifCond .eq 7, 3) := by decide +kernel
theorem dX12_works_345 : decode cX12_works 345 = .ok (.iconst 1, 1) := by decide +kernel
theorem dX12_works_346 : decode cX12_works 346 = .ok (.goto 4, 3) := by decide +kernel
theorem dX12_works_349 : decode cX12_works 349 = .ok (.iconst 0, 1) := by decide +kernel
theorem dX12_works_350 : decode cX12_works 350 = .ok (.invokestatic 317, 3) := by decide +kernel
theorem dX12_works_353 : decode cX12_works 353 = .ok (.lstore 6, 2) := by decide +kernel
theorem dX12_works_355 : decode cX12_works 355 = .ok (.goto 52, 3) := by decide +kernel
theorem dX12_works_358 : decode cX12_works 358 = .ok (.lload 4, 2) := by decide +kernel
theorem dX12_works_360 : decode cX12_works 360 = .ok (.lconst 0, 1) := by decide +kernel
theorem dX12_works_361 : decode cX12_works 361 = .ok (.lcmp, 1) := by decide +kernel
theorem dX12_works_362 : decode cX12_works 362 = .ok (.ifCond .eq 13, 3) := by decide +kernel
theorem dX12_works_365 : decode cX12_works 365 = .ok (.lload_n 2, 1) := by decide +kernel
theorem dX12_works_366 : decode cX12_works 366 = .ok (.lconst 0, 1) := by decide +kernel
theorem dX12_works_367 : decode cX12_works 367 = .ok (.lcmp, 1) := by decide +kernel
theorem dX12_works_368 : decode cX12_works 368 = .ok (.ifCond .eq 7, 3) := by decide +kernel
theorem dX12_works_371 : decode cX12_works 371 = .ok (.iconst 1, 1) := by decide +kernel
theorem dX12_works_372 : decode cX12_works 372 = .ok (.goto 4, 3) := by decide +kernel
theorem dX12_works_375 : decode cX12_works 375 = .ok (.iconst 0, 1) := by decide +kernel
theorem dX12_works_376 : decode cX12_works 376 = .ok (.invokestatic 317, 3) := by decide +kernel
theorem dX12_works_379 : decode cX12_works 379 = .ok (.lstore 6, 2) := by decide +kernel
theorem dX12_works_381 : decode cX12_works 381 = .ok (.goto 26, 3) := by decide +kernel
theorem dX12_works_384 : decode cX12_works 384 = .ok (.lload 4, 2) := by decide +kernel
theorem dX12_works_386 : decode cX12_works 386 = .ok (.lconst 0, 1) := by decide +kernel
theorem dX12_works_387 : decode cX12_works 387 = .ok (.lcmp, 1) := by decide +kernel
theorem dX12_works_388 : decode cX12_works 388 = .ok (.ifCond .ne 9, 3) := by decide +kernel
theorem dX12_works_391 : decode cX12_works 391 = .ok (.lload_n 2, 1) := by decide +kernel
theorem dX12_works_392 : decode cX12_works 392 = .ok (.lconst 0, 1) := by decide +kernel
theorem dX12_works_393 : decode cX12_works 393 = .ok (.lcmp, 1) := by decide +kernel
theorem dX12_works_394 : decode cX12_works 394 = .ok (.ifCond .eq 7, 3) := by decide +kernel
theorem dX12_works_397 : decode cX12_works 397 = .ok (.iconst 1, 1) := by decide +kernel
theorem dX12_works_398 : decode cX12_works 398 = .ok (.goto 4, 3) := by decide +kernel
theorem dX12_works_401 : decode cX12_works 401 = .ok (.iconst 0, 1) := by decide +kernel
theorem dX12_works_402 : decode cX12_works 402 = .ok (.invokestatic 317, 3) := by decide +kernel
theorem dX12_works_405 : decode cX12_works 405 = .ok (.lstore 6, 2) := by decide +kernel
theorem dX12_works_407 : decode cX12_works 407 = .ok (.aload_n 0, 1) := by decide +kernel
theorem dX12_works_408 : decode cX12_works 408 = .ok (.getfield 63, 3) := by decide +kernel
theorem dX12_works_411 : decode cX12_works 411 = .ok (.aload_n 0, 1) := by decide +kernel
theorem dX12_works_412 : decode cX12_works 412 = .ok (.getfield 314, 3) := by decide +kernel
theorem dX12_works_415 : decode cX12_works 415 = .ok (.iconst 1, 1) := by decide +kernel
theorem dX12_works_416 : decode cX12_works 416 = .ok (.isub, 1) := by decide +kernel
theorem dX12_works_417 : decode cX12_works 417 = .ok (.lload 6, 2) := by decide +kernel
theorem dX12_works_419 : decode cX12_works 419 = .ok (.lastore, 1) := by decide +kernel
theorem dX12_works_420 : decode cX12_works 420 = .ok (.lload 6, 2) := by decide +kernel
theorem dX12_works_422 : decode cX12_works 422 = .ok (.ldc2_w 327, 3) := by decide +kernel
theorem dX12_works_425 : decode cX12_works 425 = .ok (.lcmp, 1) := by decide +kernel
theorem dX12_works_426 : decode cX12_works 426 = .ok (.ifCond .gt 16, 3) := by decide +kernel
theorem dX12_works_429 : decode cX12_works 429 = .ok (.lload 6, 2) := by decide +kernel
theorem dX12_works_431 : decode cX12_works 431 = .ok (.ldc2_w 329, 3) := by decide +kernel
theorem dX12_works_434 : decode cX12_works 434 = .ok (.lcmp, 1) := by decide +kernel
theorem dX12_works_435 : decode cX12_works 435 = .ok (.ifCond .lt 7, 3) := by decide +kernel
theorem dX12_works_438 : decode cX12_works 438 = .ok (.iconst 1, 1) := by decide +kernel
theorem dX12_works_439 : decode cX12_works 439 = .ok (.goto 4, 3) := by decide +kernel
theorem dX12_works_442 : decode cX12_works 442 = .ok (.iconst 0, 1) := by decide +kernel
theorem dX12_works_443 : decode cX12_works 443 = .ok (.ireturn, 1) := by decide +kernel
theorem dX12_goes_0 : decode cX12_goes 0 = .ok (.aload_n 0, 1) := by decide +kernel
theorem dX12_goes_1 : decode cX12_goes 1 = .ok (.iconst 0, 1) := by decide +kernel
theorem dX12_goes_2 : decode cX12_goes 2 = .ok (.putfield 314, 3) := by decide +kernel
theorem dX12_goes_5 : decode cX12_goes 5 = .ok (.aload_n 0, 1) := by decide +kernel
theorem dX12_goes_6 : decode cX12_goes 6 = .ok (.getfield 43, 3) := by decide +kernel
theorem dX12_goes_9 : decode cX12_goes 9 = .ok (.iload_n 1, 1) := by decide +kernel
theorem dX12_goes_10 : decode cX12_goes 10 = .ok (.iaload, 1) := by decide +kernel
theorem dX12_goes_11 : decode cX12_goes 11 = .ok (.istore_n 2, 1) := by decide +kernel
theorem dX12_goes_12 : decode cX12_goes 12 = .ok (.iload_n 2, 1) := by decide +kernel
theorem dX12_goes_13 : decode cX12_goes 13 = .ok (.aload_n 0, 1) := by decide +kernel
theorem dX12_goes_14 : decode cX12_goes 14 = .ok (.getfield 46, 3) := by decide +kernel
theorem dX12_goes_17 : decode cX12_goes 17 = .ok (.iload_n 1, 1) := by decide +kernel
theorem dX12_goes_18 : decode cX12_goes 18 = .ok (.iaload, 1) := by decide +kernel
theorem dX12_goes_19 : decode cX12_goes 19 = .ok (.if_icmp .ge 83, 3) := by decide +kernel
theorem dX12_goes_22 : decode cX12_goes 22 = .ok (.aload_n 0, 1) := by decide +kernel
theorem dX12_goes_23 : decode cX12_goes 23 = .ok (.getfield 49, 3) := by decide +kernel
theorem dX12_goes_26 : decode cX12_goes 26 = .ok (.iload_n 2, 1) := by decide +kernel
theorem dX12_goes_27 : decode cX12_goes 27 = .ok (.iaload, 1) := by decide +kernel
theorem dX12_goes_28 : decode cX12_goes 28 = .ok (.iconst 2, 1) := by decide +kernel
theorem dX12_goes_29 : decode cX12_goes 29 = .ok (.if_icmp .ne 18, 3) := by decide +kernel
theorem dX12_goes_32 : decode cX12_goes 32 = .ok (.aload_n 0, 1) := by decide +kernel
theorem dX12_goes_33 : decode cX12_goes 33 = .ok (.aload_n 0, 1) := by decide +kernel
theorem dX12_goes_34 : decode cX12_goes 34 = .ok (.getfield 52, 3) := by decide +kernel
theorem dX12_goes_37 : decode cX12_goes 37 = .ok (.iload_n 2, 1) := by decide +kernel
theorem dX12_goes_38 : decode cX12_goes 38 = .ok (.iaload, 1) := by decide +kernel
theorem dX12_goes_39 : decode cX12_goes 39 = .ok (.invokevirtual 331, 3) := by decide +kernel
theorem dX12_goes_42 : decode cX12_goes 42 = .ok (.ifCond .ne 54, 3) := by decide +kernel
theorem dX12_goes_45 : decode cX12_goes 45 = .ok (.iconst 0, 1) := by decide +kernel
theorem dX12_goes_46 : decode cX12_goes 46 = .ok (.ireturn, 1) := by decide +kernel
theorem dX12_goes_47 : decode cX12_goes 47 = .ok (.aload_n 0, 1) := by decide +kernel
theorem dX12_goes_48 : decode cX12_goes 48 = .ok (.getfield 63, 3) := by decide +kernel
theorem dX12_goes_51 : decode cX12_goes 51 = .ok (.aload_n 0, 1) := by decide +kernel
theorem dX12_goes_52 : decode cX12_goes 52 = .ok (.getfield 314, 3) := by decide +kernel
theorem dX12_goes_55 : decode cX12_goes 55 = .ok (.aload_n 0, 1) := by decide +kernel
theorem dX12_goes_56 : decode cX12_goes 56 = .ok (.getfield 49, 3) := by decide +kernel
theorem dX12_goes_59 : decode cX12_goes 59 = .ok (.iload_n 2, 1) := by decide +kernel
theorem dX12_goes_60 : decode cX12_goes 60 = .ok (.iaload, 1) := by decide +kernel
theorem dX12_goes_61 : decode cX12_goes 61 = .ok (.ifCond .ne 13, 3) := by decide +kernel
theorem dX12_goes_64 : decode cX12_goes 64 = .ok (.aload_n 0, 1) := by decide +kernel
theorem dX12_goes_65 : decode cX12_goes 65 = .ok (.getfield 52, 3) := by decide +kernel
theorem dX12_goes_68 : decode cX12_goes 68 = .ok (.iload_n 2, 1) := by decide +kernel
theorem dX12_goes_69 : decode cX12_goes 69 = .ok (.iaload, 1) := by decide +kernel
theorem dX12_goes_70 : decode cX12_goes 70 = .ok (.i2l, 1) := by decide +kernel
theorem dX12_goes_71 : decode cX12_goes 71 = .ok (.goto 14, 3) := by decide +kernel
theorem dX12_goes_74 : decode cX12_goes 74 = .ok (.aload_n 0, 1) := by decide +kernel
theorem dX12_goes_75 : decode cX12_goes 75 = .ok (.getfield 59, 3) := by decide +kernel
theorem dX12_goes_78 : decode cX12_goes 78 = .ok (.aload_n 0, 1) := by decide +kernel
theorem dX12_goes_79 : decode cX12_goes 79 = .ok (.getfield 52, 3) := by decide +kernel
theorem dX12_goes_82 : decode cX12_goes 82 = .ok (.iload_n 2, 1) := by decide +kernel
theorem dX12_goes_83 : decode cX12_goes 83 = .ok (.iaload, 1) := by decide +kernel
theorem dX12_goes_84 : decode cX12_goes 84 = .ok (.laload, 1) := by decide +kernel
theorem dX12_goes_85 : decode cX12_goes 85 = .ok (.lastore, 1) := by decide +kernel
theorem dX12_goes_86 : decode cX12_goes 86 = .ok (.aload_n 0, 1) := by decide +kernel
theorem dX12_goes_87 : decode cX12_goes 87 = .ok (.dup, 1) := by decide +kernel
theorem dX12_goes_88 : decode cX12_goes 88 = .ok (.getfield 314, 3) := by decide +kernel
theorem dX12_goes_91 : decode cX12_goes 91 = .ok (.iconst 1, 1) := by decide +kernel
theorem dX12_goes_92 : decode cX12_goes 92 = .ok (.iadd, 1) := by decide +kernel
theorem dX12_goes_93 : decode cX12_goes 93 = .ok (.putfield 314, 3) := by decide +kernel
theorem dX12_goes_96 : decode cX12_goes 96 = .ok (.iinc 2 1, 3) := by decide +kernel
theorem dX12_goes_99 : decode cX12_goes 99 = .ok (.goto (-87), 3) := by decide +kernel
theorem dX12_goes_102 : decode cX12_goes 102 = .ok (.iconst 1, 1) := by decide +kernel
theorem dX12_goes_103 : decode cX12_goes 103 = .ok (.ireturn, 1) := by decide +kernel
theorem dX12_hasLaw_0 : decode cX12_hasLaw 0 = .ok (.aload_n 0, 1) := by decide +kernel
theorem dX12_hasLaw_1 : decode cX12_hasLaw 1 = .ok (.getfield 46, 3) := by decide +kernel
theorem dX12_hasLaw_4 : decode cX12_hasLaw 4 = .ok (.iload_n 1, 1) := by decide +kernel
theorem dX12_hasLaw_5 : decode cX12_hasLaw 5 = .ok (.iaload, 1) := by decide +kernel
theorem dX12_hasLaw_6 : decode cX12_hasLaw 6 = .ok (.aload_n 0, 1) := by decide +kernel
theorem dX12_hasLaw_7 : decode cX12_hasLaw 7 = .ok (.getfield 43, 3) := by decide +kernel
theorem dX12_hasLaw_10 : decode cX12_hasLaw 10 = .ok (.iload_n 1, 1) := by decide +kernel
theorem dX12_hasLaw_11 : decode cX12_hasLaw 11 = .ok (.iaload, 1) := by decide +kernel
theorem dX12_hasLaw_12 : decode cX12_hasLaw 12 = .ok (.if_icmp .le 7, 3) := by decide +kernel
theorem dX12_hasLaw_15 : decode cX12_hasLaw 15 = .ok (.iconst 1, 1) := by decide +kernel
theorem dX12_hasLaw_16 : decode cX12_hasLaw 16 = .ok (.goto 4, 3) := by decide +kernel
theorem dX12_hasLaw_19 : decode cX12_hasLaw 19 = .ok (.iconst 0, 1) := by decide +kernel
theorem dX12_hasLaw_20 : decode cX12_hasLaw 20 = .ok (.ireturn, 1) := by decide +kernel
theorem dX12_starts_0 : decode cX12_starts 0 = .ok (.aload_n 0, 1) := by decide +kernel
theorem dX12_starts_1 : decode cX12_starts 1 = .ok (.getfield 66, 3) := by decide +kernel
theorem dX12_starts_4 : decode cX12_starts 4 = .ok (.iload_n 1, 1) := by decide +kernel
theorem dX12_starts_5 : decode cX12_starts 5 = .ok (.iconst 0, 1) := by decide +kernel
theorem dX12_starts_6 : decode cX12_starts 6 = .ok (.iastore, 1) := by decide +kernel
theorem dX12_starts_7 : decode cX12_starts 7 = .ok (.aload_n 0, 1) := by decide +kernel
theorem dX12_starts_8 : decode cX12_starts 8 = .ok (.getfield 69, 3) := by decide +kernel
theorem dX12_starts_11 : decode cX12_starts 11 = .ok (.iload_n 1, 1) := by decide +kernel
theorem dX12_starts_12 : decode cX12_starts 12 = .ok (.aload_n 0, 1) := by decide +kernel
theorem dX12_starts_13 : decode cX12_starts 13 = .ok (.getfield 13, 3) := by decide +kernel
theorem dX12_starts_16 : decode cX12_starts 16 = .ok (.iconst 5, 1) := by decide +kernel
theorem dX12_starts_17 : decode cX12_starts 17 = .ok (.iaload, 1) := by decide +kernel
theorem dX12_starts_18 : decode cX12_starts 18 = .ok (.iastore, 1) := by decide +kernel
theorem dX12_starts_19 : decode cX12_starts 19 = .ok (.aload_n 0, 1) := by decide +kernel
theorem dX12_starts_20 : decode cX12_starts 20 = .ok (.getfield 72, 3) := by decide +kernel
theorem dX12_starts_23 : decode cX12_starts 23 = .ok (.iload_n 1, 1) := by decide +kernel
theorem dX12_starts_24 : decode cX12_starts 24 = .ok (.iconst 0, 1) := by decide +kernel
theorem dX12_starts_25 : decode cX12_starts 25 = .ok (.iastore, 1) := by decide +kernel
theorem dX12_starts_26 : decode cX12_starts 26 = .ok (.aload_n 0, 1) := by decide +kernel
theorem dX12_starts_27 : decode cX12_starts 27 = .ok (.getfield 75, 3) := by decide +kernel
theorem dX12_starts_30 : decode cX12_starts 30 = .ok (.iload_n 1, 1) := by decide +kernel
theorem dX12_starts_31 : decode cX12_starts 31 = .ok (.iconst (-1), 1) := by decide +kernel
theorem dX12_starts_32 : decode cX12_starts 32 = .ok (.iastore, 1) := by decide +kernel
theorem dX12_starts_33 : decode cX12_starts 33 = .ok (.aload_n 0, 1) := by decide +kernel
theorem dX12_starts_34 : decode cX12_starts 34 = .ok (.getfield 78, 3) := by decide +kernel
theorem dX12_starts_37 : decode cX12_starts 37 = .ok (.iload_n 1, 1) := by decide +kernel
theorem dX12_starts_38 : decode cX12_starts 38 = .ok (.iconst 0, 1) := by decide +kernel
theorem dX12_starts_39 : decode cX12_starts 39 = .ok (.iastore, 1) := by decide +kernel
theorem dX12_starts_40 : decode cX12_starts 40 = .ok (.aload_n 0, 1) := by decide +kernel
theorem dX12_starts_41 : decode cX12_starts 41 = .ok (.getfield 81, 3) := by decide +kernel
theorem dX12_starts_44 : decode cX12_starts 44 = .ok (.iload_n 1, 1) := by decide +kernel
theorem dX12_starts_45 : decode cX12_starts 45 = .ok (.iconst 0, 1) := by decide +kernel
theorem dX12_starts_46 : decode cX12_starts 46 = .ok (.iastore, 1) := by decide +kernel
theorem dX12_starts_47 : decode cX12_starts 47 = .ok (.aload_n 0, 1) := by decide +kernel
theorem dX12_starts_48 : decode cX12_starts 48 = .ok (.getfield 84, 3) := by decide +kernel
theorem dX12_starts_51 : decode cX12_starts 51 = .ok (.iload_n 1, 1) := by decide +kernel
theorem dX12_starts_52 : decode cX12_starts 52 = .ok (.iconst 0, 1) := by decide +kernel
theorem dX12_starts_53 : decode cX12_starts 53 = .ok (.iastore, 1) := by decide +kernel
theorem dX12_starts_54 : decode cX12_starts 54 = .ok (.aload_n 0, 1) := by decide +kernel
theorem dX12_starts_55 : decode cX12_starts 55 = .ok (.getfield 87, 3) := by decide +kernel
theorem dX12_starts_58 : decode cX12_starts 58 = .ok (.iload_n 1, 1) := by decide +kernel
theorem dX12_starts_59 : decode cX12_starts 59 = .ok (.iconst (-1), 1) := by decide +kernel
theorem dX12_starts_60 : decode cX12_starts 60 = .ok (.iastore, 1) := by decide +kernel
theorem dX12_starts_61 : decode cX12_starts 61 = .ok (.iconst 0, 1) := by decide +kernel
theorem dX12_starts_62 : decode cX12_starts 62 = .ok (.istore_n 2, 1) := by decide +kernel
theorem dX12_starts_63 : decode cX12_starts 63 = .ok (.iload_n 2, 1) := by decide +kernel
theorem dX12_starts_64 : decode cX12_starts 64 = .ok (.bipush 6, 2) := by decide +kernel
theorem dX12_starts_66 : decode cX12_starts 66 = .ok (.if_icmp .ge 33, 3) := by decide +kernel
theorem dX12_starts_69 : decode cX12_starts 69 = .ok (.aload_n 0, 1) := by decide +kernel
theorem dX12_starts_70 : decode cX12_starts 70 = .ok (.getfield 90, 3) := by decide +kernel
theorem dX12_starts_73 : decode cX12_starts 73 = .ok (.bipush 6, 2) := by decide +kernel
theorem dX12_starts_75 : decode cX12_starts 75 = .ok (.iload_n 1, 1) := by decide +kernel
theorem dX12_starts_76 : decode cX12_starts 76 = .ok (.imul, 1) := by decide +kernel
theorem dX12_starts_77 : decode cX12_starts 77 = .ok (.iload_n 2, 1) := by decide +kernel
theorem dX12_starts_78 : decode cX12_starts 78 = .ok (.iadd, 1) := by decide +kernel
theorem dX12_starts_79 : decode cX12_starts 79 = .ok (.iconst 0, 1) := by decide +kernel
theorem dX12_starts_80 : decode cX12_starts 80 = .ok (.iastore, 1) := by decide +kernel
theorem dX12_starts_81 : decode cX12_starts 81 = .ok (.aload_n 0, 1) := by decide +kernel
theorem dX12_starts_82 : decode cX12_starts 82 = .ok (.getfield 93, 3) := by decide +kernel
theorem dX12_starts_85 : decode cX12_starts 85 = .ok (.bipush 6, 2) := by decide +kernel
theorem dX12_starts_87 : decode cX12_starts 87 = .ok (.iload_n 1, 1) := by decide +kernel
theorem dX12_starts_88 : decode cX12_starts 88 = .ok (.imul, 1) := by decide +kernel
theorem dX12_starts_89 : decode cX12_starts 89 = .ok (.iload_n 2, 1) := by decide +kernel
theorem dX12_starts_90 : decode cX12_starts 90 = .ok (.iadd, 1) := by decide +kernel
theorem dX12_starts_91 : decode cX12_starts 91 = .ok (.iconst 0, 1) := by decide +kernel
theorem dX12_starts_92 : decode cX12_starts 92 = .ok (.iastore, 1) := by decide +kernel
theorem dX12_starts_93 : decode cX12_starts 93 = .ok (.iinc 2 1, 3) := by decide +kernel
theorem dX12_starts_96 : decode cX12_starts 96 = .ok (.goto (-33), 3) := by decide +kernel
theorem dX12_starts_99 : decode cX12_starts 99 = .ok (.iconst 0, 1) := by decide +kernel
theorem dX12_starts_100 : decode cX12_starts 100 = .ok (.istore_n 2, 1) := by decide +kernel
theorem dX12_starts_101 : decode cX12_starts 101 = .ok (.iload_n 2, 1) := by decide +kernel
theorem dX12_starts_102 : decode cX12_starts 102 = .ok (.bipush 12, 2) := by decide +kernel
theorem dX12_starts_104 : decode cX12_starts 104 = .ok (.if_icmp .ge 26, 3) := by decide +kernel
theorem dX12_starts_107 : decode cX12_starts 107 = .ok (.aload_n 0, 1) := by decide +kernel
theorem dX12_starts_108 : decode cX12_starts 108 = .ok (.getfield 96, 3) := by decide +kernel
theorem dX12_starts_111 : decode cX12_starts 111 = .ok (.bipush 12, 2) := by decide +kernel
theorem dX12_starts_113 : decode cX12_starts 113 = .ok (.iload_n 1, 1) := by decide +kernel
theorem dX12_starts_114 : decode cX12_starts 114 = .ok (.imul, 1) := by decide +kernel
theorem dX12_starts_115 : decode cX12_starts 115 = .ok (.iload_n 2, 1) := by decide +kernel
theorem dX12_starts_116 : decode cX12_starts 116 = .ok (.iadd, 1) := by decide +kernel
theorem dX12_starts_117 : decode cX12_starts 117 = .ok (.aload_n 0, 1) := by decide +kernel
theorem dX12_starts_118 : decode cX12_starts 118 = .ok (.getfield 25, 3) := by decide +kernel
theorem dX12_starts_121 : decode cX12_starts 121 = .ok (.iload_n 2, 1) := by decide +kernel
theorem dX12_starts_122 : decode cX12_starts 122 = .ok (.iaload, 1) := by decide +kernel
theorem dX12_starts_123 : decode cX12_starts 123 = .ok (.iastore, 1) := by decide +kernel
theorem dX12_starts_124 : decode cX12_starts 124 = .ok (.iinc 2 1, 3) := by decide +kernel
theorem dX12_starts_127 : decode cX12_starts 127 = .ok (.goto (-26), 3) := by decide +kernel
theorem dX12_starts_130 : decode cX12_starts 130 = .ok (.iconst 0, 1) := by decide +kernel
theorem dX12_starts_131 : decode cX12_starts 131 = .ok (.istore_n 2, 1) := by decide +kernel
theorem dX12_starts_132 : decode cX12_starts 132 = .ok (.iload_n 2, 1) := by decide +kernel
theorem dX12_starts_133 : decode cX12_starts 133 = .ok (.iconst 5, 1) := by decide +kernel
theorem dX12_starts_134 : decode cX12_starts 134 = .ok (.if_icmp .ge 20, 3) := by decide +kernel
theorem dX12_starts_137 : decode cX12_starts 137 = .ok (.aload_n 0, 1) := by decide +kernel
theorem dX12_starts_138 : decode cX12_starts 138 = .ok (.getfield 99, 3) := by decide +kernel
theorem dX12_starts_141 : decode cX12_starts 141 = .ok (.iconst 5, 1) := by decide +kernel
theorem dX12_starts_142 : decode cX12_starts 142 = .ok (.iload_n 1, 1) := by decide +kernel
theorem dX12_starts_143 : decode cX12_starts 143 = .ok (.imul, 1) := by decide +kernel
theorem dX12_starts_144 : decode cX12_starts 144 = .ok (.iload_n 2, 1) := by decide +kernel
theorem dX12_starts_145 : decode cX12_starts 145 = .ok (.iadd, 1) := by decide +kernel
theorem dX12_starts_146 : decode cX12_starts 146 = .ok (.iconst 0, 1) := by decide +kernel
theorem dX12_starts_147 : decode cX12_starts 147 = .ok (.iastore, 1) := by decide +kernel
theorem dX12_starts_148 : decode cX12_starts 148 = .ok (.iinc 2 1, 3) := by decide +kernel
theorem dX12_starts_151 : decode cX12_starts 151 = .ok (.goto (-19), 3) := by decide +kernel
theorem dX12_starts_154 : decode cX12_starts 154 = .ok (.return_, 1) := by decide +kernel
theorem dX12_begins_0 : decode cX12_begins 0 = .ok (.aload_n 0, 1) := by decide +kernel
theorem dX12_begins_1 : decode cX12_begins 1 = .ok (.getfield 13, 3) := by decide +kernel
theorem dX12_begins_4 : decode cX12_begins 4 = .ok (.iconst 2, 1) := by decide +kernel
theorem dX12_begins_5 : decode cX12_begins 5 = .ok (.iaload, 1) := by decide +kernel
theorem dX12_begins_6 : decode cX12_begins 6 = .ok (.ifCond .ne 24, 3) := by decide +kernel
theorem dX12_begins_9 : decode cX12_begins 9 = .ok (.iconst 0, 1) := by decide +kernel
theorem dX12_begins_10 : decode cX12_begins 10 = .ok (.istore_n 1, 1) := by decide +kernel
theorem dX12_begins_11 : decode cX12_begins 11 = .ok (.iload_n 1, 1) := by decide +kernel
theorem dX12_begins_12 : decode cX12_begins 12 = .ok (.bipush 100, 2) := by decide +kernel
theorem dX12_begins_14 : decode cX12_begins 14 = .ok (.if_icmp .ge 16, 3) := by decide +kernel
theorem dX12_begins_17 : decode cX12_begins 17 = .ok (.aload_n 0, 1) := by decide +kernel
theorem dX12_begins_18 : decode cX12_begins 18 = .ok (.getfield 28, 3) := by decide +kernel
theorem dX12_begins_21 : decode cX12_begins 21 = .ok (.iload_n 1, 1) := by decide +kernel
theorem dX12_begins_22 : decode cX12_begins 22 = .ok (.iconst (-1), 1) := by decide +kernel
theorem dX12_begins_23 : decode cX12_begins 23 = .ok (.iastore, 1) := by decide +kernel
theorem dX12_begins_24 : decode cX12_begins 24 = .ok (.iinc 1 1, 3) := by decide +kernel
theorem dX12_begins_27 : decode cX12_begins 27 = .ok (.goto (-16), 3) := by decide +kernel
theorem dX12_begins_30 : decode cX12_begins 30 = .ok (.aload_n 0, 1) := by decide +kernel
theorem dX12_begins_31 : decode cX12_begins 31 = .ok (.iconst 0, 1) := by decide +kernel
theorem dX12_begins_32 : decode cX12_begins 32 = .ok (.invokevirtual 334, 3) := by decide +kernel
theorem dX12_begins_35 : decode cX12_begins 35 = .ok (.return_, 1) := by decide +kernel
theorem dX12_copies_0 : decode cX12_copies 0 = .ok (.aload_n 0, 1) := by decide +kernel
theorem dX12_copies_1 : decode cX12_copies 1 = .ok (.getfield 66, 3) := by decide +kernel
theorem dX12_copies_4 : decode cX12_copies 4 = .ok (.iload_n 1, 1) := by decide +kernel
theorem dX12_copies_5 : decode cX12_copies 5 = .ok (.aload_n 0, 1) := by decide +kernel
theorem dX12_copies_6 : decode cX12_copies 6 = .ok (.getfield 66, 3) := by decide +kernel
theorem dX12_copies_9 : decode cX12_copies 9 = .ok (.iload_n 2, 1) := by decide +kernel
theorem dX12_copies_10 : decode cX12_copies 10 = .ok (.iaload, 1) := by decide +kernel
theorem dX12_copies_11 : decode cX12_copies 11 = .ok (.iastore, 1) := by decide +kernel
theorem dX12_copies_12 : decode cX12_copies 12 = .ok (.aload_n 0, 1) := by decide +kernel
theorem dX12_copies_13 : decode cX12_copies 13 = .ok (.getfield 69, 3) := by decide +kernel
theorem dX12_copies_16 : decode cX12_copies 16 = .ok (.iload_n 1, 1) := by decide +kernel
theorem dX12_copies_17 : decode cX12_copies 17 = .ok (.aload_n 0, 1) := by decide +kernel
theorem dX12_copies_18 : decode cX12_copies 18 = .ok (.getfield 69, 3) := by decide +kernel
theorem dX12_copies_21 : decode cX12_copies 21 = .ok (.iload_n 2, 1) := by decide +kernel
theorem dX12_copies_22 : decode cX12_copies 22 = .ok (.iaload, 1) := by decide +kernel
theorem dX12_copies_23 : decode cX12_copies 23 = .ok (.iastore, 1) := by decide +kernel
theorem dX12_copies_24 : decode cX12_copies 24 = .ok (.aload_n 0, 1) := by decide +kernel
theorem dX12_copies_25 : decode cX12_copies 25 = .ok (.getfield 72, 3) := by decide +kernel
theorem dX12_copies_28 : decode cX12_copies 28 = .ok (.iload_n 1, 1) := by decide +kernel
theorem dX12_copies_29 : decode cX12_copies 29 = .ok (.aload_n 0, 1) := by decide +kernel
theorem dX12_copies_30 : decode cX12_copies 30 = .ok (.getfield 72, 3) := by decide +kernel
theorem dX12_copies_33 : decode cX12_copies 33 = .ok (.iload_n 2, 1) := by decide +kernel
theorem dX12_copies_34 : decode cX12_copies 34 = .ok (.iaload, 1) := by decide +kernel
theorem dX12_copies_35 : decode cX12_copies 35 = .ok (.iastore, 1) := by decide +kernel
theorem dX12_copies_36 : decode cX12_copies 36 = .ok (.aload_n 0, 1) := by decide +kernel
theorem dX12_copies_37 : decode cX12_copies 37 = .ok (.getfield 75, 3) := by decide +kernel
theorem dX12_copies_40 : decode cX12_copies 40 = .ok (.iload_n 1, 1) := by decide +kernel
theorem dX12_copies_41 : decode cX12_copies 41 = .ok (.aload_n 0, 1) := by decide +kernel
theorem dX12_copies_42 : decode cX12_copies 42 = .ok (.getfield 75, 3) := by decide +kernel
theorem dX12_copies_45 : decode cX12_copies 45 = .ok (.iload_n 2, 1) := by decide +kernel
theorem dX12_copies_46 : decode cX12_copies 46 = .ok (.iaload, 1) := by decide +kernel
theorem dX12_copies_47 : decode cX12_copies 47 = .ok (.iastore, 1) := by decide +kernel
theorem dX12_copies_48 : decode cX12_copies 48 = .ok (.aload_n 0, 1) := by decide +kernel
theorem dX12_copies_49 : decode cX12_copies 49 = .ok (.getfield 78, 3) := by decide +kernel
theorem dX12_copies_52 : decode cX12_copies 52 = .ok (.iload_n 1, 1) := by decide +kernel
theorem dX12_copies_53 : decode cX12_copies 53 = .ok (.aload_n 0, 1) := by decide +kernel
theorem dX12_copies_54 : decode cX12_copies 54 = .ok (.getfield 78, 3) := by decide +kernel
theorem dX12_copies_57 : decode cX12_copies 57 = .ok (.iload_n 2, 1) := by decide +kernel
theorem dX12_copies_58 : decode cX12_copies 58 = .ok (.iaload, 1) := by decide +kernel
theorem dX12_copies_59 : decode cX12_copies 59 = .ok (.iastore, 1) := by decide +kernel
theorem dX12_copies_60 : decode cX12_copies 60 = .ok (.aload_n 0, 1) := by decide +kernel
theorem dX12_copies_61 : decode cX12_copies 61 = .ok (.getfield 81, 3) := by decide +kernel
theorem dX12_copies_64 : decode cX12_copies 64 = .ok (.iload_n 1, 1) := by decide +kernel
theorem dX12_copies_65 : decode cX12_copies 65 = .ok (.aload_n 0, 1) := by decide +kernel
theorem dX12_copies_66 : decode cX12_copies 66 = .ok (.getfield 81, 3) := by decide +kernel
theorem dX12_copies_69 : decode cX12_copies 69 = .ok (.iload_n 2, 1) := by decide +kernel
theorem dX12_copies_70 : decode cX12_copies 70 = .ok (.iaload, 1) := by decide +kernel
theorem dX12_copies_71 : decode cX12_copies 71 = .ok (.iastore, 1) := by decide +kernel
theorem dX12_copies_72 : decode cX12_copies 72 = .ok (.aload_n 0, 1) := by decide +kernel
theorem dX12_copies_73 : decode cX12_copies 73 = .ok (.getfield 84, 3) := by decide +kernel
theorem dX12_copies_76 : decode cX12_copies 76 = .ok (.iload_n 1, 1) := by decide +kernel
theorem dX12_copies_77 : decode cX12_copies 77 = .ok (.aload_n 0, 1) := by decide +kernel
theorem dX12_copies_78 : decode cX12_copies 78 = .ok (.getfield 84, 3) := by decide +kernel
theorem dX12_copies_81 : decode cX12_copies 81 = .ok (.iload_n 2, 1) := by decide +kernel
theorem dX12_copies_82 : decode cX12_copies 82 = .ok (.iaload, 1) := by decide +kernel
theorem dX12_copies_83 : decode cX12_copies 83 = .ok (.iastore, 1) := by decide +kernel
theorem dX12_copies_84 : decode cX12_copies 84 = .ok (.aload_n 0, 1) := by decide +kernel
theorem dX12_copies_85 : decode cX12_copies 85 = .ok (.getfield 87, 3) := by decide +kernel
theorem dX12_copies_88 : decode cX12_copies 88 = .ok (.iload_n 1, 1) := by decide +kernel
theorem dX12_copies_89 : decode cX12_copies 89 = .ok (.aload_n 0, 1) := by decide +kernel
theorem dX12_copies_90 : decode cX12_copies 90 = .ok (.getfield 87, 3) := by decide +kernel
theorem dX12_copies_93 : decode cX12_copies 93 = .ok (.iload_n 2, 1) := by decide +kernel
theorem dX12_copies_94 : decode cX12_copies 94 = .ok (.iaload, 1) := by decide +kernel
theorem dX12_copies_95 : decode cX12_copies 95 = .ok (.iastore, 1) := by decide +kernel
theorem dX12_copies_96 : decode cX12_copies 96 = .ok (.iconst 0, 1) := by decide +kernel
theorem dX12_copies_97 : decode cX12_copies 97 = .ok (.istore_n 3, 1) := by decide +kernel
theorem dX12_copies_98 : decode cX12_copies 98 = .ok (.iload_n 3, 1) := by decide +kernel
theorem dX12_copies_99 : decode cX12_copies 99 = .ok (.bipush 6, 2) := by decide +kernel
theorem dX12_copies_101 : decode cX12_copies 101 = .ok (.if_icmp .ge 53, 3) := by decide +kernel
theorem dX12_copies_104 : decode cX12_copies 104 = .ok (.aload_n 0, 1) := by decide +kernel
theorem dX12_copies_105 : decode cX12_copies 105 = .ok (.getfield 90, 3) := by decide +kernel
theorem dX12_copies_108 : decode cX12_copies 108 = .ok (.bipush 6, 2) := by decide +kernel
theorem dX12_copies_110 : decode cX12_copies 110 = .ok (.iload_n 1, 1) := by decide +kernel
theorem dX12_copies_111 : decode cX12_copies 111 = .ok (.imul, 1) := by decide +kernel
theorem dX12_copies_112 : decode cX12_copies 112 = .ok (.iload_n 3, 1) := by decide +kernel
theorem dX12_copies_113 : decode cX12_copies 113 = .ok (.iadd, 1) := by decide +kernel
theorem dX12_copies_114 : decode cX12_copies 114 = .ok (.aload_n 0, 1) := by decide +kernel
theorem dX12_copies_115 : decode cX12_copies 115 = .ok (.getfield 90, 3) := by decide +kernel
theorem dX12_copies_118 : decode cX12_copies 118 = .ok (.bipush 6, 2) := by decide +kernel
theorem dX12_copies_120 : decode cX12_copies 120 = .ok (.iload_n 2, 1) := by decide +kernel
theorem dX12_copies_121 : decode cX12_copies 121 = .ok (.imul, 1) := by decide +kernel
theorem dX12_copies_122 : decode cX12_copies 122 = .ok (.iload_n 3, 1) := by decide +kernel
theorem dX12_copies_123 : decode cX12_copies 123 = .ok (.iadd, 1) := by decide +kernel
theorem dX12_copies_124 : decode cX12_copies 124 = .ok (.iaload, 1) := by decide +kernel
theorem dX12_copies_125 : decode cX12_copies 125 = .ok (.iastore, 1) := by decide +kernel
theorem dX12_copies_126 : decode cX12_copies 126 = .ok (.aload_n 0, 1) := by decide +kernel
theorem dX12_copies_127 : decode cX12_copies 127 = .ok (.getfield 93, 3) := by decide +kernel
theorem dX12_copies_130 : decode cX12_copies 130 = .ok (.bipush 6, 2) := by decide +kernel
theorem dX12_copies_132 : decode cX12_copies 132 = .ok (.iload_n 1, 1) := by decide +kernel
theorem dX12_copies_133 : decode cX12_copies 133 = .ok (.imul, 1) := by decide +kernel
theorem dX12_copies_134 : decode cX12_copies 134 = .ok (.iload_n 3, 1) := by decide +kernel
theorem dX12_copies_135 : decode cX12_copies 135 = .ok (.iadd, 1) := by decide +kernel
theorem dX12_copies_136 : decode cX12_copies 136 = .ok (.aload_n 0, 1) := by decide +kernel
theorem dX12_copies_137 : decode cX12_copies 137 = .ok (.getfield 93, 3) := by decide +kernel
theorem dX12_copies_140 : decode cX12_copies 140 = .ok (.bipush 6, 2) := by decide +kernel
theorem dX12_copies_142 : decode cX12_copies 142 = .ok (.iload_n 2, 1) := by decide +kernel
theorem dX12_copies_143 : decode cX12_copies 143 = .ok (.imul, 1) := by decide +kernel
theorem dX12_copies_144 : decode cX12_copies 144 = .ok (.iload_n 3, 1) := by decide +kernel
theorem dX12_copies_145 : decode cX12_copies 145 = .ok (.iadd, 1) := by decide +kernel
theorem dX12_copies_146 : decode cX12_copies 146 = .ok (.iaload, 1) := by decide +kernel
theorem dX12_copies_147 : decode cX12_copies 147 = .ok (.iastore, 1) := by decide +kernel
theorem dX12_copies_148 : decode cX12_copies 148 = .ok (.iinc 3 1, 3) := by decide +kernel
theorem dX12_copies_151 : decode cX12_copies 151 = .ok (.goto (-53), 3) := by decide +kernel
theorem dX12_copies_154 : decode cX12_copies 154 = .ok (.iconst 0, 1) := by decide +kernel
theorem dX12_copies_155 : decode cX12_copies 155 = .ok (.istore_n 3, 1) := by decide +kernel
theorem dX12_copies_156 : decode cX12_copies 156 = .ok (.iload_n 3, 1) := by decide +kernel
theorem dX12_copies_157 : decode cX12_copies 157 = .ok (.bipush 12, 2) := by decide +kernel
theorem dX12_copies_159 : decode cX12_copies 159 = .ok (.if_icmp .ge 31, 3) := by decide +kernel
theorem dX12_copies_162 : decode cX12_copies 162 = .ok (.aload_n 0, 1) := by decide +kernel
theorem dX12_copies_163 : decode cX12_copies 163 = .ok (.getfield 96, 3) := by decide +kernel
theorem dX12_copies_166 : decode cX12_copies 166 = .ok (.bipush 12, 2) := by decide +kernel
theorem dX12_copies_168 : decode cX12_copies 168 = .ok (.iload_n 1, 1) := by decide +kernel
theorem dX12_copies_169 : decode cX12_copies 169 = .ok (.imul, 1) := by decide +kernel
theorem dX12_copies_170 : decode cX12_copies 170 = .ok (.iload_n 3, 1) := by decide +kernel
theorem dX12_copies_171 : decode cX12_copies 171 = .ok (.iadd, 1) := by decide +kernel
theorem dX12_copies_172 : decode cX12_copies 172 = .ok (.aload_n 0, 1) := by decide +kernel
theorem dX12_copies_173 : decode cX12_copies 173 = .ok (.getfield 96, 3) := by decide +kernel
theorem dX12_copies_176 : decode cX12_copies 176 = .ok (.bipush 12, 2) := by decide +kernel
theorem dX12_copies_178 : decode cX12_copies 178 = .ok (.iload_n 2, 1) := by decide +kernel
theorem dX12_copies_179 : decode cX12_copies 179 = .ok (.imul, 1) := by decide +kernel
theorem dX12_copies_180 : decode cX12_copies 180 = .ok (.iload_n 3, 1) := by decide +kernel
theorem dX12_copies_181 : decode cX12_copies 181 = .ok (.iadd, 1) := by decide +kernel
theorem dX12_copies_182 : decode cX12_copies 182 = .ok (.iaload, 1) := by decide +kernel
theorem dX12_copies_183 : decode cX12_copies 183 = .ok (.iastore, 1) := by decide +kernel
theorem dX12_copies_184 : decode cX12_copies 184 = .ok (.iinc 3 1, 3) := by decide +kernel
theorem dX12_copies_187 : decode cX12_copies 187 = .ok (.goto (-31), 3) := by decide +kernel
theorem dX12_copies_190 : decode cX12_copies 190 = .ok (.iconst 0, 1) := by decide +kernel
theorem dX12_copies_191 : decode cX12_copies 191 = .ok (.istore_n 3, 1) := by decide +kernel
theorem dX12_copies_192 : decode cX12_copies 192 = .ok (.iload_n 3, 1) := by decide +kernel
theorem dX12_copies_193 : decode cX12_copies 193 = .ok (.iconst 5, 1) := by decide +kernel
theorem dX12_copies_194 : decode cX12_copies 194 = .ok (.if_icmp .ge 29, 3) := by decide +kernel
theorem dX12_copies_197 : decode cX12_copies 197 = .ok (.aload_n 0, 1) := by decide +kernel
theorem dX12_copies_198 : decode cX12_copies 198 = .ok (.getfield 99, 3) := by decide +kernel
theorem dX12_copies_201 : decode cX12_copies 201 = .ok (.iconst 5, 1) := by decide +kernel
theorem dX12_copies_202 : decode cX12_copies 202 = .ok (.iload_n 1, 1) := by decide +kernel
theorem dX12_copies_203 : decode cX12_copies 203 = .ok (.imul, 1) := by decide +kernel
theorem dX12_copies_204 : decode cX12_copies 204 = .ok (.iload_n 3, 1) := by decide +kernel
theorem dX12_copies_205 : decode cX12_copies 205 = .ok (.iadd, 1) := by decide +kernel
theorem dX12_copies_206 : decode cX12_copies 206 = .ok (.aload_n 0, 1) := by decide +kernel
theorem dX12_copies_207 : decode cX12_copies 207 = .ok (.getfield 99, 3) := by decide +kernel
theorem dX12_copies_210 : decode cX12_copies 210 = .ok (.iconst 5, 1) := by decide +kernel
theorem dX12_copies_211 : decode cX12_copies 211 = .ok (.iload_n 2, 1) := by decide +kernel
theorem dX12_copies_212 : decode cX12_copies 212 = .ok (.imul, 1) := by decide +kernel
theorem dX12_copies_213 : decode cX12_copies 213 = .ok (.iload_n 3, 1) := by decide +kernel
theorem dX12_copies_214 : decode cX12_copies 214 = .ok (.iadd, 1) := by decide +kernel
theorem dX12_copies_215 : decode cX12_copies 215 = .ok (.iaload, 1) := by decide +kernel
theorem dX12_copies_216 : decode cX12_copies 216 = .ok (.iastore, 1) := by decide +kernel
theorem dX12_copies_217 : decode cX12_copies 217 = .ok (.iinc 3 1, 3) := by decide +kernel
theorem dX12_copies_220 : decode cX12_copies 220 = .ok (.goto (-28), 3) := by decide +kernel
theorem dX12_copies_223 : decode cX12_copies 223 = .ok (.return_, 1) := by decide +kernel
theorem dX12_isTrade_0 : decode cX12_isTrade 0 = .ok (.iload_n 1, 1) := by decide +kernel
theorem dX12_isTrade_1 : decode cX12_isTrade 1 = .ok (.ifCond .lt 17, 3) := by decide +kernel
theorem dX12_isTrade_4 : decode cX12_isTrade 4 = .ok (.iload_n 1, 1) := by decide +kernel
theorem dX12_isTrade_5 : decode cX12_isTrade 5 = .ok (.aload_n 0, 1) := by decide +kernel
theorem dX12_isTrade_6 : decode cX12_isTrade 6 = .ok (.getfield 13, 3) := by decide +kernel
theorem dX12_isTrade_9 : decode cX12_isTrade 9 = .ok (.iconst 0, 1) := by decide +kernel
theorem dX12_isTrade_10 : decode cX12_isTrade 10 = .ok (.iaload, 1) := by decide +kernel
theorem dX12_isTrade_11 : decode cX12_isTrade 11 = .ok (.if_icmp .ge 7, 3) := by decide +kernel
theorem dX12_isTrade_14 : decode cX12_isTrade 14 = .ok (.iconst 1, 1) := by decide +kernel
theorem dX12_isTrade_15 : decode cX12_isTrade 15 = .ok (.goto 4, 3) := by decide +kernel
theorem dX12_isTrade_18 : decode cX12_isTrade 18 = .ok (.iconst 0, 1) := by decide +kernel
theorem dX12_isTrade_19 : decode cX12_isTrade 19 = .ok (.ireturn, 1) := by decide +kernel
theorem dX12_isPlace_0 : decode cX12_isPlace 0 = .ok (.iload_n 1, 1) := by decide +kernel
theorem dX12_isPlace_1 : decode cX12_isPlace 1 = .ok (.ifCond .lt 17, 3) := by decide +kernel
theorem dX12_isPlace_4 : decode cX12_isPlace 4 = .ok (.iload_n 1, 1) := by decide +kernel
theorem dX12_isPlace_5 : decode cX12_isPlace 5 = .ok (.aload_n 0, 1) := by decide +kernel
theorem dX12_isPlace_6 : decode cX12_isPlace 6 = .ok (.getfield 13, 3) := by decide +kernel
theorem dX12_isPlace_9 : decode cX12_isPlace 9 = .ok (.iconst 1, 1) := by decide +kernel
theorem dX12_isPlace_10 : decode cX12_isPlace 10 = .ok (.iaload, 1) := by decide +kernel
theorem dX12_isPlace_11 : decode cX12_isPlace 11 = .ok (.if_icmp .ge 7, 3) := by decide +kernel
theorem dX12_isPlace_14 : decode cX12_isPlace 14 = .ok (.iconst 1, 1) := by decide +kernel
theorem dX12_isPlace_15 : decode cX12_isPlace 15 = .ok (.goto 4, 3) := by decide +kernel
theorem dX12_isPlace_18 : decode cX12_isPlace 18 = .ok (.iconst 0, 1) := by decide +kernel
theorem dX12_isPlace_19 : decode cX12_isPlace 19 = .ok (.ireturn, 1) := by decide +kernel
theorem dX12_isWork_0 : decode cX12_isWork 0 = .ok (.iload_n 1, 1) := by decide +kernel
theorem dX12_isWork_1 : decode cX12_isWork 1 = .ok (.ifCond .lt 17, 3) := by decide +kernel
theorem dX12_isWork_4 : decode cX12_isWork 4 = .ok (.iload_n 1, 1) := by decide +kernel
theorem dX12_isWork_5 : decode cX12_isWork 5 = .ok (.aload_n 0, 1) := by decide +kernel
theorem dX12_isWork_6 : decode cX12_isWork 6 = .ok (.getfield 13, 3) := by decide +kernel
theorem dX12_isWork_9 : decode cX12_isWork 9 = .ok (.iconst 3, 1) := by decide +kernel
theorem dX12_isWork_10 : decode cX12_isWork 10 = .ok (.iaload, 1) := by decide +kernel
theorem dX12_isWork_11 : decode cX12_isWork 11 = .ok (.if_icmp .ge 7, 3) := by decide +kernel
theorem dX12_isWork_14 : decode cX12_isWork 14 = .ok (.iconst 1, 1) := by decide +kernel
theorem dX12_isWork_15 : decode cX12_isWork 15 = .ok (.goto 4, 3) := by decide +kernel
theorem dX12_isWork_18 : decode cX12_isWork 18 = .ok (.iconst 0, 1) := by decide +kernel
theorem dX12_isWork_19 : decode cX12_isWork 19 = .ok (.ireturn, 1) := by decide +kernel
theorem dX12_isDone_0 : decode cX12_isDone 0 = .ok (.aload_n 0, 1) := by decide +kernel
theorem dX12_isDone_1 : decode cX12_isDone 1 = .ok (.getfield 99, 3) := by decide +kernel
theorem dX12_isDone_4 : decode cX12_isDone 4 = .ok (.iconst 5, 1) := by decide +kernel
theorem dX12_isDone_5 : decode cX12_isDone 5 = .ok (.iload_n 1, 1) := by decide +kernel
theorem dX12_isDone_6 : decode cX12_isDone 6 = .ok (.imul, 1) := by decide +kernel
theorem dX12_isDone_7 : decode cX12_isDone 7 = .ok (.iload_n 2, 1) := by decide +kernel
theorem dX12_isDone_8 : decode cX12_isDone 8 = .ok (.iadd, 1) := by decide +kernel
theorem dX12_isDone_9 : decode cX12_isDone 9 = .ok (.iaload, 1) := by decide +kernel
theorem dX12_isDone_10 : decode cX12_isDone 10 = .ok (.aload_n 0, 1) := by decide +kernel
theorem dX12_isDone_11 : decode cX12_isDone 11 = .ok (.getfield 40, 3) := by decide +kernel
theorem dX12_isDone_14 : decode cX12_isDone 14 = .ok (.iload_n 2, 1) := by decide +kernel
theorem dX12_isDone_15 : decode cX12_isDone 15 = .ok (.iaload, 1) := by decide +kernel
theorem dX12_isDone_16 : decode cX12_isDone 16 = .ok (.if_icmp .lt 7, 3) := by decide +kernel
theorem dX12_isDone_19 : decode cX12_isDone 19 = .ok (.iconst 1, 1) := by decide +kernel
theorem dX12_isDone_20 : decode cX12_isDone 20 = .ok (.goto 4, 3) := by decide +kernel
theorem dX12_isDone_23 : decode cX12_isDone 23 = .ok (.iconst 0, 1) := by decide +kernel
theorem dX12_isDone_24 : decode cX12_isDone 24 = .ok (.ireturn, 1) := by decide +kernel
theorem dX12_doneMany_0 : decode cX12_doneMany 0 = .ok (.iconst 0, 1) := by decide +kernel
theorem dX12_doneMany_1 : decode cX12_doneMany 1 = .ok (.istore_n 2, 1) := by decide +kernel
theorem dX12_doneMany_2 : decode cX12_doneMany 2 = .ok (.iconst 0, 1) := by decide +kernel
theorem dX12_doneMany_3 : decode cX12_doneMany 3 = .ok (.istore_n 3, 1) := by decide +kernel
theorem dX12_doneMany_4 : decode cX12_doneMany 4 = .ok (.iload_n 3, 1) := by decide +kernel
theorem dX12_doneMany_5 : decode cX12_doneMany 5 = .ok (.aload_n 0, 1) := by decide +kernel
theorem dX12_doneMany_6 : decode cX12_doneMany 6 = .ok (.getfield 13, 3) := by decide +kernel
theorem dX12_doneMany_9 : decode cX12_doneMany 9 = .ok (.iconst 3, 1) := by decide +kernel
theorem dX12_doneMany_10 : decode cX12_doneMany 10 = .ok (.iaload, 1) := by decide +kernel
theorem dX12_doneMany_11 : decode cX12_doneMany 11 = .ok (.if_icmp .ge 26, 3) := by decide +kernel
theorem dX12_doneMany_14 : decode cX12_doneMany 14 = .ok (.iload_n 2, 1) := by decide +kernel
theorem dX12_doneMany_15 : decode cX12_doneMany 15 = .ok (.aload_n 0, 1) := by decide +kernel
theorem dX12_doneMany_16 : decode cX12_doneMany 16 = .ok (.iload_n 1, 1) := by decide +kernel
theorem dX12_doneMany_17 : decode cX12_doneMany 17 = .ok (.iload_n 3, 1) := by decide +kernel
theorem dX12_doneMany_18 : decode cX12_doneMany 18 = .ok (.invokevirtual 337, 3) := by decide +kernel
theorem dX12_doneMany_21 : decode cX12_doneMany 21 = .ok (.ifCond .eq 7, 3) := by decide +kernel
theorem dX12_doneMany_24 : decode cX12_doneMany 24 = .ok (.iconst 1, 1) := by decide +kernel
theorem dX12_doneMany_25 : decode cX12_doneMany 25 = .ok (.goto 4, 3) := by decide +kernel
theorem dX12_doneMany_28 : decode cX12_doneMany 28 = .ok (.iconst 0, 1) := by decide +kernel
theorem dX12_doneMany_29 : decode cX12_doneMany 29 = .ok (.iadd, 1) := by decide +kernel
theorem dX12_doneMany_30 : decode cX12_doneMany 30 = .ok (.istore_n 2, 1) := by decide +kernel
theorem dX12_doneMany_31 : decode cX12_doneMany 31 = .ok (.iinc 3 1, 3) := by decide +kernel
theorem dX12_doneMany_34 : decode cX12_doneMany 34 = .ok (.goto (-30), 3) := by decide +kernel
theorem dX12_doneMany_37 : decode cX12_doneMany 37 = .ok (.iload_n 2, 1) := by decide +kernel
theorem dX12_doneMany_38 : decode cX12_doneMany 38 = .ok (.ireturn, 1) := by decide +kernel
theorem dX12_hourOf_0 : decode cX12_hourOf 0 = .ok (.aload_n 0, 1) := by decide +kernel
theorem dX12_hourOf_1 : decode cX12_hourOf 1 = .ok (.getfield 341, 3) := by decide +kernel
theorem dX12_hourOf_4 : decode cX12_hourOf 4 = .ok (.iconst 4, 1) := by decide +kernel
theorem dX12_hourOf_5 : decode cX12_hourOf 5 = .ok (.if_icmp .ne 7, 3) := by decide +kernel
theorem dX12_hourOf_8 : decode cX12_hourOf 8 = .ok (.iconst 0, 1) := by decide +kernel
theorem dX12_hourOf_9 : decode cX12_hourOf 9 = .ok (.goto 24, 3) := by decide +kernel
theorem dX12_hourOf_12 : decode cX12_hourOf 12 = .ok (.iload_n 1, 1) := by decide +kernel
theorem dX12_hourOf_13 : decode cX12_hourOf 13 = .ok (.aload_n 0, 1) := by decide +kernel
theorem dX12_hourOf_14 : decode cX12_hourOf 14 = .ok (.getfield 105, 3) := by decide +kernel
theorem dX12_hourOf_17 : decode cX12_hourOf 17 = .ok (.if_icmp .ne 10, 3) := by decide +kernel
theorem dX12_hourOf_20 : decode cX12_hourOf 20 = .ok (.aload_n 0, 1) := by decide +kernel
theorem dX12_hourOf_21 : decode cX12_hourOf 21 = .ok (.getfield 344, 3) := by decide +kernel
theorem dX12_hourOf_24 : decode cX12_hourOf 24 = .ok (.goto 9, 3) := by decide +kernel
theorem dX12_hourOf_27 : decode cX12_hourOf 27 = .ok (.aload_n 0, 1) := by decide +kernel
theorem dX12_hourOf_28 : decode cX12_hourOf 28 = .ok (.getfield 19, 3) := by decide +kernel
theorem dX12_hourOf_31 : decode cX12_hourOf 31 = .ok (.iload_n 1, 1) := by decide +kernel
theorem dX12_hourOf_32 : decode cX12_hourOf 32 = .ok (.iaload, 1) := by decide +kernel
theorem dX12_hourOf_33 : decode cX12_hourOf 33 = .ok (.ireturn, 1) := by decide +kernel
theorem dX12_calls_0 : decode cX12_calls 0 = .ok (.aload_n 0, 1) := by decide +kernel
theorem dX12_calls_1 : decode cX12_calls 1 = .ok (.getfield 59, 3) := by decide +kernel
theorem dX12_calls_4 : decode cX12_calls 4 = .ok (.iconst 0, 1) := by decide +kernel
theorem dX12_calls_5 : decode cX12_calls 5 = .ok (.aload_n 0, 1) := by decide +kernel
theorem dX12_calls_6 : decode cX12_calls 6 = .ok (.iload_n 2, 1) := by decide +kernel
theorem dX12_calls_7 : decode cX12_calls 7 = .ok (.invokevirtual 347, 3) := by decide +kernel
theorem dX12_calls_10 : decode cX12_calls 10 = .ok (.i2l, 1) := by decide +kernel
theorem dX12_calls_11 : decode cX12_calls 11 = .ok (.lastore, 1) := by decide +kernel
theorem dX12_calls_12 : decode cX12_calls 12 = .ok (.aload_n 0, 1) := by decide +kernel
theorem dX12_calls_13 : decode cX12_calls 13 = .ok (.getfield 59, 3) := by decide +kernel
theorem dX12_calls_16 : decode cX12_calls 16 = .ok (.iconst 1, 1) := by decide +kernel
theorem dX12_calls_17 : decode cX12_calls 17 = .ok (.aload_n 0, 1) := by decide +kernel
theorem dX12_calls_18 : decode cX12_calls 18 = .ok (.getfield 22, 3) := by decide +kernel
theorem dX12_calls_21 : decode cX12_calls 21 = .ok (.iload_n 2, 1) := by decide +kernel
theorem dX12_calls_22 : decode cX12_calls 22 = .ok (.iaload, 1) := by decide +kernel
theorem dX12_calls_23 : decode cX12_calls 23 = .ok (.i2l, 1) := by decide +kernel
theorem dX12_calls_24 : decode cX12_calls 24 = .ok (.lastore, 1) := by decide +kernel
theorem dX12_calls_25 : decode cX12_calls 25 = .ok (.aload_n 0, 1) := by decide +kernel
theorem dX12_calls_26 : decode cX12_calls 26 = .ok (.getfield 59, 3) := by decide +kernel
theorem dX12_calls_29 : decode cX12_calls 29 = .ok (.iconst 2, 1) := by decide +kernel
theorem dX12_calls_30 : decode cX12_calls 30 = .ok (.aload_n 0, 1) := by decide +kernel
theorem dX12_calls_31 : decode cX12_calls 31 = .ok (.getfield 90, 3) := by decide +kernel
theorem dX12_calls_34 : decode cX12_calls 34 = .ok (.bipush 6, 2) := by decide +kernel
theorem dX12_calls_36 : decode cX12_calls 36 = .ok (.iload_n 1, 1) := by decide +kernel
theorem dX12_calls_37 : decode cX12_calls 37 = .ok (.imul, 1) := by decide +kernel
theorem dX12_calls_38 : decode cX12_calls 38 = .ok (.iload_n 2, 1) := by decide +kernel
theorem dX12_calls_39 : decode cX12_calls 39 = .ok (.iadd, 1) := by decide +kernel
theorem dX12_calls_40 : decode cX12_calls 40 = .ok (.iaload, 1) := by decide +kernel
theorem dX12_calls_41 : decode cX12_calls 41 = .ok (.i2l, 1) := by decide +kernel
theorem dX12_calls_42 : decode cX12_calls 42 = .ok (.lastore, 1) := by decide +kernel
theorem dX12_calls_43 : decode cX12_calls 43 = .ok (.aload_n 0, 1) := by decide +kernel
theorem dX12_calls_44 : decode cX12_calls 44 = .ok (.getfield 59, 3) := by decide +kernel
theorem dX12_calls_47 : decode cX12_calls 47 = .ok (.iconst 3, 1) := by decide +kernel
theorem dX12_calls_48 : decode cX12_calls 48 = .ok (.aload_n 0, 1) := by decide +kernel
theorem dX12_calls_49 : decode cX12_calls 49 = .ok (.getfield 93, 3) := by decide +kernel
theorem dX12_calls_52 : decode cX12_calls 52 = .ok (.bipush 6, 2) := by decide +kernel
theorem dX12_calls_54 : decode cX12_calls 54 = .ok (.iload_n 1, 1) := by decide +kernel
theorem dX12_calls_55 : decode cX12_calls 55 = .ok (.imul, 1) := by decide +kernel
theorem dX12_calls_56 : decode cX12_calls 56 = .ok (.iload_n 2, 1) := by decide +kernel
theorem dX12_calls_57 : decode cX12_calls 57 = .ok (.iadd, 1) := by decide +kernel
theorem dX12_calls_58 : decode cX12_calls 58 = .ok (.iaload, 1) := by decide +kernel
theorem dX12_calls_59 : decode cX12_calls 59 = .ok (.i2l, 1) := by decide +kernel
theorem dX12_calls_60 : decode cX12_calls 60 = .ok (.lastore, 1) := by decide +kernel
theorem dX12_calls_61 : decode cX12_calls 61 = .ok (.aload_n 0, 1) := by decide +kernel
theorem dX12_calls_62 : decode cX12_calls 62 = .ok (.getfield 59, 3) := by decide +kernel
theorem dX12_calls_65 : decode cX12_calls 65 = .ok (.iconst 4, 1) := by decide +kernel
theorem dX12_calls_66 : decode cX12_calls 66 = .ok (.aload_n 0, 1) := by decide +kernel
theorem dX12_calls_67 : decode cX12_calls 67 = .ok (.getfield 13, 3) := by decide +kernel
theorem dX12_calls_70 : decode cX12_calls 70 = .ok (.iconst 3, 1) := by decide +kernel
theorem dX12_calls_71 : decode cX12_calls 71 = .ok (.iaload, 1) := by decide +kernel
theorem dX12_calls_72 : decode cX12_calls 72 = .ok (.aload_n 0, 1) := by decide +kernel
theorem dX12_calls_73 : decode cX12_calls 73 = .ok (.iload_n 1, 1) := by decide +kernel
theorem dX12_calls_74 : decode cX12_calls 74 = .ok (.invokevirtual 350, 3) := by decide +kernel
theorem dX12_calls_77 : decode cX12_calls 77 = .ok (.isub, 1) := by decide +kernel
theorem dX12_calls_78 : decode cX12_calls 78 = .ok (.i2l, 1) := by decide +kernel
theorem dX12_calls_79 : decode cX12_calls 79 = .ok (.lastore, 1) := by decide +kernel
theorem dX12_calls_80 : decode cX12_calls 80 = .ok (.aload_n 0, 1) := by decide +kernel
theorem dX12_calls_81 : decode cX12_calls 81 = .ok (.getfield 59, 3) := by decide +kernel
theorem dX12_calls_84 : decode cX12_calls 84 = .ok (.iconst 5, 1) := by decide +kernel
theorem dX12_calls_85 : decode cX12_calls 85 = .ok (.aload_n 0, 1) := by decide +kernel
theorem dX12_calls_86 : decode cX12_calls 86 = .ok (.getfield 84, 3) := by decide +kernel
theorem dX12_calls_89 : decode cX12_calls 89 = .ok (.iload_n 1, 1) := by decide +kernel
theorem dX12_calls_90 : decode cX12_calls 90 = .ok (.iaload, 1) := by decide +kernel
theorem dX12_calls_91 : decode cX12_calls 91 = .ok (.i2l, 1) := by decide +kernel
theorem dX12_calls_92 : decode cX12_calls 92 = .ok (.lastore, 1) := by decide +kernel
theorem dX12_calls_93 : decode cX12_calls 93 = .ok (.aload_n 0, 1) := by decide +kernel
theorem dX12_calls_94 : decode cX12_calls 94 = .ok (.getfield 59, 3) := by decide +kernel
theorem dX12_calls_97 : decode cX12_calls 97 = .ok (.bipush 6, 2) := by decide +kernel
theorem dX12_calls_99 : decode cX12_calls 99 = .ok (.aload_n 0, 1) := by decide +kernel
theorem dX12_calls_100 : decode cX12_calls 100 = .ok (.getfield 66, 3) := by decide +kernel
theorem dX12_calls_103 : decode cX12_calls 103 = .ok (.iload_n 1, 1) := by decide +kernel
theorem dX12_calls_104 : decode cX12_calls 104 = .ok (.iaload, 1) := by decide +kernel
theorem dX12_calls_105 : decode cX12_calls 105 = .ok (.i2l, 1) := by decide +kernel
theorem dX12_calls_106 : decode cX12_calls 106 = .ok (.lastore, 1) := by decide +kernel
theorem dX12_calls_107 : decode cX12_calls 107 = .ok (.return_, 1) := by decide +kernel
theorem dX12_within_0 : decode cX12_within 0 = .ok (.aload_n 0, 1) := by decide +kernel
theorem dX12_within_1 : decode cX12_within 1 = .ok (.iload_n 1, 1) := by decide +kernel
theorem dX12_within_2 : decode cX12_within 2 = .ok (.invokevirtual 353, 3) := by decide +kernel
theorem dX12_within_5 : decode cX12_within 5 = .ok (.ifCond .eq 11, 3) := by decide +kernel
theorem dX12_within_8 : decode cX12_within 8 = .ok (.aload_n 0, 1) := by decide +kernel
theorem dX12_within_9 : decode cX12_within 9 = .ok (.iload_n 1, 1) := by decide +kernel
theorem dX12_within_10 : decode cX12_within 10 = .ok (.invokevirtual 356, 3) := by decide +kernel
theorem dX12_within_13 : decode cX12_within 13 = .ok (.ifCond .ne 6, 3) := by decide +kernel
theorem dX12_within_16 : decode cX12_within 16 = .ok (.iload 4, 2) := by decide +kernel
theorem dX12_within_18 : decode cX12_within 18 = .ok (.ireturn, 1) := by decide +kernel
theorem dX12_within_19 : decode cX12_within 19 = .ok (.iload_n 2, 1) := by decide +kernel
theorem dX12_within_20 : decode cX12_within 20 = .ok (.i2l, 1) := by decide +kernel
theorem dX12_within_21 : decode cX12_within 21 = .ok (.iload_n 3, 1) := by decide +kernel
theorem dX12_within_22 : decode cX12_within 22 = .ok (.i2l, 1) := by decide +kernel
theorem dX12_within_23 : decode cX12_within 23 = .ok (.aload_n 0, 1) := by decide +kernel
theorem dX12_within_24 : decode cX12_within 24 = .ok (.getfield 63, 3) := by decide +kernel
theorem dX12_within_27 : decode cX12_within 27 = .ok (.iconst 0, 1) := by decide +kernel
theorem dX12_within_28 : decode cX12_within 28 = .ok (.laload, 1) := by decide +kernel
theorem dX12_within_29 : decode cX12_within 29 = .ok (.invokestatic 359, 3) := by decide +kernel
theorem dX12_within_32 : decode cX12_within 32 = .ok (.invokestatic 363, 3) := by decide +kernel
theorem dX12_within_35 : decode cX12_within 35 = .ok (.l2i, 1) := by decide +kernel
theorem dX12_within_36 : decode cX12_within 36 = .ok (.ireturn, 1) := by decide +kernel
theorem dX12_lengthOf_0 : decode cX12_lengthOf 0 = .ok (.aload_n 0, 1) := by decide +kernel
theorem dX12_lengthOf_1 : decode cX12_lengthOf 1 = .ok (.iload_n 1, 1) := by decide +kernel
theorem dX12_lengthOf_2 : decode cX12_lengthOf 2 = .ok (.iload_n 2, 1) := by decide +kernel
theorem dX12_lengthOf_3 : decode cX12_lengthOf 3 = .ok (.invokevirtual 366, 3) := by decide +kernel
theorem dX12_lengthOf_6 : decode cX12_lengthOf 6 = .ok (.aload_n 0, 1) := by decide +kernel
theorem dX12_lengthOf_7 : decode cX12_lengthOf 7 = .ok (.iconst 0, 1) := by decide +kernel
theorem dX12_lengthOf_8 : decode cX12_lengthOf 8 = .ok (.iconst 0, 1) := by decide +kernel
theorem dX12_lengthOf_9 : decode cX12_lengthOf 9 = .ok (.bipush 24, 2) := by decide +kernel
theorem dX12_lengthOf_11 : decode cX12_lengthOf 11 = .ok (.bipush 24, 2) := by decide +kernel
theorem dX12_lengthOf_13 : decode cX12_lengthOf 13 = .ok (.aload_n 0, 1) := by decide +kernel
theorem dX12_lengthOf_14 : decode cX12_lengthOf 14 = .ok (.iload_n 2, 1) := by decide +kernel
theorem dX12_lengthOf_15 : decode cX12_lengthOf 15 = .ok (.invokevirtual 347, 3) := by decide +kernel
theorem dX12_lengthOf_18 : decode cX12_lengthOf 18 = .ok (.isub, 1) := by decide +kernel
theorem dX12_lengthOf_19 : decode cX12_lengthOf 19 = .ok (.invokevirtual 369, 3) := by decide +kernel
theorem dX12_lengthOf_22 : decode cX12_lengthOf 22 = .ok (.ireturn, 1) := by decide +kernel
theorem dX12_wills_0 : decode cX12_wills 0 = .ok (.aload_n 0, 1) := by decide +kernel
theorem dX12_wills_1 : decode cX12_wills 1 = .ok (.getfield 341, 3) := by decide +kernel
theorem dX12_wills_4 : decode cX12_wills 4 = .ok (.iconst 2, 1) := by decide +kernel
theorem dX12_wills_5 : decode cX12_wills 5 = .ok (.if_icmp .ne 13, 3) := by decide +kernel
theorem dX12_wills_8 : decode cX12_wills 8 = .ok (.iload_n 2, 1) := by decide +kernel
theorem dX12_wills_9 : decode cX12_wills 9 = .ok (.aload_n 0, 1) := by decide +kernel
theorem dX12_wills_10 : decode cX12_wills 10 = .ok (.getfield 102, 3) := by decide +kernel
theorem dX12_wills_13 : decode cX12_wills 13 = .ok (.if_icmp .ne 5, 3) := by decide +kernel
theorem dX12_wills_16 : decode cX12_wills 16 = .ok (.iconst 0, 1) := by decide +kernel
theorem dX12_wills_17 : decode cX12_wills 17 = .ok (.ireturn, 1) := by decide +kernel
theorem dX12_wills_18 : decode cX12_wills 18 = .ok (.aload_n 0, 1) := by decide +kernel
theorem dX12_wills_19 : decode cX12_wills 19 = .ok (.iload_n 1, 1) := by decide +kernel
theorem dX12_wills_20 : decode cX12_wills 20 = .ok (.iload_n 2, 1) := by decide +kernel
theorem dX12_wills_21 : decode cX12_wills 21 = .ok (.invokevirtual 366, 3) := by decide +kernel
theorem dX12_wills_24 : decode cX12_wills 24 = .ok (.aload_n 0, 1) := by decide +kernel
theorem dX12_wills_25 : decode cX12_wills 25 = .ok (.iconst 2, 1) := by decide +kernel
theorem dX12_wills_26 : decode cX12_wills 26 = .ok (.invokevirtual 353, 3) := by decide +kernel
theorem dX12_wills_29 : decode cX12_wills 29 = .ok (.ifCond .eq 22, 3) := by decide +kernel
theorem dX12_wills_32 : decode cX12_wills 32 = .ok (.aload_n 0, 1) := by decide +kernel
theorem dX12_wills_33 : decode cX12_wills 33 = .ok (.iconst 2, 1) := by decide +kernel
theorem dX12_wills_34 : decode cX12_wills 34 = .ok (.invokevirtual 356, 3) := by decide +kernel
theorem dX12_wills_37 : decode cX12_wills 37 = .ok (.ifCond .eq 14, 3) := by decide +kernel
theorem dX12_wills_40 : decode cX12_wills 40 = .ok (.aload_n 0, 1) := by decide +kernel
theorem dX12_wills_41 : decode cX12_wills 41 = .ok (.getfield 63, 3) := by decide +kernel
theorem dX12_wills_44 : decode cX12_wills 44 = .ok (.iconst 0, 1) := by decide +kernel
theorem dX12_wills_45 : decode cX12_wills 45 = .ok (.laload, 1) := by decide +kernel
theorem dX12_wills_46 : decode cX12_wills 46 = .ok (.lconst 0, 1) := by decide +kernel
theorem dX12_wills_47 : decode cX12_wills 47 = .ok (.lcmp, 1) := by decide +kernel
theorem dX12_wills_48 : decode cX12_wills 48 = .ok (.ifCond .eq 7, 3) := by decide +kernel
theorem dX12_wills_51 : decode cX12_wills 51 = .ok (.iconst 1, 1) := by decide +kernel
theorem dX12_wills_52 : decode cX12_wills 52 = .ok (.goto 4, 3) := by decide +kernel
theorem dX12_wills_55 : decode cX12_wills 55 = .ok (.iconst 0, 1) := by decide +kernel
theorem dX12_wills_56 : decode cX12_wills 56 = .ok (.ireturn, 1) := by decide +kernel
theorem dX12_isMistake_0 : decode cX12_isMistake 0 = .ok (.aload_n 0, 1) := by decide +kernel
theorem dX12_isMistake_1 : decode cX12_isMistake 1 = .ok (.getfield 341, 3) := by decide +kernel
theorem dX12_isMistake_4 : decode cX12_isMistake 4 = .ok (.iconst 5, 1) := by decide +kernel
theorem dX12_isMistake_5 : decode cX12_isMistake 5 = .ok (.if_icmp .eq 11, 3) := by decide +kernel
theorem dX12_isMistake_8 : decode cX12_isMistake 8 = .ok (.aload_n 0, 1) := by decide +kernel
theorem dX12_isMistake_9 : decode cX12_isMistake 9 = .ok (.getfield 341, 3) := by decide +kernel
theorem dX12_isMistake_12 : decode cX12_isMistake 12 = .ok (.iconst 1, 1) := by decide +kernel
theorem dX12_isMistake_13 : decode cX12_isMistake 13 = .ok (.if_icmp .ne 17, 3) := by decide +kernel
theorem dX12_isMistake_16 : decode cX12_isMistake 16 = .ok (.aload_n 0, 1) := by decide +kernel
theorem dX12_isMistake_17 : decode cX12_isMistake 17 = .ok (.getfield 341, 3) := by decide +kernel
theorem dX12_isMistake_20 : decode cX12_isMistake 20 = .ok (.iconst 1, 1) := by decide +kernel
theorem dX12_isMistake_21 : decode cX12_isMistake 21 = .ok (.if_icmp .ne 7, 3) := by decide +kernel
theorem dX12_isMistake_24 : decode cX12_isMistake 24 = .ok (.iconst 1, 1) := by decide +kernel
theorem dX12_isMistake_25 : decode cX12_isMistake 25 = .ok (.goto 4, 3) := by decide +kernel
theorem dX12_isMistake_28 : decode cX12_isMistake 28 = .ok (.iconst 0, 1) := by decide +kernel
theorem dX12_isMistake_29 : decode cX12_isMistake 29 = .ok (.ireturn, 1) := by decide +kernel
theorem dX12_isMistake_30 : decode cX12_isMistake 30 = .ok (.aload_n 0, 1) := by decide +kernel
theorem dX12_isMistake_31 : decode cX12_isMistake 31 = .ok (.getfield 13, 3) := by decide +kernel
theorem dX12_isMistake_34 : decode cX12_isMistake 34 = .ok (.iconst 4, 1) := by decide +kernel
theorem dX12_isMistake_35 : decode cX12_isMistake 35 = .ok (.iaload, 1) := by decide +kernel
theorem dX12_isMistake_36 : decode cX12_isMistake 36 = .ok (.istore_n 3, 1) := by decide +kernel
theorem dX12_isMistake_37 : decode cX12_isMistake 37 = .ok (.iload_n 2, 1) := by decide +kernel
theorem dX12_isMistake_38 : decode cX12_isMistake 38 = .ok (.ifCond .eq 13, 3) := by decide +kernel
theorem dX12_isMistake_41 : decode cX12_isMistake 41 = .ok (.iload_n 3, 1) := by decide +kernel
theorem dX12_isMistake_42 : decode cX12_isMistake 42 = .ok (.ifCond .eq 9, 3) := by decide +kernel
theorem dX12_isMistake_45 : decode cX12_isMistake 45 = .ok (.iload_n 3, 1) := by decide +kernel
theorem dX12_isMistake_46 : decode cX12_isMistake 46 = .ok (.bipush 100, 2) := by decide +kernel
theorem dX12_isMistake_48 : decode cX12_isMistake 48 = .ok (.if_icmp .ne 15, 3) := by decide +kernel
theorem dX12_isMistake_51 : decode cX12_isMistake 51 = .ok (.iload_n 3, 1) := by decide +kernel
theorem dX12_isMistake_52 : decode cX12_isMistake 52 = .ok (.bipush 50, 2) := by decide +kernel
theorem dX12_isMistake_54 : decode cX12_isMistake 54 = .ok (.if_icmp .lt 7, 3) := by decide +kernel
theorem dX12_isMistake_57 : decode cX12_isMistake 57 = .ok (.iconst 1, 1) := by decide +kernel
theorem dX12_isMistake_58 : decode cX12_isMistake 58 = .ok (.goto 4, 3) := by decide +kernel
theorem dX12_isMistake_61 : decode cX12_isMistake 61 = .ok (.iconst 0, 1) := by decide +kernel
theorem dX12_isMistake_62 : decode cX12_isMistake 62 = .ok (.ireturn, 1) := by decide +kernel
theorem dX12_isMistake_63 : decode cX12_isMistake 63 = .ok (.aload_n 0, 1) := by decide +kernel
theorem dX12_isMistake_64 : decode cX12_isMistake 64 = .ok (.getfield 69, 3) := by decide +kernel
theorem dX12_isMistake_67 : decode cX12_isMistake 67 = .ok (.iload_n 1, 1) := by decide +kernel
theorem dX12_isMistake_68 : decode cX12_isMistake 68 = .ok (.aload_n 0, 1) := by decide +kernel
theorem dX12_isMistake_69 : decode cX12_isMistake 69 = .ok (.getfield 69, 3) := by decide +kernel
theorem dX12_isMistake_72 : decode cX12_isMistake 72 = .ok (.iload_n 1, 1) := by decide +kernel
theorem dX12_isMistake_73 : decode cX12_isMistake 73 = .ok (.iaload, 1) := by decide +kernel
theorem dX12_isMistake_74 : decode cX12_isMistake 74 = .ok (.ldc_w 373, 3) := by decide +kernel
theorem dX12_isMistake_77 : decode cX12_isMistake 77 = .ok (.imul, 1) := by decide +kernel
theorem dX12_isMistake_78 : decode cX12_isMistake 78 = .ok (.sipush 12345, 3) := by decide +kernel
theorem dX12_isMistake_81 : decode cX12_isMistake 81 = .ok (.iadd, 1) := by decide +kernel
theorem dX12_isMistake_82 : decode cX12_isMistake 82 = .ok (.ldc_w 376, 3) := by decide +kernel
theorem dX12_isMistake_85 : decode cX12_isMistake 85 = .ok (.iand, 1) := by decide +kernel
theorem dX12_isMistake_86 : decode cX12_isMistake 86 = .ok (.iastore, 1) := by decide +kernel
theorem dX12_isMistake_87 : decode cX12_isMistake 87 = .ok (.aload_n 0, 1) := by decide +kernel
theorem dX12_isMistake_88 : decode cX12_isMistake 88 = .ok (.getfield 69, 3) := by decide +kernel
theorem dX12_isMistake_91 : decode cX12_isMistake 91 = .ok (.iload_n 1, 1) := by decide +kernel
theorem dX12_isMistake_92 : decode cX12_isMistake 92 = .ok (.iaload, 1) := by decide +kernel
theorem dX12_isMistake_93 : decode cX12_isMistake 93 = .ok (.bipush 16, 2) := by decide +kernel
theorem dX12_isMistake_95 : decode cX12_isMistake 95 = .ok (.ishr, 1) := by decide +kernel
theorem dX12_isMistake_96 : decode cX12_isMistake 96 = .ok (.bipush 100, 2) := by decide +kernel
theorem dX12_isMistake_98 : decode cX12_isMistake 98 = .ok (.irem, 1) := by decide +kernel
theorem dX12_isMistake_99 : decode cX12_isMistake 99 = .ok (.iload_n 3, 1) := by decide +kernel
theorem dX12_isMistake_100 : decode cX12_isMistake 100 = .ok (.if_icmp .ge 7, 3) := by decide +kernel
theorem dX12_isMistake_103 : decode cX12_isMistake 103 = .ok (.iconst 1, 1) := by decide +kernel
theorem dX12_isMistake_104 : decode cX12_isMistake 104 = .ok (.goto 4, 3) := by decide +kernel
theorem dX12_isMistake_107 : decode cX12_isMistake 107 = .ok (.iconst 0, 1) := by decide +kernel
theorem dX12_isMistake_108 : decode cX12_isMistake 108 = .ok (.ireturn, 1) := by decide +kernel
theorem dX12_byTurn_0 : decode cX12_byTurn 0 = .ok (.aload_n 0, 1) := by decide +kernel
theorem dX12_byTurn_1 : decode cX12_byTurn 1 = .ok (.getfield 13, 3) := by decide +kernel
theorem dX12_byTurn_4 : decode cX12_byTurn 4 = .ok (.iconst 1, 1) := by decide +kernel
theorem dX12_byTurn_5 : decode cX12_byTurn 5 = .ok (.iaload, 1) := by decide +kernel
theorem dX12_byTurn_6 : decode cX12_byTurn 6 = .ok (.istore_n 3, 1) := by decide +kernel
theorem dX12_byTurn_7 : decode cX12_byTurn 7 = .ok (.iload_n 3, 1) := by decide +kernel
theorem dX12_byTurn_8 : decode cX12_byTurn 8 = .ok (.ifCond .ne 5, 3) := by decide +kernel
theorem dX12_byTurn_11 : decode cX12_byTurn 11 = .ok (.iconst (-1), 1) := by decide +kernel
theorem dX12_byTurn_12 : decode cX12_byTurn 12 = .ok (.ireturn, 1) := by decide +kernel
theorem dX12_byTurn_13 : decode cX12_byTurn 13 = .ok (.aload_n 0, 1) := by decide +kernel
theorem dX12_byTurn_14 : decode cX12_byTurn 14 = .ok (.iload_n 1, 1) := by decide +kernel
theorem dX12_byTurn_15 : decode cX12_byTurn 15 = .ok (.iload_n 2, 1) := by decide +kernel
theorem dX12_byTurn_16 : decode cX12_byTurn 16 = .ok (.invokevirtual 377, 3) := by decide +kernel
theorem dX12_byTurn_19 : decode cX12_byTurn 19 = .ok (.ifCond .eq 29, 3) := by decide +kernel
theorem dX12_byTurn_22 : decode cX12_byTurn 22 = .ok (.aload_n 0, 1) := by decide +kernel
theorem dX12_byTurn_23 : decode cX12_byTurn 23 = .ok (.getfield 78, 3) := by decide +kernel
theorem dX12_byTurn_26 : decode cX12_byTurn 26 = .ok (.iload_n 1, 1) := by decide +kernel
theorem dX12_byTurn_27 : decode cX12_byTurn 27 = .ok (.dup2, 1) := by decide +kernel
theorem dX12_byTurn_28 : decode cX12_byTurn 28 = .ok (.iaload, 1) := by decide +kernel
theorem dX12_byTurn_29 : decode cX12_byTurn 29 = .ok (.iconst 1, 1) := by decide +kernel
theorem dX12_byTurn_30 : decode cX12_byTurn 30 = .ok (.iadd, 1) := by decide +kernel
theorem dX12_byTurn_31 : decode cX12_byTurn 31 = .ok (.iastore, 1) := by decide +kernel
theorem dX12_byTurn_32 : decode cX12_byTurn 32 = .ok (.aload_n 0, 1) := by decide +kernel
theorem dX12_byTurn_33 : decode cX12_byTurn 33 = .ok (.getfield 72, 3) := by decide +kernel
theorem dX12_byTurn_36 : decode cX12_byTurn 36 = .ok (.iload_n 1, 1) := by decide +kernel
theorem dX12_byTurn_37 : decode cX12_byTurn 37 = .ok (.aload_n 0, 1) := by decide +kernel
theorem dX12_byTurn_38 : decode cX12_byTurn 38 = .ok (.getfield 72, 3) := by decide +kernel
theorem dX12_byTurn_41 : decode cX12_byTurn 41 = .ok (.iload_n 1, 1) := by decide +kernel
theorem dX12_byTurn_42 : decode cX12_byTurn 42 = .ok (.iaload, 1) := by decide +kernel
theorem dX12_byTurn_43 : decode cX12_byTurn 43 = .ok (.iconst 1, 1) := by decide +kernel
theorem dX12_byTurn_44 : decode cX12_byTurn 44 = .ok (.iadd, 1) := by decide +kernel
theorem dX12_byTurn_45 : decode cX12_byTurn 45 = .ok (.iload_n 3, 1) := by decide +kernel
theorem dX12_byTurn_46 : decode cX12_byTurn 46 = .ok (.irem, 1) := by decide +kernel
theorem dX12_byTurn_47 : decode cX12_byTurn 47 = .ok (.iastore, 1) := by decide +kernel
theorem dX12_byTurn_48 : decode cX12_byTurn 48 = .ok (.iconst 0, 1) := by decide +kernel
theorem dX12_byTurn_49 : decode cX12_byTurn 49 = .ok (.istore 4, 2) := by decide +kernel
theorem dX12_byTurn_51 : decode cX12_byTurn 51 = .ok (.iload 4, 2) := by decide +kernel
theorem dX12_byTurn_53 : decode cX12_byTurn 53 = .ok (.iload_n 3, 1) := by decide +kernel
theorem dX12_byTurn_54 : decode cX12_byTurn 54 = .ok (.if_icmp .ge 70, 3) := by decide +kernel
theorem dX12_byTurn_57 : decode cX12_byTurn 57 = .ok (.aload_n 0, 1) := by decide +kernel
theorem dX12_byTurn_58 : decode cX12_byTurn 58 = .ok (.getfield 72, 3) := by decide +kernel
theorem dX12_byTurn_61 : decode cX12_byTurn 61 = .ok (.iload_n 1, 1) := by decide +kernel
theorem dX12_byTurn_62 : decode cX12_byTurn 62 = .ok (.iaload, 1) := by decide +kernel
theorem dX12_byTurn_63 : decode cX12_byTurn 63 = .ok (.iload 4, 2) := by decide +kernel
theorem dX12_byTurn_65 : decode cX12_byTurn 65 = .ok (.iadd, 1) := by decide +kernel
theorem dX12_byTurn_66 : decode cX12_byTurn 66 = .ok (.iload_n 3, 1) := by decide +kernel
theorem dX12_byTurn_67 : decode cX12_byTurn 67 = .ok (.irem, 1) := by decide +kernel
theorem dX12_byTurn_68 : decode cX12_byTurn 68 = .ok (.istore 5, 2) := by decide +kernel
theorem dX12_byTurn_70 : decode cX12_byTurn 70 = .ok (.aload_n 0, 1) := by decide +kernel
theorem dX12_byTurn_71 : decode cX12_byTurn 71 = .ok (.iload_n 1, 1) := by decide +kernel
theorem dX12_byTurn_72 : decode cX12_byTurn 72 = .ok (.aload_n 0, 1) := by decide +kernel
theorem dX12_byTurn_73 : decode cX12_byTurn 73 = .ok (.getfield 96, 3) := by decide +kernel
theorem dX12_byTurn_76 : decode cX12_byTurn 76 = .ok (.bipush 12, 2) := by decide +kernel
theorem dX12_byTurn_78 : decode cX12_byTurn 78 = .ok (.iload_n 1, 1) := by decide +kernel
theorem dX12_byTurn_79 : decode cX12_byTurn 79 = .ok (.imul, 1) := by decide +kernel
theorem dX12_byTurn_80 : decode cX12_byTurn 80 = .ok (.iload 5, 2) := by decide +kernel
theorem dX12_byTurn_82 : decode cX12_byTurn 82 = .ok (.iadd, 1) := by decide +kernel
theorem dX12_byTurn_83 : decode cX12_byTurn 83 = .ok (.iaload, 1) := by decide +kernel
theorem dX12_byTurn_84 : decode cX12_byTurn 84 = .ok (.invokevirtual 381, 3) := by decide +kernel
theorem dX12_byTurn_87 : decode cX12_byTurn 87 = .ok (.ifCond .ne 6, 3) := by decide +kernel
theorem dX12_byTurn_90 : decode cX12_byTurn 90 = .ok (.goto 28, 3) := by decide +kernel
theorem dX12_byTurn_93 : decode cX12_byTurn 93 = .ok (.aload_n 0, 1) := by decide +kernel
theorem dX12_byTurn_94 : decode cX12_byTurn 94 = .ok (.getfield 72, 3) := by decide +kernel
theorem dX12_byTurn_97 : decode cX12_byTurn 97 = .ok (.iload_n 1, 1) := by decide +kernel
theorem dX12_byTurn_98 : decode cX12_byTurn 98 = .ok (.iload 5, 2) := by decide +kernel
theorem dX12_byTurn_100 : decode cX12_byTurn 100 = .ok (.iconst 1, 1) := by decide +kernel
theorem dX12_byTurn_101 : decode cX12_byTurn 101 = .ok (.iadd, 1) := by decide +kernel
theorem dX12_byTurn_102 : decode cX12_byTurn 102 = .ok (.iload_n 3, 1) := by decide +kernel
theorem dX12_byTurn_103 : decode cX12_byTurn 103 = .ok (.irem, 1) := by decide +kernel
theorem dX12_byTurn_104 : decode cX12_byTurn 104 = .ok (.iastore, 1) := by decide +kernel
theorem dX12_byTurn_105 : decode cX12_byTurn 105 = .ok (.aload_n 0, 1) := by decide +kernel
theorem dX12_byTurn_106 : decode cX12_byTurn 106 = .ok (.getfield 96, 3) := by decide +kernel
theorem dX12_byTurn_109 : decode cX12_byTurn 109 = .ok (.bipush 12, 2) := by decide +kernel
theorem dX12_byTurn_111 : decode cX12_byTurn 111 = .ok (.iload_n 1, 1) := by decide +kernel
theorem dX12_byTurn_112 : decode cX12_byTurn 112 = .ok (.imul, 1) := by decide +kernel
theorem dX12_byTurn_113 : decode cX12_byTurn 113 = .ok (.iload 5, 2) := by decide +kernel
theorem dX12_byTurn_115 : decode cX12_byTurn 115 = .ok (.iadd, 1) := by decide +kernel
theorem dX12_byTurn_116 : decode cX12_byTurn 116 = .ok (.iaload, 1) := by decide +kernel
theorem dX12_byTurn_117 : decode cX12_byTurn 117 = .ok (.ireturn, 1) := by decide +kernel
theorem dX12_byTurn_118 : decode cX12_byTurn 118 = .ok (.iinc 4 1, 3) := by decide +kernel
theorem dX12_byTurn_121 : decode cX12_byTurn 121 = .ok (.goto (-70), 3) := by decide +kernel
theorem dX12_byTurn_124 : decode cX12_byTurn 124 = .ok (.iconst (-1), 1) := by decide +kernel
theorem dX12_byTurn_125 : decode cX12_byTurn 125 = .ok (.ireturn, 1) := by decide +kernel
theorem dX12_whoOpens_0 : decode cX12_whoOpens 0 = .ok (.aload_n 0, 1) := by decide +kernel
theorem dX12_whoOpens_1 : decode cX12_whoOpens 1 = .ok (.getfield 75, 3) := by decide +kernel
theorem dX12_whoOpens_4 : decode cX12_whoOpens 4 = .ok (.iload_n 1, 1) := by decide +kernel
theorem dX12_whoOpens_5 : decode cX12_whoOpens 5 = .ok (.iaload, 1) := by decide +kernel
theorem dX12_whoOpens_6 : decode cX12_whoOpens 6 = .ok (.iconst (-1), 1) := by decide +kernel
theorem dX12_whoOpens_7 : decode cX12_whoOpens 7 = .ok (.if_icmp .eq 10, 3) := by decide +kernel
theorem dX12_whoOpens_10 : decode cX12_whoOpens 10 = .ok (.aload_n 0, 1) := by decide +kernel
theorem dX12_whoOpens_11 : decode cX12_whoOpens 11 = .ok (.getfield 75, 3) := by decide +kernel
theorem dX12_whoOpens_14 : decode cX12_whoOpens 14 = .ok (.iload_n 1, 1) := by decide +kernel
theorem dX12_whoOpens_15 : decode cX12_whoOpens 15 = .ok (.iaload, 1) := by decide +kernel
theorem dX12_whoOpens_16 : decode cX12_whoOpens 16 = .ok (.ireturn, 1) := by decide +kernel
theorem dX12_whoOpens_17 : decode cX12_whoOpens 17 = .ok (.aload_n 0, 1) := by decide +kernel
theorem dX12_whoOpens_18 : decode cX12_whoOpens 18 = .ok (.getfield 66, 3) := by decide +kernel
theorem dX12_whoOpens_21 : decode cX12_whoOpens 21 = .ok (.iload_n 1, 1) := by decide +kernel
theorem dX12_whoOpens_22 : decode cX12_whoOpens 22 = .ok (.iaload, 1) := by decide +kernel
theorem dX12_whoOpens_23 : decode cX12_whoOpens 23 = .ok (.bipush 100, 2) := by decide +kernel
theorem dX12_whoOpens_25 : decode cX12_whoOpens 25 = .ok (.if_icmp .ge 38, 3) := by decide +kernel
theorem dX12_whoOpens_28 : decode cX12_whoOpens 28 = .ok (.aload_n 0, 1) := by decide +kernel
theorem dX12_whoOpens_29 : decode cX12_whoOpens 29 = .ok (.getfield 28, 3) := by decide +kernel
theorem dX12_whoOpens_32 : decode cX12_whoOpens 32 = .ok (.aload_n 0, 1) := by decide +kernel
theorem dX12_whoOpens_33 : decode cX12_whoOpens 33 = .ok (.getfield 66, 3) := by decide +kernel
theorem dX12_whoOpens_36 : decode cX12_whoOpens 36 = .ok (.iload_n 1, 1) := by decide +kernel
theorem dX12_whoOpens_37 : decode cX12_whoOpens 37 = .ok (.iaload, 1) := by decide +kernel
theorem dX12_whoOpens_38 : decode cX12_whoOpens 38 = .ok (.iaload, 1) := by decide +kernel
theorem dX12_whoOpens_39 : decode cX12_whoOpens 39 = .ok (.iconst (-1), 1) := by decide +kernel
theorem dX12_whoOpens_40 : decode cX12_whoOpens 40 = .ok (.if_icmp .eq 23, 3) := by decide +kernel
theorem dX12_whoOpens_43 : decode cX12_whoOpens 43 = .ok (.aload_n 0, 1) := by decide +kernel
theorem dX12_whoOpens_44 : decode cX12_whoOpens 44 = .ok (.getfield 341, 3) := by decide +kernel
theorem dX12_whoOpens_47 : decode cX12_whoOpens 47 = .ok (.iconst 3, 1) := by decide +kernel
theorem dX12_whoOpens_48 : decode cX12_whoOpens 48 = .ok (.if_icmp .eq 15, 3) := by decide +kernel
theorem dX12_whoOpens_51 : decode cX12_whoOpens 51 = .ok (.aload_n 0, 1) := by decide +kernel
theorem dX12_whoOpens_52 : decode cX12_whoOpens 52 = .ok (.getfield 28, 3) := by decide +kernel
theorem dX12_whoOpens_55 : decode cX12_whoOpens 55 = .ok (.aload_n 0, 1) := by decide +kernel
theorem dX12_whoOpens_56 : decode cX12_whoOpens 56 = .ok (.getfield 66, 3) := by decide +kernel
theorem dX12_whoOpens_59 : decode cX12_whoOpens 59 = .ok (.iload_n 1, 1) := by decide +kernel
theorem dX12_whoOpens_60 : decode cX12_whoOpens 60 = .ok (.iaload, 1) := by decide +kernel
theorem dX12_whoOpens_61 : decode cX12_whoOpens 61 = .ok (.iaload, 1) := by decide +kernel
theorem dX12_whoOpens_62 : decode cX12_whoOpens 62 = .ok (.ireturn, 1) := by decide +kernel
theorem dX12_whoOpens_63 : decode cX12_whoOpens 63 = .ok (.aload_n 0, 1) := by decide +kernel
theorem dX12_whoOpens_64 : decode cX12_whoOpens 64 = .ok (.iload_n 1, 1) := by decide +kernel
theorem dX12_whoOpens_65 : decode cX12_whoOpens 65 = .ok (.iload_n 2, 1) := by decide +kernel
theorem dX12_whoOpens_66 : decode cX12_whoOpens 66 = .ok (.invokevirtual 384, 3) := by decide +kernel
theorem dX12_whoOpens_69 : decode cX12_whoOpens 69 = .ok (.ireturn, 1) := by decide +kernel
theorem dX12_opens_0 : decode cX12_opens 0 = .ok (.bipush 6, 2) := by decide +kernel
theorem dX12_opens_2 : decode cX12_opens 2 = .ok (.iload_n 1, 1) := by decide +kernel
theorem dX12_opens_3 : decode cX12_opens 3 = .ok (.imul, 1) := by decide +kernel
theorem dX12_opens_4 : decode cX12_opens 4 = .ok (.iload_n 2, 1) := by decide +kernel
theorem dX12_opens_5 : decode cX12_opens 5 = .ok (.iadd, 1) := by decide +kernel
theorem dX12_opens_6 : decode cX12_opens 6 = .ok (.istore_n 3, 1) := by decide +kernel
theorem dX12_opens_7 : decode cX12_opens 7 = .ok (.aload_n 0, 1) := by decide +kernel
theorem dX12_opens_8 : decode cX12_opens 8 = .ok (.iload_n 1, 1) := by decide +kernel
theorem dX12_opens_9 : decode cX12_opens 9 = .ok (.iload_n 2, 1) := by decide +kernel
theorem dX12_opens_10 : decode cX12_opens 10 = .ok (.invokevirtual 388, 3) := by decide +kernel
theorem dX12_opens_13 : decode cX12_opens 13 = .ok (.istore 4, 2) := by decide +kernel
theorem dX12_opens_15 : decode cX12_opens 15 = .ok (.aload_n 0, 1) := by decide +kernel
theorem dX12_opens_16 : decode cX12_opens 16 = .ok (.iload_n 1, 1) := by decide +kernel
theorem dX12_opens_17 : decode cX12_opens 17 = .ok (.iload_n 2, 1) := by decide +kernel
theorem dX12_opens_18 : decode cX12_opens 18 = .ok (.invokevirtual 366, 3) := by decide +kernel
theorem dX12_opens_21 : decode cX12_opens 21 = .ok (.aload_n 0, 1) := by decide +kernel
theorem dX12_opens_22 : decode cX12_opens 22 = .ok (.getfield 90, 3) := by decide +kernel
theorem dX12_opens_25 : decode cX12_opens 25 = .ok (.iload_n 3, 1) := by decide +kernel
theorem dX12_opens_26 : decode cX12_opens 26 = .ok (.iconst 0, 1) := by decide +kernel
theorem dX12_opens_27 : decode cX12_opens 27 = .ok (.sipush 999, 3) := by decide +kernel
theorem dX12_opens_30 : decode cX12_opens 30 = .ok (.aload_n 0, 1) := by decide +kernel
theorem dX12_opens_31 : decode cX12_opens 31 = .ok (.getfield 90, 3) := by decide +kernel
theorem dX12_opens_34 : decode cX12_opens 34 = .ok (.iload_n 3, 1) := by decide +kernel
theorem dX12_opens_35 : decode cX12_opens 35 = .ok (.iaload, 1) := by decide +kernel
theorem dX12_opens_36 : decode cX12_opens 36 = .ok (.aload_n 0, 1) := by decide +kernel
theorem dX12_opens_37 : decode cX12_opens 37 = .ok (.iconst 1, 1) := by decide +kernel
theorem dX12_opens_38 : decode cX12_opens 38 = .ok (.bipush (-9), 2) := by decide +kernel
theorem dX12_opens_40 : decode cX12_opens 40 = .ok (.bipush 9, 2) := by decide +kernel
theorem dX12_opens_42 : decode cX12_opens 42 = .ok (.iconst 1, 1) := by decide +kernel
theorem dX12_opens_43 : decode cX12_opens 43 = .ok (.invokevirtual 369, 3) := by decide +kernel
theorem dX12_opens_46 : decode cX12_opens 46 = .ok (.iadd, 1) := by decide +kernel
theorem dX12_opens_47 : decode cX12_opens 47 = .ok (.invokestatic 391, 3) := by decide +kernel
theorem dX12_opens_50 : decode cX12_opens 50 = .ok (.invokestatic 393, 3) := by decide +kernel
theorem dX12_opens_53 : decode cX12_opens 53 = .ok (.iastore, 1) := by decide +kernel
theorem dX12_opens_54 : decode cX12_opens 54 = .ok (.aload_n 0, 1) := by decide +kernel
theorem dX12_opens_55 : decode cX12_opens 55 = .ok (.getfield 93, 3) := by decide +kernel
theorem dX12_opens_58 : decode cX12_opens 58 = .ok (.iload_n 3, 1) := by decide +kernel
theorem dX12_opens_59 : decode cX12_opens 59 = .ok (.sipush 9999, 3) := by decide +kernel
theorem dX12_opens_62 : decode cX12_opens 62 = .ok (.aload_n 0, 1) := by decide +kernel
theorem dX12_opens_63 : decode cX12_opens 63 = .ok (.getfield 93, 3) := by decide +kernel
theorem dX12_opens_66 : decode cX12_opens 66 = .ok (.iload_n 3, 1) := by decide +kernel
theorem dX12_opens_67 : decode cX12_opens 67 = .ok (.iaload, 1) := by decide +kernel
theorem dX12_opens_68 : decode cX12_opens 68 = .ok (.iconst 1, 1) := by decide +kernel
theorem dX12_opens_69 : decode cX12_opens 69 = .ok (.iadd, 1) := by decide +kernel
theorem dX12_opens_70 : decode cX12_opens 70 = .ok (.invokestatic 391, 3) := by decide +kernel
theorem dX12_opens_73 : decode cX12_opens 73 = .ok (.iastore, 1) := by decide +kernel
theorem dX12_opens_74 : decode cX12_opens 74 = .ok (.aload_n 0, 1) := by decide +kernel
theorem dX12_opens_75 : decode cX12_opens 75 = .ok (.getfield 84, 3) := by decide +kernel
theorem dX12_opens_78 : decode cX12_opens 78 = .ok (.iload_n 1, 1) := by decide +kernel
theorem dX12_opens_79 : decode cX12_opens 79 = .ok (.iload 4, 2) := by decide +kernel
theorem dX12_opens_81 : decode cX12_opens 81 = .ok (.iastore, 1) := by decide +kernel
theorem dX12_opens_82 : decode cX12_opens 82 = .ok (.iconst 0, 1) := by decide +kernel
theorem dX12_opens_83 : decode cX12_opens 83 = .ok (.istore 5, 2) := by decide +kernel
theorem dX12_opens_85 : decode cX12_opens 85 = .ok (.iload 5, 2) := by decide +kernel
theorem dX12_opens_87 : decode cX12_opens 87 = .ok (.aload_n 0, 1) := by decide +kernel
theorem dX12_opens_88 : decode cX12_opens 88 = .ok (.getfield 13, 3) := by decide +kernel
theorem dX12_opens_91 : decode cX12_opens 91 = .ok (.iconst 3, 1) := by decide +kernel
theorem dX12_opens_92 : decode cX12_opens 92 = .ok (.iaload, 1) := by decide +kernel
theorem dX12_opens_93 : decode cX12_opens 93 = .ok (.if_icmp .ge 58, 3) := by decide +kernel
theorem dX12_opens_96 : decode cX12_opens 96 = .ok (.aload_n 0, 1) := by decide +kernel
theorem dX12_opens_97 : decode cX12_opens 97 = .ok (.iload_n 1, 1) := by decide +kernel
theorem dX12_opens_98 : decode cX12_opens 98 = .ok (.iload 5, 2) := by decide +kernel
theorem dX12_opens_100 : decode cX12_opens 100 = .ok (.invokevirtual 337, 3) := by decide +kernel
theorem dX12_opens_103 : decode cX12_opens 103 = .ok (.ifCond .ne 42, 3) := by decide +kernel
theorem dX12_opens_106 : decode cX12_opens 106 = .ok (.aload_n 0, 1) := by decide +kernel
theorem dX12_opens_107 : decode cX12_opens 107 = .ok (.getfield 34, 3) := by decide +kernel
theorem dX12_opens_110 : decode cX12_opens 110 = .ok (.iload 5, 2) := by decide +kernel
theorem dX12_opens_112 : decode cX12_opens 112 = .ok (.iaload, 1) := by decide +kernel
theorem dX12_opens_113 : decode cX12_opens 113 = .ok (.iload 4, 2) := by decide +kernel
theorem dX12_opens_115 : decode cX12_opens 115 = .ok (.if_icmp .gt 30, 3) := by decide +kernel
theorem dX12_opens_118 : decode cX12_opens 118 = .ok (.aload_n 0, 1) := by decide +kernel
theorem dX12_opens_119 : decode cX12_opens 119 = .ok (.getfield 37, 3) := by decide +kernel
theorem dX12_opens_122 : decode cX12_opens 122 = .ok (.iload 5, 2) := by decide +kernel
theorem dX12_opens_124 : decode cX12_opens 124 = .ok (.iaload, 1) := by decide +kernel
theorem dX12_opens_125 : decode cX12_opens 125 = .ok (.iload 4, 2) := by decide +kernel
theorem dX12_opens_127 : decode cX12_opens 127 = .ok (.if_icmp .lt 18, 3) := by decide +kernel
theorem dX12_opens_130 : decode cX12_opens 130 = .ok (.aload_n 0, 1) := by decide +kernel
theorem dX12_opens_131 : decode cX12_opens 131 = .ok (.getfield 99, 3) := by decide +kernel
theorem dX12_opens_134 : decode cX12_opens 134 = .ok (.iconst 5, 1) := by decide +kernel
theorem dX12_opens_135 : decode cX12_opens 135 = .ok (.iload_n 1, 1) := by decide +kernel
theorem dX12_opens_136 : decode cX12_opens 136 = .ok (.imul, 1) := by decide +kernel
theorem dX12_opens_137 : decode cX12_opens 137 = .ok (.iload 5, 2) := by decide +kernel
theorem dX12_opens_139 : decode cX12_opens 139 = .ok (.iadd, 1) := by decide +kernel
theorem dX12_opens_140 : decode cX12_opens 140 = .ok (.dup2, 1) := by decide +kernel
theorem dX12_opens_141 : decode cX12_opens 141 = .ok (.iaload, 1) := by decide +kernel
theorem dX12_opens_142 : decode cX12_opens 142 = .ok (.iconst 1, 1) := by decide +kernel
theorem dX12_opens_143 : decode cX12_opens 143 = .ok (.iadd, 1) := by decide +kernel
theorem dX12_opens_144 : decode cX12_opens 144 = .ok (.iastore, 1) := by decide +kernel
theorem dX12_opens_145 : decode cX12_opens 145 = .ok (.iinc 5 1, 3) := by decide +kernel
theorem dX12_opens_148 : decode cX12_opens 148 = .ok (.goto (-63), 3) := by decide +kernel
theorem dX12_opens_151 : decode cX12_opens 151 = .ok (.return_, 1) := by decide +kernel
theorem dX12_passes_0 : decode cX12_passes 0 = .ok (.aload_n 0, 1) := by decide +kernel
theorem dX12_passes_1 : decode cX12_passes 1 = .ok (.iload_n 1, 1) := by decide +kernel
theorem dX12_passes_2 : decode cX12_passes 2 = .ok (.iload_n 2, 1) := by decide +kernel
theorem dX12_passes_3 : decode cX12_passes 3 = .ok (.invokevirtual 395, 3) := by decide +kernel
theorem dX12_passes_6 : decode cX12_passes 6 = .ok (.istore_n 3, 1) := by decide +kernel
theorem dX12_passes_7 : decode cX12_passes 7 = .ok (.aload_n 0, 1) := by decide +kernel
theorem dX12_passes_8 : decode cX12_passes 8 = .ok (.getfield 87, 3) := by decide +kernel
theorem dX12_passes_11 : decode cX12_passes 11 = .ok (.iload_n 1, 1) := by decide +kernel
theorem dX12_passes_12 : decode cX12_passes 12 = .ok (.iload_n 3, 1) := by decide +kernel
theorem dX12_passes_13 : decode cX12_passes 13 = .ok (.iastore, 1) := by decide +kernel
theorem dX12_passes_14 : decode cX12_passes 14 = .ok (.iload_n 3, 1) := by decide +kernel
theorem dX12_passes_15 : decode cX12_passes 15 = .ok (.iconst (-1), 1) := by decide +kernel
theorem dX12_passes_16 : decode cX12_passes 16 = .ok (.if_icmp .ne 16, 3) := by decide +kernel
theorem dX12_passes_19 : decode cX12_passes 19 = .ok (.aload_n 0, 1) := by decide +kernel
theorem dX12_passes_20 : decode cX12_passes 20 = .ok (.getfield 81, 3) := by decide +kernel
theorem dX12_passes_23 : decode cX12_passes 23 = .ok (.iload_n 1, 1) := by decide +kernel
theorem dX12_passes_24 : decode cX12_passes 24 = .ok (.dup2, 1) := by decide +kernel
theorem dX12_passes_25 : decode cX12_passes 25 = .ok (.iaload, 1) := by decide +kernel
theorem dX12_passes_26 : decode cX12_passes 26 = .ok (.iconst 1, 1) := by decide +kernel
theorem dX12_passes_27 : decode cX12_passes 27 = .ok (.iadd, 1) := by decide +kernel
theorem dX12_passes_28 : decode cX12_passes 28 = .ok (.iastore, 1) := by decide +kernel
theorem dX12_passes_29 : decode cX12_passes 29 = .ok (.goto 9, 3) := by decide +kernel
theorem dX12_passes_32 : decode cX12_passes 32 = .ok (.aload_n 0, 1) := by decide +kernel
theorem dX12_passes_33 : decode cX12_passes 33 = .ok (.iload_n 1, 1) := by decide +kernel
theorem dX12_passes_34 : decode cX12_passes 34 = .ok (.iload_n 3, 1) := by decide +kernel
theorem dX12_passes_35 : decode cX12_passes 35 = .ok (.invokevirtual 398, 3) := by decide +kernel
theorem dX12_passes_38 : decode cX12_passes 38 = .ok (.aload_n 0, 1) := by decide +kernel
theorem dX12_passes_39 : decode cX12_passes 39 = .ok (.getfield 66, 3) := by decide +kernel
theorem dX12_passes_42 : decode cX12_passes 42 = .ok (.iload_n 1, 1) := by decide +kernel
theorem dX12_passes_43 : decode cX12_passes 43 = .ok (.dup2, 1) := by decide +kernel
theorem dX12_passes_44 : decode cX12_passes 44 = .ok (.iaload, 1) := by decide +kernel
theorem dX12_passes_45 : decode cX12_passes 45 = .ok (.iconst 1, 1) := by decide +kernel
theorem dX12_passes_46 : decode cX12_passes 46 = .ok (.iadd, 1) := by decide +kernel
theorem dX12_passes_47 : decode cX12_passes 47 = .ok (.iastore, 1) := by decide +kernel
theorem dX12_passes_48 : decode cX12_passes 48 = .ok (.aload_n 0, 1) := by decide +kernel
theorem dX12_passes_49 : decode cX12_passes 49 = .ok (.getfield 75, 3) := by decide +kernel
theorem dX12_passes_52 : decode cX12_passes 52 = .ok (.iload_n 1, 1) := by decide +kernel
theorem dX12_passes_53 : decode cX12_passes 53 = .ok (.iconst (-1), 1) := by decide +kernel
theorem dX12_passes_54 : decode cX12_passes 54 = .ok (.iastore, 1) := by decide +kernel
theorem dX12_passes_55 : decode cX12_passes 55 = .ok (.return_, 1) := by decide +kernel
theorem dX12_goesOn_0 : decode cX12_goesOn 0 = .ok (.iconst 0, 1) := by decide +kernel
theorem dX12_goesOn_1 : decode cX12_goesOn 1 = .ok (.istore_n 2, 1) := by decide +kernel
theorem dX12_goesOn_2 : decode cX12_goesOn 2 = .ok (.iload_n 2, 1) := by decide +kernel
theorem dX12_goesOn_3 : decode cX12_goesOn 3 = .ok (.iload_n 1, 1) := by decide +kernel
theorem dX12_goesOn_4 : decode cX12_goesOn 4 = .ok (.if_icmp .ge 15, 3) := by decide +kernel
theorem dX12_goesOn_7 : decode cX12_goesOn 7 = .ok (.aload_n 0, 1) := by decide +kernel
theorem dX12_goesOn_8 : decode cX12_goesOn 8 = .ok (.iconst 1, 1) := by decide +kernel
theorem dX12_goesOn_9 : decode cX12_goesOn 9 = .ok (.iconst 0, 1) := by decide +kernel
theorem dX12_goesOn_10 : decode cX12_goesOn 10 = .ok (.invokevirtual 401, 3) := by decide +kernel
theorem dX12_goesOn_13 : decode cX12_goesOn 13 = .ok (.iinc 2 1, 3) := by decide +kernel
theorem dX12_goesOn_16 : decode cX12_goesOn 16 = .ok (.goto (-14), 3) := by decide +kernel
theorem dX12_goesOn_19 : decode cX12_goesOn 19 = .ok (.return_, 1) := by decide +kernel
theorem dX12_placesOf_0 : decode cX12_placesOf 0 = .ok (.iconst 0, 1) := by decide +kernel
theorem dX12_placesOf_1 : decode cX12_placesOf 1 = .ok (.istore_n 2, 1) := by decide +kernel
theorem dX12_placesOf_2 : decode cX12_placesOf 2 = .ok (.iconst 0, 1) := by decide +kernel
theorem dX12_placesOf_3 : decode cX12_placesOf 3 = .ok (.istore_n 3, 1) := by decide +kernel
theorem dX12_placesOf_4 : decode cX12_placesOf 4 = .ok (.iload_n 3, 1) := by decide +kernel
theorem dX12_placesOf_5 : decode cX12_placesOf 5 = .ok (.aload_n 0, 1) := by decide +kernel
theorem dX12_placesOf_6 : decode cX12_placesOf 6 = .ok (.getfield 13, 3) := by decide +kernel
theorem dX12_placesOf_9 : decode cX12_placesOf 9 = .ok (.iconst 1, 1) := by decide +kernel
theorem dX12_placesOf_10 : decode cX12_placesOf 10 = .ok (.iaload, 1) := by decide +kernel
theorem dX12_placesOf_11 : decode cX12_placesOf 11 = .ok (.if_icmp .ge 27, 3) := by decide +kernel
theorem dX12_placesOf_14 : decode cX12_placesOf 14 = .ok (.iload_n 2, 1) := by decide +kernel
theorem dX12_placesOf_15 : decode cX12_placesOf 15 = .ok (.aload_n 0, 1) := by decide +kernel
theorem dX12_placesOf_16 : decode cX12_placesOf 16 = .ok (.getfield 96, 3) := by decide +kernel
theorem dX12_placesOf_19 : decode cX12_placesOf 19 = .ok (.iload_n 3, 1) := by decide +kernel
theorem dX12_placesOf_20 : decode cX12_placesOf 20 = .ok (.iaload, 1) := by decide +kernel
theorem dX12_placesOf_21 : decode cX12_placesOf 21 = .ok (.iload_n 1, 1) := by decide +kernel
theorem dX12_placesOf_22 : decode cX12_placesOf 22 = .ok (.if_icmp .ne 7, 3) := by decide +kernel
theorem dX12_placesOf_25 : decode cX12_placesOf 25 = .ok (.iconst 1, 1) := by decide +kernel
theorem dX12_placesOf_26 : decode cX12_placesOf 26 = .ok (.goto 4, 3) := by decide +kernel
theorem dX12_placesOf_29 : decode cX12_placesOf 29 = .ok (.iconst 0, 1) := by decide +kernel
theorem dX12_placesOf_30 : decode cX12_placesOf 30 = .ok (.iadd, 1) := by decide +kernel
theorem dX12_placesOf_31 : decode cX12_placesOf 31 = .ok (.istore_n 2, 1) := by decide +kernel
theorem dX12_placesOf_32 : decode cX12_placesOf 32 = .ok (.iinc 3 1, 3) := by decide +kernel
theorem dX12_placesOf_35 : decode cX12_placesOf 35 = .ok (.goto (-31), 3) := by decide +kernel
theorem dX12_placesOf_38 : decode cX12_placesOf 38 = .ok (.iload_n 2, 1) := by decide +kernel
theorem dX12_placesOf_39 : decode cX12_placesOf 39 = .ok (.ireturn, 1) := by decide +kernel
theorem dX12_trade_0 : decode cX12_trade 0 = .ok (.aload_n 0, 1) := by decide +kernel
theorem dX12_trade_1 : decode cX12_trade 1 = .ok (.aload_n 0, 1) := by decide +kernel
theorem dX12_trade_2 : decode cX12_trade 2 = .ok (.iload_n 1, 1) := by decide +kernel
theorem dX12_trade_3 : decode cX12_trade 3 = .ok (.invokevirtual 405, 3) := by decide +kernel
theorem dX12_trade_6 : decode cX12_trade 6 = .ok (.ifCond .ne 7, 3) := by decide +kernel
theorem dX12_trade_9 : decode cX12_trade 9 = .ok (.iconst 1, 1) := by decide +kernel
theorem dX12_trade_10 : decode cX12_trade 10 = .ok (.goto 17, 3) := by decide +kernel
theorem dX12_trade_13 : decode cX12_trade 13 = .ok (.iload_n 2, 1) := by decide +kernel
theorem dX12_trade_14 : decode cX12_trade 14 = .ok (.ifCond .lt 8, 3) := by decide +kernel
theorem dX12_trade_17 : decode cX12_trade 17 = .ok (.iload_n 2, 1) := by decide +kernel
theorem dX12_trade_18 : decode cX12_trade 18 = .ok (.iconst 4, 1) := by decide +kernel
theorem dX12_trade_19 : decode cX12_trade 19 = .ok (.if_icmp .le 7, 3) := by decide +kernel
theorem dX12_trade_22 : decode cX12_trade 22 = .ok (.iconst 2, 1) := by decide +kernel
theorem dX12_trade_23 : decode cX12_trade 23 = .ok (.goto 4, 3) := by decide +kernel
theorem dX12_trade_26 : decode cX12_trade 26 = .ok (.iconst 0, 1) := by decide +kernel
theorem dX12_trade_27 : decode cX12_trade 27 = .ok (.putfield 151, 3) := by decide +kernel
theorem dX12_trade_30 : decode cX12_trade 30 = .ok (.aload_n 0, 1) := by decide +kernel
theorem dX12_trade_31 : decode cX12_trade 31 = .ok (.getfield 151, 3) := by decide +kernel
theorem dX12_trade_34 : decode cX12_trade 34 = .ok (.ifCond .eq 5, 3) := by decide +kernel
theorem dX12_trade_37 : decode cX12_trade 37 = .ok (.iconst 0, 1) := by decide +kernel
theorem dX12_trade_38 : decode cX12_trade 38 = .ok (.ireturn, 1) := by decide +kernel
theorem dX12_trade_39 : decode cX12_trade 39 = .ok (.iload_n 2, 1) := by decide +kernel
theorem dX12_trade_40 : decode cX12_trade 40 = .ok (.tableswitch 60 0 3 #[32, 39, 46, 53], 32) := by decide +kernel
theorem dX12_trade_72 : decode cX12_trade 72 = .ok (.aload_n 0, 1) := by decide +kernel
theorem dX12_trade_73 : decode cX12_trade 73 = .ok (.getfield 19, 3) := by decide +kernel
theorem dX12_trade_76 : decode cX12_trade 76 = .ok (.iload_n 1, 1) := by decide +kernel
theorem dX12_trade_77 : decode cX12_trade 77 = .ok (.iaload, 1) := by decide +kernel
theorem dX12_trade_78 : decode cX12_trade 78 = .ok (.ireturn, 1) := by decide +kernel
theorem dX12_trade_79 : decode cX12_trade 79 = .ok (.aload_n 0, 1) := by decide +kernel
theorem dX12_trade_80 : decode cX12_trade 80 = .ok (.getfield 22, 3) := by decide +kernel
theorem dX12_trade_83 : decode cX12_trade 83 = .ok (.iload_n 1, 1) := by decide +kernel
theorem dX12_trade_84 : decode cX12_trade 84 = .ok (.iaload, 1) := by decide +kernel
theorem dX12_trade_85 : decode cX12_trade 85 = .ok (.ireturn, 1) := by decide +kernel
theorem dX12_trade_86 : decode cX12_trade 86 = .ok (.aload_n 0, 1) := by decide +kernel
theorem dX12_trade_87 : decode cX12_trade 87 = .ok (.getfield 90, 3) := by decide +kernel
theorem dX12_trade_90 : decode cX12_trade 90 = .ok (.iload_n 1, 1) := by decide +kernel
theorem dX12_trade_91 : decode cX12_trade 91 = .ok (.iaload, 1) := by decide +kernel
theorem dX12_trade_92 : decode cX12_trade 92 = .ok (.ireturn, 1) := by decide +kernel
theorem dX12_trade_93 : decode cX12_trade 93 = .ok (.aload_n 0, 1) := by decide +kernel
theorem dX12_trade_94 : decode cX12_trade 94 = .ok (.getfield 93, 3) := by decide +kernel
theorem dX12_trade_97 : decode cX12_trade 97 = .ok (.iload_n 1, 1) := by decide +kernel
theorem dX12_trade_98 : decode cX12_trade 98 = .ok (.iaload, 1) := by decide +kernel
theorem dX12_trade_99 : decode cX12_trade 99 = .ok (.ireturn, 1) := by decide +kernel
theorem dX12_trade_100 : decode cX12_trade 100 = .ok (.aload_n 0, 1) := by decide +kernel
theorem dX12_trade_101 : decode cX12_trade 101 = .ok (.iload_n 1, 1) := by decide +kernel
theorem dX12_trade_102 : decode cX12_trade 102 = .ok (.invokevirtual 408, 3) := by decide +kernel
theorem dX12_trade_105 : decode cX12_trade 105 = .ok (.ireturn, 1) := by decide +kernel
theorem dX12_place_0 : decode cX12_place 0 = .ok (.aload_n 0, 1) := by decide +kernel
theorem dX12_place_1 : decode cX12_place 1 = .ok (.iconst 0, 1) := by decide +kernel
theorem dX12_place_2 : decode cX12_place 2 = .ok (.putfield 151, 3) := by decide +kernel
theorem dX12_place_5 : decode cX12_place 5 = .ok (.aload_n 0, 1) := by decide +kernel
theorem dX12_place_6 : decode cX12_place 6 = .ok (.iload_n 1, 1) := by decide +kernel
theorem dX12_place_7 : decode cX12_place 7 = .ok (.invokevirtual 411, 3) := by decide +kernel
theorem dX12_place_10 : decode cX12_place 10 = .ok (.ifCond .eq 12, 3) := by decide +kernel
theorem dX12_place_13 : decode cX12_place 13 = .ok (.aload_n 0, 1) := by decide +kernel
theorem dX12_place_14 : decode cX12_place 14 = .ok (.getfield 96, 3) := by decide +kernel
theorem dX12_place_17 : decode cX12_place 17 = .ok (.iload_n 1, 1) := by decide +kernel
theorem dX12_place_18 : decode cX12_place 18 = .ok (.iaload, 1) := by decide +kernel
theorem dX12_place_19 : decode cX12_place 19 = .ok (.goto 4, 3) := by decide +kernel
theorem dX12_place_22 : decode cX12_place 22 = .ok (.iconst (-1), 1) := by decide +kernel
theorem dX12_place_23 : decode cX12_place 23 = .ok (.ireturn, 1) := by decide +kernel
theorem dX12_work_0 : decode cX12_work 0 = .ok (.aload_n 0, 1) := by decide +kernel
theorem dX12_work_1 : decode cX12_work 1 = .ok (.iconst 0, 1) := by decide +kernel
theorem dX12_work_2 : decode cX12_work 2 = .ok (.putfield 151, 3) := by decide +kernel
theorem dX12_work_5 : decode cX12_work 5 = .ok (.aload_n 0, 1) := by decide +kernel
theorem dX12_work_6 : decode cX12_work 6 = .ok (.iload_n 1, 1) := by decide +kernel
theorem dX12_work_7 : decode cX12_work 7 = .ok (.invokevirtual 414, 3) := by decide +kernel
theorem dX12_work_10 : decode cX12_work 10 = .ok (.ifCond .ne 5, 3) := by decide +kernel
theorem dX12_work_13 : decode cX12_work 13 = .ok (.iconst (-1), 1) := by decide +kernel
theorem dX12_work_14 : decode cX12_work 14 = .ok (.ireturn, 1) := by decide +kernel
theorem dX12_work_15 : decode cX12_work 15 = .ok (.iload_n 2, 1) := by decide +kernel
theorem dX12_work_16 : decode cX12_work 16 = .ok (.tableswitch 60 0 3 #[32, 39, 46, 53], 32) := by decide +kernel
theorem dX12_work_48 : decode cX12_work 48 = .ok (.aload_n 0, 1) := by decide +kernel
theorem dX12_work_49 : decode cX12_work 49 = .ok (.getfield 34, 3) := by decide +kernel
theorem dX12_work_52 : decode cX12_work 52 = .ok (.iload_n 1, 1) := by decide +kernel
theorem dX12_work_53 : decode cX12_work 53 = .ok (.iaload, 1) := by decide +kernel
theorem dX12_work_54 : decode cX12_work 54 = .ok (.ireturn, 1) := by decide +kernel
theorem dX12_work_55 : decode cX12_work 55 = .ok (.aload_n 0, 1) := by decide +kernel
theorem dX12_work_56 : decode cX12_work 56 = .ok (.getfield 37, 3) := by decide +kernel
theorem dX12_work_59 : decode cX12_work 59 = .ok (.iload_n 1, 1) := by decide +kernel
theorem dX12_work_60 : decode cX12_work 60 = .ok (.iaload, 1) := by decide +kernel
theorem dX12_work_61 : decode cX12_work 61 = .ok (.ireturn, 1) := by decide +kernel
theorem dX12_work_62 : decode cX12_work 62 = .ok (.aload_n 0, 1) := by decide +kernel
theorem dX12_work_63 : decode cX12_work 63 = .ok (.getfield 40, 3) := by decide +kernel
theorem dX12_work_66 : decode cX12_work 66 = .ok (.iload_n 1, 1) := by decide +kernel
theorem dX12_work_67 : decode cX12_work 67 = .ok (.iaload, 1) := by decide +kernel
theorem dX12_work_68 : decode cX12_work 68 = .ok (.ireturn, 1) := by decide +kernel
theorem dX12_work_69 : decode cX12_work 69 = .ok (.aload_n 0, 1) := by decide +kernel
theorem dX12_work_70 : decode cX12_work 70 = .ok (.getfield 99, 3) := by decide +kernel
theorem dX12_work_73 : decode cX12_work 73 = .ok (.iload_n 1, 1) := by decide +kernel
theorem dX12_work_74 : decode cX12_work 74 = .ok (.iaload, 1) := by decide +kernel
theorem dX12_work_75 : decode cX12_work 75 = .ok (.ireturn, 1) := by decide +kernel
theorem dX12_work_76 : decode cX12_work 76 = .ok (.iconst (-1), 1) := by decide +kernel
theorem dX12_work_77 : decode cX12_work 77 = .ok (.ireturn, 1) := by decide +kernel
theorem dX12_law_0 : decode cX12_law 0 = .ok (.aload_n 0, 1) := by decide +kernel
theorem dX12_law_1 : decode cX12_law 1 = .ok (.iconst 0, 1) := by decide +kernel
theorem dX12_law_2 : decode cX12_law 2 = .ok (.putfield 151, 3) := by decide +kernel
theorem dX12_law_5 : decode cX12_law 5 = .ok (.iload_n 1, 1) := by decide +kernel
theorem dX12_law_6 : decode cX12_law 6 = .ok (.ifCond .lt 24, 3) := by decide +kernel
theorem dX12_law_9 : decode cX12_law 9 = .ok (.iload_n 1, 1) := by decide +kernel
theorem dX12_law_10 : decode cX12_law 10 = .ok (.iconst 2, 1) := by decide +kernel
theorem dX12_law_11 : decode cX12_law 11 = .ok (.if_icmp .gt 19, 3) := by decide +kernel
theorem dX12_law_14 : decode cX12_law 14 = .ok (.aload_n 0, 1) := by decide +kernel
theorem dX12_law_15 : decode cX12_law 15 = .ok (.iload_n 1, 1) := by decide +kernel
theorem dX12_law_16 : decode cX12_law 16 = .ok (.invokevirtual 353, 3) := by decide +kernel
theorem dX12_law_19 : decode cX12_law 19 = .ok (.ifCond .eq 11, 3) := by decide +kernel
theorem dX12_law_22 : decode cX12_law 22 = .ok (.aload_n 0, 1) := by decide +kernel
theorem dX12_law_23 : decode cX12_law 23 = .ok (.iload_n 2, 1) := by decide +kernel
theorem dX12_law_24 : decode cX12_law 24 = .ok (.invokevirtual 405, 3) := by decide +kernel
theorem dX12_law_27 : decode cX12_law 27 = .ok (.ifCond .ne 7, 3) := by decide +kernel
theorem dX12_law_30 : decode cX12_law 30 = .ok (.ldc2_w 419, 3) := by decide +kernel
theorem dX12_law_33 : decode cX12_law 33 = .ok (.lreturn, 1) := by decide +kernel
theorem dX12_law_34 : decode cX12_law 34 = .ok (.aload_n 0, 1) := by decide +kernel
theorem dX12_law_35 : decode cX12_law 35 = .ok (.iconst 0, 1) := by decide +kernel
theorem dX12_law_36 : decode cX12_law 36 = .ok (.iload_n 2, 1) := by decide +kernel
theorem dX12_law_37 : decode cX12_law 37 = .ok (.invokevirtual 366, 3) := by decide +kernel
theorem dX12_law_40 : decode cX12_law 40 = .ok (.aload_n 0, 1) := by decide +kernel
theorem dX12_law_41 : decode cX12_law 41 = .ok (.iload_n 1, 1) := by decide +kernel
theorem dX12_law_42 : decode cX12_law 42 = .ok (.invokevirtual 356, 3) := by decide +kernel
theorem dX12_law_45 : decode cX12_law 45 = .ok (.ifCond .eq 12, 3) := by decide +kernel
theorem dX12_law_48 : decode cX12_law 48 = .ok (.aload_n 0, 1) := by decide +kernel
theorem dX12_law_49 : decode cX12_law 49 = .ok (.getfield 63, 3) := by decide +kernel
theorem dX12_law_52 : decode cX12_law 52 = .ok (.iconst 0, 1) := by decide +kernel
theorem dX12_law_53 : decode cX12_law 53 = .ok (.laload, 1) := by decide +kernel
theorem dX12_law_54 : decode cX12_law 54 = .ok (.goto 6, 3) := by decide +kernel
theorem dX12_law_57 : decode cX12_law 57 = .ok (.ldc2_w 419, 3) := by decide +kernel
theorem dX12_law_60 : decode cX12_law 60 = .ok (.lreturn, 1) := by decide +kernel
theorem dX12_length_0 : decode cX12_length 0 = .ok (.aload_n 0, 1) := by decide +kernel
theorem dX12_length_1 : decode cX12_length 1 = .ok (.iconst 0, 1) := by decide +kernel
theorem dX12_length_2 : decode cX12_length 2 = .ok (.putfield 151, 3) := by decide +kernel
theorem dX12_length_5 : decode cX12_length 5 = .ok (.aload_n 0, 1) := by decide +kernel
theorem dX12_length_6 : decode cX12_length 6 = .ok (.iload_n 1, 1) := by decide +kernel
theorem dX12_length_7 : decode cX12_length 7 = .ok (.invokevirtual 405, 3) := by decide +kernel
theorem dX12_length_10 : decode cX12_length 10 = .ok (.ifCond .eq 12, 3) := by decide +kernel
theorem dX12_length_13 : decode cX12_length 13 = .ok (.aload_n 0, 1) := by decide +kernel
theorem dX12_length_14 : decode cX12_length 14 = .ok (.iconst 0, 1) := by decide +kernel
theorem dX12_length_15 : decode cX12_length 15 = .ok (.iload_n 1, 1) := by decide +kernel
theorem dX12_length_16 : decode cX12_length 16 = .ok (.invokevirtual 388, 3) := by decide +kernel
theorem dX12_length_19 : decode cX12_length 19 = .ok (.goto 4, 3) := by decide +kernel
theorem dX12_length_22 : decode cX12_length 22 = .ok (.iconst (-1), 1) := by decide +kernel
theorem dX12_length_23 : decode cX12_length 23 = .ok (.ireturn, 1) := by decide +kernel
theorem dX12_keepNow_0 : decode cX12_keepNow 0 = .ok (.aload_n 0, 1) := by decide +kernel
theorem dX12_keepNow_1 : decode cX12_keepNow 1 = .ok (.getfield 311, 3) := by decide +kernel
theorem dX12_keepNow_4 : decode cX12_keepNow 4 = .ok (.bipush 20, 2) := by decide +kernel
theorem dX12_keepNow_6 : decode cX12_keepNow 6 = .ok (.if_icmp .ne 39, 3) := by decide +kernel
theorem dX12_keepNow_9 : decode cX12_keepNow 9 = .ok (.iconst 1, 1) := by decide +kernel
theorem dX12_keepNow_10 : decode cX12_keepNow 10 = .ok (.istore_n 1, 1) := by decide +kernel
theorem dX12_keepNow_11 : decode cX12_keepNow 11 = .ok (.iload_n 1, 1) := by decide +kernel
theorem dX12_keepNow_12 : decode cX12_keepNow 12 = .ok (.bipush 20, 2) := by decide +kernel
theorem dX12_keepNow_14 : decode cX12_keepNow 14 = .ok (.if_icmp .ge 21, 3) := by decide +kernel
theorem dX12_keepNow_17 : decode cX12_keepNow 17 = .ok (.aload_n 0, 1) := by decide +kernel
theorem dX12_keepNow_18 : decode cX12_keepNow 18 = .ok (.iconst 3, 1) := by decide +kernel
theorem dX12_keepNow_19 : decode cX12_keepNow 19 = .ok (.iload_n 1, 1) := by decide +kernel
theorem dX12_keepNow_20 : decode cX12_keepNow 20 = .ok (.iadd, 1) := by decide +kernel
theorem dX12_keepNow_21 : decode cX12_keepNow 21 = .ok (.iconst 1, 1) := by decide +kernel
theorem dX12_keepNow_22 : decode cX12_keepNow 22 = .ok (.isub, 1) := by decide +kernel
theorem dX12_keepNow_23 : decode cX12_keepNow 23 = .ok (.iconst 3, 1) := by decide +kernel
theorem dX12_keepNow_24 : decode cX12_keepNow 24 = .ok (.iload_n 1, 1) := by decide +kernel
theorem dX12_keepNow_25 : decode cX12_keepNow 25 = .ok (.iadd, 1) := by decide +kernel
theorem dX12_keepNow_26 : decode cX12_keepNow 26 = .ok (.invokevirtual 421, 3) := by decide +kernel
theorem dX12_keepNow_29 : decode cX12_keepNow 29 = .ok (.iinc 1 1, 3) := by decide +kernel
theorem dX12_keepNow_32 : decode cX12_keepNow 32 = .ok (.goto (-21), 3) := by decide +kernel
theorem dX12_keepNow_35 : decode cX12_keepNow 35 = .ok (.aload_n 0, 1) := by decide +kernel
theorem dX12_keepNow_36 : decode cX12_keepNow 36 = .ok (.dup, 1) := by decide +kernel
theorem dX12_keepNow_37 : decode cX12_keepNow 37 = .ok (.getfield 311, 3) := by decide +kernel
theorem dX12_keepNow_40 : decode cX12_keepNow 40 = .ok (.iconst 1, 1) := by decide +kernel
theorem dX12_keepNow_41 : decode cX12_keepNow 41 = .ok (.isub, 1) := by decide +kernel
theorem dX12_keepNow_42 : decode cX12_keepNow 42 = .ok (.putfield 311, 3) := by decide +kernel
theorem dX12_keepNow_45 : decode cX12_keepNow 45 = .ok (.aload_n 0, 1) := by decide +kernel
theorem dX12_keepNow_46 : decode cX12_keepNow 46 = .ok (.iconst 3, 1) := by decide +kernel
theorem dX12_keepNow_47 : decode cX12_keepNow 47 = .ok (.aload_n 0, 1) := by decide +kernel
theorem dX12_keepNow_48 : decode cX12_keepNow 48 = .ok (.getfield 311, 3) := by decide +kernel
theorem dX12_keepNow_51 : decode cX12_keepNow 51 = .ok (.iadd, 1) := by decide +kernel
theorem dX12_keepNow_52 : decode cX12_keepNow 52 = .ok (.iconst 0, 1) := by decide +kernel
theorem dX12_keepNow_53 : decode cX12_keepNow 53 = .ok (.invokevirtual 421, 3) := by decide +kernel
theorem dX12_keepNow_56 : decode cX12_keepNow 56 = .ok (.aload_n 0, 1) := by decide +kernel
theorem dX12_keepNow_57 : decode cX12_keepNow 57 = .ok (.dup, 1) := by decide +kernel
theorem dX12_keepNow_58 : decode cX12_keepNow 58 = .ok (.getfield 311, 3) := by decide +kernel
theorem dX12_keepNow_61 : decode cX12_keepNow 61 = .ok (.iconst 1, 1) := by decide +kernel
theorem dX12_keepNow_62 : decode cX12_keepNow 62 = .ok (.iadd, 1) := by decide +kernel
theorem dX12_keepNow_63 : decode cX12_keepNow 63 = .ok (.putfield 311, 3) := by decide +kernel
theorem dX12_keepNow_66 : decode cX12_keepNow 66 = .ok (.return_, 1) := by decide +kernel
theorem dX12_appoint_0 : decode cX12_appoint 0 = .ok (.aload_n 0, 1) := by decide +kernel
theorem dX12_appoint_1 : decode cX12_appoint 1 = .ok (.iconst 0, 1) := by decide +kernel
theorem dX12_appoint_2 : decode cX12_appoint 2 = .ok (.putfield 151, 3) := by decide +kernel
theorem dX12_appoint_5 : decode cX12_appoint 5 = .ok (.aload_n 0, 1) := by decide +kernel
theorem dX12_appoint_6 : decode cX12_appoint 6 = .ok (.iload_n 1, 1) := by decide +kernel
theorem dX12_appoint_7 : decode cX12_appoint 7 = .ok (.invokevirtual 405, 3) := by decide +kernel
theorem dX12_appoint_10 : decode cX12_appoint 10 = .ok (.ifCond .ne 5, 3) := by decide +kernel
theorem dX12_appoint_13 : decode cX12_appoint 13 = .ok (.iconst 0, 1) := by decide +kernel
theorem dX12_appoint_14 : decode cX12_appoint 14 = .ok (.ireturn, 1) := by decide +kernel
theorem dX12_appoint_15 : decode cX12_appoint 15 = .ok (.aload_n 0, 1) := by decide +kernel
theorem dX12_appoint_16 : decode cX12_appoint 16 = .ok (.invokevirtual 424, 3) := by decide +kernel
theorem dX12_appoint_19 : decode cX12_appoint 19 = .ok (.aload_n 0, 1) := by decide +kernel
theorem dX12_appoint_20 : decode cX12_appoint 20 = .ok (.getfield 75, 3) := by decide +kernel
theorem dX12_appoint_23 : decode cX12_appoint 23 = .ok (.iconst 0, 1) := by decide +kernel
theorem dX12_appoint_24 : decode cX12_appoint 24 = .ok (.iload_n 1, 1) := by decide +kernel
theorem dX12_appoint_25 : decode cX12_appoint 25 = .ok (.iastore, 1) := by decide +kernel
theorem dX12_appoint_26 : decode cX12_appoint 26 = .ok (.iconst 1, 1) := by decide +kernel
theorem dX12_appoint_27 : decode cX12_appoint 27 = .ok (.ireturn, 1) := by decide +kernel
theorem dX12_put_0 : decode cX12_put 0 = .ok (.aload_n 0, 1) := by decide +kernel
theorem dX12_put_1 : decode cX12_put 1 = .ok (.iconst 0, 1) := by decide +kernel
theorem dX12_put_2 : decode cX12_put 2 = .ok (.putfield 151, 3) := by decide +kernel
theorem dX12_put_5 : decode cX12_put 5 = .ok (.aload_n 0, 1) := by decide +kernel
theorem dX12_put_6 : decode cX12_put 6 = .ok (.iload_n 1, 1) := by decide +kernel
theorem dX12_put_7 : decode cX12_put 7 = .ok (.invokevirtual 411, 3) := by decide +kernel
theorem dX12_put_10 : decode cX12_put 10 = .ok (.ifCond .eq 11, 3) := by decide +kernel
theorem dX12_put_13 : decode cX12_put 13 = .ok (.aload_n 0, 1) := by decide +kernel
theorem dX12_put_14 : decode cX12_put 14 = .ok (.iload_n 2, 1) := by decide +kernel
theorem dX12_put_15 : decode cX12_put 15 = .ok (.invokevirtual 405, 3) := by decide +kernel
theorem dX12_put_18 : decode cX12_put 18 = .ok (.ifCond .ne 5, 3) := by decide +kernel
theorem dX12_put_21 : decode cX12_put 21 = .ok (.iconst (-1), 1) := by decide +kernel
theorem dX12_put_22 : decode cX12_put 22 = .ok (.ireturn, 1) := by decide +kernel
theorem dX12_put_23 : decode cX12_put 23 = .ok (.aload_n 0, 1) := by decide +kernel
theorem dX12_put_24 : decode cX12_put 24 = .ok (.invokevirtual 424, 3) := by decide +kernel
theorem dX12_put_27 : decode cX12_put 27 = .ok (.aload_n 0, 1) := by decide +kernel
theorem dX12_put_28 : decode cX12_put 28 = .ok (.getfield 96, 3) := by decide +kernel
theorem dX12_put_31 : decode cX12_put 31 = .ok (.iload_n 1, 1) := by decide +kernel
theorem dX12_put_32 : decode cX12_put 32 = .ok (.iaload, 1) := by decide +kernel
theorem dX12_put_33 : decode cX12_put 33 = .ok (.istore_n 3, 1) := by decide +kernel
theorem dX12_put_34 : decode cX12_put 34 = .ok (.aload_n 0, 1) := by decide +kernel
theorem dX12_put_35 : decode cX12_put 35 = .ok (.getfield 96, 3) := by decide +kernel
theorem dX12_put_38 : decode cX12_put 38 = .ok (.iload_n 1, 1) := by decide +kernel
theorem dX12_put_39 : decode cX12_put 39 = .ok (.iload_n 2, 1) := by decide +kernel
theorem dX12_put_40 : decode cX12_put 40 = .ok (.iastore, 1) := by decide +kernel
theorem dX12_put_41 : decode cX12_put 41 = .ok (.iload_n 3, 1) := by decide +kernel
theorem dX12_put_42 : decode cX12_put 42 = .ok (.ireturn, 1) := by decide +kernel
theorem dX12_swap_0 : decode cX12_swap 0 = .ok (.aload_n 0, 1) := by decide +kernel
theorem dX12_swap_1 : decode cX12_swap 1 = .ok (.iconst 0, 1) := by decide +kernel
theorem dX12_swap_2 : decode cX12_swap 2 = .ok (.putfield 151, 3) := by decide +kernel
theorem dX12_swap_5 : decode cX12_swap 5 = .ok (.aload_n 0, 1) := by decide +kernel
theorem dX12_swap_6 : decode cX12_swap 6 = .ok (.iload_n 1, 1) := by decide +kernel
theorem dX12_swap_7 : decode cX12_swap 7 = .ok (.invokevirtual 411, 3) := by decide +kernel
theorem dX12_swap_10 : decode cX12_swap 10 = .ok (.ifCond .eq 31, 3) := by decide +kernel
theorem dX12_swap_13 : decode cX12_swap 13 = .ok (.aload_n 0, 1) := by decide +kernel
theorem dX12_swap_14 : decode cX12_swap 14 = .ok (.iload_n 2, 1) := by decide +kernel
theorem dX12_swap_15 : decode cX12_swap 15 = .ok (.invokevirtual 411, 3) := by decide +kernel
theorem dX12_swap_18 : decode cX12_swap 18 = .ok (.ifCond .eq 23, 3) := by decide +kernel
theorem dX12_swap_21 : decode cX12_swap 21 = .ok (.iload_n 1, 1) := by decide +kernel
theorem dX12_swap_22 : decode cX12_swap 22 = .ok (.iload_n 2, 1) := by decide +kernel
theorem dX12_swap_23 : decode cX12_swap 23 = .ok (.if_icmp .eq 18, 3) := by decide +kernel
theorem dX12_swap_26 : decode cX12_swap 26 = .ok (.aload_n 0, 1) := by decide +kernel
theorem dX12_swap_27 : decode cX12_swap 27 = .ok (.getfield 96, 3) := by decide +kernel
theorem dX12_swap_30 : decode cX12_swap 30 = .ok (.iload_n 1, 1) := by decide +kernel
theorem dX12_swap_31 : decode cX12_swap 31 = .ok (.iaload, 1) := by decide +kernel
theorem dX12_swap_32 : decode cX12_swap 32 = .ok (.aload_n 0, 1) := by decide +kernel
theorem dX12_swap_33 : decode cX12_swap 33 = .ok (.getfield 96, 3) := by decide +kernel
theorem dX12_swap_36 : decode cX12_swap 36 = .ok (.iload_n 2, 1) := by decide +kernel
theorem dX12_swap_37 : decode cX12_swap 37 = .ok (.iaload, 1) := by decide +kernel
theorem dX12_swap_38 : decode cX12_swap 38 = .ok (.if_icmp .ne 5, 3) := by decide +kernel
theorem dX12_swap_41 : decode cX12_swap 41 = .ok (.iconst 0, 1) := by decide +kernel
theorem dX12_swap_42 : decode cX12_swap 42 = .ok (.ireturn, 1) := by decide +kernel
theorem dX12_swap_43 : decode cX12_swap 43 = .ok (.aload_n 0, 1) := by decide +kernel
theorem dX12_swap_44 : decode cX12_swap 44 = .ok (.invokevirtual 424, 3) := by decide +kernel
theorem dX12_swap_47 : decode cX12_swap 47 = .ok (.aload_n 0, 1) := by decide +kernel
theorem dX12_swap_48 : decode cX12_swap 48 = .ok (.getfield 96, 3) := by decide +kernel
theorem dX12_swap_51 : decode cX12_swap 51 = .ok (.iload_n 1, 1) := by decide +kernel
theorem dX12_swap_52 : decode cX12_swap 52 = .ok (.iaload, 1) := by decide +kernel
theorem dX12_swap_53 : decode cX12_swap 53 = .ok (.istore_n 3, 1) := by decide +kernel
theorem dX12_swap_54 : decode cX12_swap 54 = .ok (.aload_n 0, 1) := by decide +kernel
theorem dX12_swap_55 : decode cX12_swap 55 = .ok (.getfield 96, 3) := by decide +kernel
theorem dX12_swap_58 : decode cX12_swap 58 = .ok (.iload_n 1, 1) := by decide +kernel
theorem dX12_swap_59 : decode cX12_swap 59 = .ok (.aload_n 0, 1) := by decide +kernel
theorem dX12_swap_60 : decode cX12_swap 60 = .ok (.getfield 96, 3) := by decide +kernel
theorem dX12_swap_63 : decode cX12_swap 63 = .ok (.iload_n 2, 1) := by decide +kernel
theorem dX12_swap_64 : decode cX12_swap 64 = .ok (.iaload, 1) := by decide +kernel
theorem dX12_swap_65 : decode cX12_swap 65 = .ok (.iastore, 1) := by decide +kernel
theorem dX12_swap_66 : decode cX12_swap 66 = .ok (.aload_n 0, 1) := by decide +kernel
theorem dX12_swap_67 : decode cX12_swap 67 = .ok (.getfield 96, 3) := by decide +kernel
theorem dX12_swap_70 : decode cX12_swap 70 = .ok (.iload_n 2, 1) := by decide +kernel
theorem dX12_swap_71 : decode cX12_swap 71 = .ok (.iload_n 3, 1) := by decide +kernel
theorem dX12_swap_72 : decode cX12_swap 72 = .ok (.iastore, 1) := by decide +kernel
theorem dX12_swap_73 : decode cX12_swap 73 = .ok (.iconst 1, 1) := by decide +kernel
theorem dX12_swap_74 : decode cX12_swap 74 = .ok (.ireturn, 1) := by decide +kernel
theorem dX12_go_0 : decode cX12_go 0 = .ok (.aload_n 0, 1) := by decide +kernel
theorem dX12_go_1 : decode cX12_go 1 = .ok (.iconst 0, 1) := by decide +kernel
theorem dX12_go_2 : decode cX12_go 2 = .ok (.putfield 151, 3) := by decide +kernel
theorem dX12_go_5 : decode cX12_go 5 = .ok (.iload_n 1, 1) := by decide +kernel
theorem dX12_go_6 : decode cX12_go 6 = .ok (.ifCond .lt 24, 3) := by decide +kernel
theorem dX12_go_9 : decode cX12_go 9 = .ok (.iload_n 1, 1) := by decide +kernel
theorem dX12_go_10 : decode cX12_go 10 = .ok (.sipush 200, 3) := by decide +kernel
theorem dX12_go_13 : decode cX12_go 13 = .ok (.if_icmp .gt 17, 3) := by decide +kernel
theorem dX12_go_16 : decode cX12_go 16 = .ok (.aload_n 0, 1) := by decide +kernel
theorem dX12_go_17 : decode cX12_go 17 = .ok (.getfield 66, 3) := by decide +kernel
theorem dX12_go_20 : decode cX12_go 20 = .ok (.iconst 0, 1) := by decide +kernel
theorem dX12_go_21 : decode cX12_go 21 = .ok (.iaload, 1) := by decide +kernel
theorem dX12_go_22 : decode cX12_go 22 = .ok (.iload_n 1, 1) := by decide +kernel
theorem dX12_go_23 : decode cX12_go 23 = .ok (.iadd, 1) := by decide +kernel
theorem dX12_go_24 : decode cX12_go 24 = .ok (.sipush 9800, 3) := by decide +kernel
theorem dX12_go_27 : decode cX12_go 27 = .ok (.if_icmp .le 5, 3) := by decide +kernel
theorem dX12_go_30 : decode cX12_go 30 = .ok (.iconst (-1), 1) := by decide +kernel
theorem dX12_go_31 : decode cX12_go 31 = .ok (.ireturn, 1) := by decide +kernel
theorem dX12_go_32 : decode cX12_go 32 = .ok (.iload_n 1, 1) := by decide +kernel
theorem dX12_go_33 : decode cX12_go 33 = .ok (.ifCond .le 8, 3) := by decide +kernel
theorem dX12_go_36 : decode cX12_go 36 = .ok (.aload_n 0, 1) := by decide +kernel
theorem dX12_go_37 : decode cX12_go 37 = .ok (.iconst 0, 1) := by decide +kernel
theorem dX12_go_38 : decode cX12_go 38 = .ok (.putfield 311, 3) := by decide +kernel
theorem dX12_go_41 : decode cX12_go 41 = .ok (.iconst 0, 1) := by decide +kernel
theorem dX12_go_42 : decode cX12_go 42 = .ok (.istore_n 2, 1) := by decide +kernel
theorem dX12_go_43 : decode cX12_go 43 = .ok (.iload_n 2, 1) := by decide +kernel
theorem dX12_go_44 : decode cX12_go 44 = .ok (.iload_n 1, 1) := by decide +kernel
theorem dX12_go_45 : decode cX12_go 45 = .ok (.if_icmp .ge 15, 3) := by decide +kernel
theorem dX12_go_48 : decode cX12_go 48 = .ok (.aload_n 0, 1) := by decide +kernel
theorem dX12_go_49 : decode cX12_go 49 = .ok (.iconst 0, 1) := by decide +kernel
theorem dX12_go_50 : decode cX12_go 50 = .ok (.iconst 1, 1) := by decide +kernel
theorem dX12_go_51 : decode cX12_go 51 = .ok (.invokevirtual 401, 3) := by decide +kernel
theorem dX12_go_54 : decode cX12_go 54 = .ok (.iinc 2 1, 3) := by decide +kernel
theorem dX12_go_57 : decode cX12_go 57 = .ok (.goto (-14), 3) := by decide +kernel
theorem dX12_go_60 : decode cX12_go 60 = .ok (.aload_n 0, 1) := by decide +kernel
theorem dX12_go_61 : decode cX12_go 61 = .ok (.getfield 66, 3) := by decide +kernel
theorem dX12_go_64 : decode cX12_go 64 = .ok (.iconst 0, 1) := by decide +kernel
theorem dX12_go_65 : decode cX12_go 65 = .ok (.iaload, 1) := by decide +kernel
theorem dX12_go_66 : decode cX12_go 66 = .ok (.ireturn, 1) := by decide +kernel
theorem dX12_isAhead_0 : decode cX12_isAhead 0 = .ok (.iload_n 0, 1) := by decide +kernel
theorem dX12_isAhead_1 : decode cX12_isAhead 1 = .ok (.ifCond .lt 14, 3) := by decide +kernel
theorem dX12_isAhead_4 : decode cX12_isAhead 4 = .ok (.iload_n 0, 1) := by decide +kernel
theorem dX12_isAhead_5 : decode cX12_isAhead 5 = .ok (.sipush 200, 3) := by decide +kernel
theorem dX12_isAhead_8 : decode cX12_isAhead 8 = .ok (.if_icmp .gt 7, 3) := by decide +kernel
theorem dX12_isAhead_11 : decode cX12_isAhead 11 = .ok (.iconst 1, 1) := by decide +kernel
theorem dX12_isAhead_12 : decode cX12_isAhead 12 = .ok (.goto 4, 3) := by decide +kernel
theorem dX12_isAhead_15 : decode cX12_isAhead 15 = .ok (.iconst 0, 1) := by decide +kernel
theorem dX12_isAhead_16 : decode cX12_isAhead 16 = .ok (.ireturn, 1) := by decide +kernel
theorem dX12_lengthsIn_0 : decode cX12_lengthsIn 0 = .ok (.iconst 0, 1) := by decide +kernel
theorem dX12_lengthsIn_1 : decode cX12_lengthsIn 1 = .ok (.istore_n 2, 1) := by decide +kernel
theorem dX12_lengthsIn_2 : decode cX12_lengthsIn 2 = .ok (.iconst 0, 1) := by decide +kernel
theorem dX12_lengthsIn_3 : decode cX12_lengthsIn 3 = .ok (.istore_n 3, 1) := by decide +kernel
theorem dX12_lengthsIn_4 : decode cX12_lengthsIn 4 = .ok (.iload_n 3, 1) := by decide +kernel
theorem dX12_lengthsIn_5 : decode cX12_lengthsIn 5 = .ok (.iload_n 1, 1) := by decide +kernel
theorem dX12_lengthsIn_6 : decode cX12_lengthsIn 6 = .ok (.if_icmp .ge 38, 3) := by decide +kernel
theorem dX12_lengthsIn_9 : decode cX12_lengthsIn 9 = .ok (.aload_n 0, 1) := by decide +kernel
theorem dX12_lengthsIn_10 : decode cX12_lengthsIn 10 = .ok (.iconst 1, 1) := by decide +kernel
theorem dX12_lengthsIn_11 : decode cX12_lengthsIn 11 = .ok (.iconst 0, 1) := by decide +kernel
theorem dX12_lengthsIn_12 : decode cX12_lengthsIn 12 = .ok (.invokevirtual 401, 3) := by decide +kernel
theorem dX12_lengthsIn_15 : decode cX12_lengthsIn 15 = .ok (.iload_n 2, 1) := by decide +kernel
theorem dX12_lengthsIn_16 : decode cX12_lengthsIn 16 = .ok (.aload_n 0, 1) := by decide +kernel
theorem dX12_lengthsIn_17 : decode cX12_lengthsIn 17 = .ok (.getfield 87, 3) := by decide +kernel
theorem dX12_lengthsIn_20 : decode cX12_lengthsIn 20 = .ok (.iconst 1, 1) := by decide +kernel
theorem dX12_lengthsIn_21 : decode cX12_lengthsIn 21 = .ok (.iaload, 1) := by decide +kernel
theorem dX12_lengthsIn_22 : decode cX12_lengthsIn 22 = .ok (.iconst (-1), 1) := by decide +kernel
theorem dX12_lengthsIn_23 : decode cX12_lengthsIn 23 = .ok (.if_icmp .ne 7, 3) := by decide +kernel
theorem dX12_lengthsIn_26 : decode cX12_lengthsIn 26 = .ok (.iconst 0, 1) := by decide +kernel
theorem dX12_lengthsIn_27 : decode cX12_lengthsIn 27 = .ok (.goto 9, 3) := by decide +kernel
theorem dX12_lengthsIn_30 : decode cX12_lengthsIn 30 = .ok (.aload_n 0, 1) := by decide +kernel
theorem dX12_lengthsIn_31 : decode cX12_lengthsIn 31 = .ok (.getfield 84, 3) := by decide +kernel
theorem dX12_lengthsIn_34 : decode cX12_lengthsIn 34 = .ok (.iconst 1, 1) := by decide +kernel
theorem dX12_lengthsIn_35 : decode cX12_lengthsIn 35 = .ok (.iaload, 1) := by decide +kernel
theorem dX12_lengthsIn_36 : decode cX12_lengthsIn 36 = .ok (.iadd, 1) := by decide +kernel
theorem dX12_lengthsIn_37 : decode cX12_lengthsIn 37 = .ok (.istore_n 2, 1) := by decide +kernel
theorem dX12_lengthsIn_38 : decode cX12_lengthsIn 38 = .ok (.iinc 3 1, 3) := by decide +kernel
theorem dX12_lengthsIn_41 : decode cX12_lengthsIn 41 = .ok (.goto (-37), 3) := by decide +kernel
theorem dX12_lengthsIn_44 : decode cX12_lengthsIn 44 = .ok (.iload_n 2, 1) := by decide +kernel
theorem dX12_lengthsIn_45 : decode cX12_lengthsIn 45 = .ok (.ireturn, 1) := by decide +kernel
theorem dX12_ahead_0 : decode cX12_ahead 0 = .ok (.aload_n 0, 1) := by decide +kernel
theorem dX12_ahead_1 : decode cX12_ahead 1 = .ok (.iconst 0, 1) := by decide +kernel
theorem dX12_ahead_2 : decode cX12_ahead 2 = .ok (.putfield 151, 3) := by decide +kernel
theorem dX12_ahead_5 : decode cX12_ahead 5 = .ok (.iload_n 1, 1) := by decide +kernel
theorem dX12_ahead_6 : decode cX12_ahead 6 = .ok (.invokestatic 427, 3) := by decide +kernel
theorem dX12_ahead_9 : decode cX12_ahead 9 = .ok (.ifCond .eq 25, 3) := by decide +kernel
theorem dX12_ahead_12 : decode cX12_ahead 12 = .ok (.iload_n 2, 1) := by decide +kernel
theorem dX12_ahead_13 : decode cX12_ahead 13 = .ok (.ifCond .lt 21, 3) := by decide +kernel
theorem dX12_ahead_16 : decode cX12_ahead 16 = .ok (.iload_n 2, 1) := by decide +kernel
theorem dX12_ahead_17 : decode cX12_ahead 17 = .ok (.iconst 4, 1) := by decide +kernel
theorem dX12_ahead_18 : decode cX12_ahead 18 = .ok (.if_icmp .gt 16, 3) := by decide +kernel
theorem dX12_ahead_21 : decode cX12_ahead 21 = .ok (.iload_n 2, 1) := by decide +kernel
theorem dX12_ahead_22 : decode cX12_ahead 22 = .ok (.iconst 1, 1) := by decide +kernel
theorem dX12_ahead_23 : decode cX12_ahead 23 = .ok (.if_icmp .ne 13, 3) := by decide +kernel
theorem dX12_ahead_26 : decode cX12_ahead 26 = .ok (.aload_n 0, 1) := by decide +kernel
theorem dX12_ahead_27 : decode cX12_ahead 27 = .ok (.iload_n 3, 1) := by decide +kernel
theorem dX12_ahead_28 : decode cX12_ahead 28 = .ok (.invokevirtual 405, 3) := by decide +kernel
theorem dX12_ahead_31 : decode cX12_ahead 31 = .ok (.ifCond .ne 5, 3) := by decide +kernel
theorem dX12_ahead_34 : decode cX12_ahead 34 = .ok (.iconst (-1), 1) := by decide +kernel
theorem dX12_ahead_35 : decode cX12_ahead 35 = .ok (.ireturn, 1) := by decide +kernel
theorem dX12_ahead_36 : decode cX12_ahead 36 = .ok (.aload_n 0, 1) := by decide +kernel
theorem dX12_ahead_37 : decode cX12_ahead 37 = .ok (.iconst 1, 1) := by decide +kernel
theorem dX12_ahead_38 : decode cX12_ahead 38 = .ok (.iconst 0, 1) := by decide +kernel
theorem dX12_ahead_39 : decode cX12_ahead 39 = .ok (.invokevirtual 421, 3) := by decide +kernel
theorem dX12_ahead_42 : decode cX12_ahead 42 = .ok (.aload_n 0, 1) := by decide +kernel
theorem dX12_ahead_43 : decode cX12_ahead 43 = .ok (.iload_n 1, 1) := by decide +kernel
theorem dX12_ahead_44 : decode cX12_ahead 44 = .ok (.invokevirtual 430, 3) := by decide +kernel
theorem dX12_ahead_47 : decode cX12_ahead 47 = .ok (.istore 4, 2) := by decide +kernel
theorem dX12_ahead_49 : decode cX12_ahead 49 = .ok (.iload_n 2, 1) := by decide +kernel
theorem dX12_ahead_50 : decode cX12_ahead 50 = .ok (.tableswitch 74 0 3 #[30, 36, 46, 60], 30) := by decide +kernel
theorem dX12_ahead_80 : decode cX12_ahead 80 = .ok (.aload_n 0, 1) := by decide +kernel
theorem dX12_ahead_81 : decode cX12_ahead 81 = .ok (.iconst 1, 1) := by decide +kernel
theorem dX12_ahead_82 : decode cX12_ahead 82 = .ok (.invokevirtual 350, 3) := by decide +kernel
theorem dX12_ahead_85 : decode cX12_ahead 85 = .ok (.ireturn, 1) := by decide +kernel
theorem dX12_ahead_86 : decode cX12_ahead 86 = .ok (.aload_n 0, 1) := by decide +kernel
theorem dX12_ahead_87 : decode cX12_ahead 87 = .ok (.getfield 90, 3) := by decide +kernel
theorem dX12_ahead_90 : decode cX12_ahead 90 = .ok (.bipush 6, 2) := by decide +kernel
theorem dX12_ahead_92 : decode cX12_ahead 92 = .ok (.iload_n 3, 1) := by decide +kernel
theorem dX12_ahead_93 : decode cX12_ahead 93 = .ok (.iadd, 1) := by decide +kernel
theorem dX12_ahead_94 : decode cX12_ahead 94 = .ok (.iaload, 1) := by decide +kernel
theorem dX12_ahead_95 : decode cX12_ahead 95 = .ok (.ireturn, 1) := by decide +kernel
theorem dX12_ahead_96 : decode cX12_ahead 96 = .ok (.aload_n 0, 1) := by decide +kernel
theorem dX12_ahead_97 : decode cX12_ahead 97 = .ok (.getfield 81, 3) := by decide +kernel
theorem dX12_ahead_100 : decode cX12_ahead 100 = .ok (.iconst 1, 1) := by decide +kernel
theorem dX12_ahead_101 : decode cX12_ahead 101 = .ok (.iaload, 1) := by decide +kernel
theorem dX12_ahead_102 : decode cX12_ahead 102 = .ok (.aload_n 0, 1) := by decide +kernel
theorem dX12_ahead_103 : decode cX12_ahead 103 = .ok (.getfield 81, 3) := by decide +kernel
theorem dX12_ahead_106 : decode cX12_ahead 106 = .ok (.iconst 0, 1) := by decide +kernel
theorem dX12_ahead_107 : decode cX12_ahead 107 = .ok (.iaload, 1) := by decide +kernel
theorem dX12_ahead_108 : decode cX12_ahead 108 = .ok (.isub, 1) := by decide +kernel
theorem dX12_ahead_109 : decode cX12_ahead 109 = .ok (.ireturn, 1) := by decide +kernel
theorem dX12_ahead_110 : decode cX12_ahead 110 = .ok (.aload_n 0, 1) := by decide +kernel
theorem dX12_ahead_111 : decode cX12_ahead 111 = .ok (.getfield 78, 3) := by decide +kernel
theorem dX12_ahead_114 : decode cX12_ahead 114 = .ok (.iconst 1, 1) := by decide +kernel
theorem dX12_ahead_115 : decode cX12_ahead 115 = .ok (.iaload, 1) := by decide +kernel
theorem dX12_ahead_116 : decode cX12_ahead 116 = .ok (.aload_n 0, 1) := by decide +kernel
theorem dX12_ahead_117 : decode cX12_ahead 117 = .ok (.getfield 78, 3) := by decide +kernel
theorem dX12_ahead_120 : decode cX12_ahead 120 = .ok (.iconst 0, 1) := by decide +kernel
theorem dX12_ahead_121 : decode cX12_ahead 121 = .ok (.iaload, 1) := by decide +kernel
theorem dX12_ahead_122 : decode cX12_ahead 122 = .ok (.isub, 1) := by decide +kernel
theorem dX12_ahead_123 : decode cX12_ahead 123 = .ok (.ireturn, 1) := by decide +kernel
theorem dX12_ahead_124 : decode cX12_ahead 124 = .ok (.iload 4, 2) := by decide +kernel
theorem dX12_ahead_126 : decode cX12_ahead 126 = .ok (.ireturn, 1) := by decide +kernel
theorem dX12_opener_0 : decode cX12_opener 0 = .ok (.aload_n 0, 1) := by decide +kernel
theorem dX12_opener_1 : decode cX12_opener 1 = .ok (.iconst 0, 1) := by decide +kernel
theorem dX12_opener_2 : decode cX12_opener 2 = .ok (.putfield 151, 3) := by decide +kernel
theorem dX12_opener_5 : decode cX12_opener 5 = .ok (.iload_n 1, 1) := by decide +kernel
theorem dX12_opener_6 : decode cX12_opener 6 = .ok (.invokestatic 427, 3) := by decide +kernel
theorem dX12_opener_9 : decode cX12_opener 9 = .ok (.ifCond .ne 5, 3) := by decide +kernel
theorem dX12_opener_12 : decode cX12_opener 12 = .ok (.iconst (-1), 1) := by decide +kernel
theorem dX12_opener_13 : decode cX12_opener 13 = .ok (.ireturn, 1) := by decide +kernel
theorem dX12_opener_14 : decode cX12_opener 14 = .ok (.aload_n 0, 1) := by decide +kernel
theorem dX12_opener_15 : decode cX12_opener 15 = .ok (.iconst 1, 1) := by decide +kernel
theorem dX12_opener_16 : decode cX12_opener 16 = .ok (.iconst 0, 1) := by decide +kernel
theorem dX12_opener_17 : decode cX12_opener 17 = .ok (.invokevirtual 421, 3) := by decide +kernel
theorem dX12_opener_20 : decode cX12_opener 20 = .ok (.aload_n 0, 1) := by decide +kernel
theorem dX12_opener_21 : decode cX12_opener 21 = .ok (.iload_n 1, 1) := by decide +kernel
theorem dX12_opener_22 : decode cX12_opener 22 = .ok (.iconst 1, 1) := by decide +kernel
theorem dX12_opener_23 : decode cX12_opener 23 = .ok (.iadd, 1) := by decide +kernel
theorem dX12_opener_24 : decode cX12_opener 24 = .ok (.invokevirtual 433, 3) := by decide +kernel
theorem dX12_opener_27 : decode cX12_opener 27 = .ok (.aload_n 0, 1) := by decide +kernel
theorem dX12_opener_28 : decode cX12_opener 28 = .ok (.getfield 87, 3) := by decide +kernel
theorem dX12_opener_31 : decode cX12_opener 31 = .ok (.iconst 1, 1) := by decide +kernel
theorem dX12_opener_32 : decode cX12_opener 32 = .ok (.iaload, 1) := by decide +kernel
theorem dX12_opener_33 : decode cX12_opener 33 = .ok (.iconst (-1), 1) := by decide +kernel
theorem dX12_opener_34 : decode cX12_opener 34 = .ok (.if_icmp .ne 8, 3) := by decide +kernel
theorem dX12_opener_37 : decode cX12_opener 37 = .ok (.bipush (-2), 2) := by decide +kernel
theorem dX12_opener_39 : decode cX12_opener 39 = .ok (.goto 9, 3) := by decide +kernel
theorem dX12_opener_42 : decode cX12_opener 42 = .ok (.aload_n 0, 1) := by decide +kernel
theorem dX12_opener_43 : decode cX12_opener 43 = .ok (.getfield 87, 3) := by decide +kernel
theorem dX12_opener_46 : decode cX12_opener 46 = .ok (.iconst 1, 1) := by decide +kernel
theorem dX12_opener_47 : decode cX12_opener 47 = .ok (.iaload, 1) := by decide +kernel
theorem dX12_opener_48 : decode cX12_opener 48 = .ok (.ireturn, 1) := by decide +kernel
theorem dX12_longAt_0 : decode cX12_longAt 0 = .ok (.aload_n 0, 1) := by decide +kernel
theorem dX12_longAt_1 : decode cX12_longAt 1 = .ok (.iconst 0, 1) := by decide +kernel
theorem dX12_longAt_2 : decode cX12_longAt 2 = .ok (.putfield 151, 3) := by decide +kernel
theorem dX12_longAt_5 : decode cX12_longAt 5 = .ok (.iload_n 1, 1) := by decide +kernel
theorem dX12_longAt_6 : decode cX12_longAt 6 = .ok (.invokestatic 427, 3) := by decide +kernel
theorem dX12_longAt_9 : decode cX12_longAt 9 = .ok (.ifCond .ne 5, 3) := by decide +kernel
theorem dX12_longAt_12 : decode cX12_longAt 12 = .ok (.iconst (-1), 1) := by decide +kernel
theorem dX12_longAt_13 : decode cX12_longAt 13 = .ok (.ireturn, 1) := by decide +kernel
theorem dX12_longAt_14 : decode cX12_longAt 14 = .ok (.aload_n 0, 1) := by decide +kernel
theorem dX12_longAt_15 : decode cX12_longAt 15 = .ok (.iconst 1, 1) := by decide +kernel
theorem dX12_longAt_16 : decode cX12_longAt 16 = .ok (.iconst 0, 1) := by decide +kernel
theorem dX12_longAt_17 : decode cX12_longAt 17 = .ok (.invokevirtual 421, 3) := by decide +kernel
theorem dX12_longAt_20 : decode cX12_longAt 20 = .ok (.aload_n 0, 1) := by decide +kernel
theorem dX12_longAt_21 : decode cX12_longAt 21 = .ok (.iload_n 1, 1) := by decide +kernel
theorem dX12_longAt_22 : decode cX12_longAt 22 = .ok (.iconst 1, 1) := by decide +kernel
theorem dX12_longAt_23 : decode cX12_longAt 23 = .ok (.iadd, 1) := by decide +kernel
theorem dX12_longAt_24 : decode cX12_longAt 24 = .ok (.invokevirtual 433, 3) := by decide +kernel
theorem dX12_longAt_27 : decode cX12_longAt 27 = .ok (.aload_n 0, 1) := by decide +kernel
theorem dX12_longAt_28 : decode cX12_longAt 28 = .ok (.getfield 87, 3) := by decide +kernel
theorem dX12_longAt_31 : decode cX12_longAt 31 = .ok (.iconst 1, 1) := by decide +kernel
theorem dX12_longAt_32 : decode cX12_longAt 32 = .ok (.iaload, 1) := by decide +kernel
theorem dX12_longAt_33 : decode cX12_longAt 33 = .ok (.iconst (-1), 1) := by decide +kernel
theorem dX12_longAt_34 : decode cX12_longAt 34 = .ok (.if_icmp .ne 8, 3) := by decide +kernel
theorem dX12_longAt_37 : decode cX12_longAt 37 = .ok (.bipush (-2), 2) := by decide +kernel
theorem dX12_longAt_39 : decode cX12_longAt 39 = .ok (.goto 9, 3) := by decide +kernel
theorem dX12_longAt_42 : decode cX12_longAt 42 = .ok (.aload_n 0, 1) := by decide +kernel
theorem dX12_longAt_43 : decode cX12_longAt 43 = .ok (.getfield 84, 3) := by decide +kernel
theorem dX12_longAt_46 : decode cX12_longAt 46 = .ok (.iconst 1, 1) := by decide +kernel
theorem dX12_longAt_47 : decode cX12_longAt 47 = .ok (.iaload, 1) := by decide +kernel
theorem dX12_longAt_48 : decode cX12_longAt 48 = .ok (.ireturn, 1) := by decide +kernel
theorem dX12_doneWhen_0 : decode cX12_doneWhen 0 = .ok (.aload_n 0, 1) := by decide +kernel
theorem dX12_doneWhen_1 : decode cX12_doneWhen 1 = .ok (.iconst 0, 1) := by decide +kernel
theorem dX12_doneWhen_2 : decode cX12_doneWhen 2 = .ok (.putfield 151, 3) := by decide +kernel
theorem dX12_doneWhen_5 : decode cX12_doneWhen 5 = .ok (.aload_n 0, 1) := by decide +kernel
theorem dX12_doneWhen_6 : decode cX12_doneWhen 6 = .ok (.iload_n 1, 1) := by decide +kernel
theorem dX12_doneWhen_7 : decode cX12_doneWhen 7 = .ok (.invokevirtual 414, 3) := by decide +kernel
theorem dX12_doneWhen_10 : decode cX12_doneWhen 10 = .ok (.ifCond .ne 5, 3) := by decide +kernel
theorem dX12_doneWhen_13 : decode cX12_doneWhen 13 = .ok (.iconst (-1), 1) := by decide +kernel
theorem dX12_doneWhen_14 : decode cX12_doneWhen 14 = .ok (.ireturn, 1) := by decide +kernel
theorem dX12_doneWhen_15 : decode cX12_doneWhen 15 = .ok (.aload_n 0, 1) := by decide +kernel
theorem dX12_doneWhen_16 : decode cX12_doneWhen 16 = .ok (.iconst 1, 1) := by decide +kernel
theorem dX12_doneWhen_17 : decode cX12_doneWhen 17 = .ok (.iconst 0, 1) := by decide +kernel
theorem dX12_doneWhen_18 : decode cX12_doneWhen 18 = .ok (.invokevirtual 421, 3) := by decide +kernel
theorem dX12_doneWhen_21 : decode cX12_doneWhen 21 = .ok (.iconst 0, 1) := by decide +kernel
theorem dX12_doneWhen_22 : decode cX12_doneWhen 22 = .ok (.istore_n 2, 1) := by decide +kernel
theorem dX12_doneWhen_23 : decode cX12_doneWhen 23 = .ok (.iload_n 2, 1) := by decide +kernel
theorem dX12_doneWhen_24 : decode cX12_doneWhen 24 = .ok (.sipush 199, 3) := by decide +kernel
theorem dX12_doneWhen_27 : decode cX12_doneWhen 27 = .ok (.if_icmp .gt 26, 3) := by decide +kernel
theorem dX12_doneWhen_30 : decode cX12_doneWhen 30 = .ok (.aload_n 0, 1) := by decide +kernel
theorem dX12_doneWhen_31 : decode cX12_doneWhen 31 = .ok (.iconst 1, 1) := by decide +kernel
theorem dX12_doneWhen_32 : decode cX12_doneWhen 32 = .ok (.iload_n 1, 1) := by decide +kernel
theorem dX12_doneWhen_33 : decode cX12_doneWhen 33 = .ok (.invokevirtual 337, 3) := by decide +kernel
theorem dX12_doneWhen_36 : decode cX12_doneWhen 36 = .ok (.ifCond .eq 5, 3) := by decide +kernel
theorem dX12_doneWhen_39 : decode cX12_doneWhen 39 = .ok (.iload_n 2, 1) := by decide +kernel
theorem dX12_doneWhen_40 : decode cX12_doneWhen 40 = .ok (.ireturn, 1) := by decide +kernel
theorem dX12_doneWhen_41 : decode cX12_doneWhen 41 = .ok (.aload_n 0, 1) := by decide +kernel
theorem dX12_doneWhen_42 : decode cX12_doneWhen 42 = .ok (.iconst 1, 1) := by decide +kernel
theorem dX12_doneWhen_43 : decode cX12_doneWhen 43 = .ok (.iconst 0, 1) := by decide +kernel
theorem dX12_doneWhen_44 : decode cX12_doneWhen 44 = .ok (.invokevirtual 401, 3) := by decide +kernel
theorem dX12_doneWhen_47 : decode cX12_doneWhen 47 = .ok (.iinc 2 1, 3) := by decide +kernel
theorem dX12_doneWhen_50 : decode cX12_doneWhen 50 = .ok (.goto (-27), 3) := by decide +kernel
theorem dX12_doneWhen_53 : decode cX12_doneWhen 53 = .ok (.bipush (-2), 2) := by decide +kernel
theorem dX12_doneWhen_55 : decode cX12_doneWhen 55 = .ok (.ireturn, 1) := by decide +kernel
theorem dX12_soon_0 : decode cX12_soon 0 = .ok (.aload_n 0, 1) := by decide +kernel
theorem dX12_soon_1 : decode cX12_soon 1 = .ok (.iconst 0, 1) := by decide +kernel
theorem dX12_soon_2 : decode cX12_soon 2 = .ok (.putfield 151, 3) := by decide +kernel
theorem dX12_soon_5 : decode cX12_soon 5 = .ok (.aload_n 0, 1) := by decide +kernel
theorem dX12_soon_6 : decode cX12_soon 6 = .ok (.iload_n 1, 1) := by decide +kernel
theorem dX12_soon_7 : decode cX12_soon 7 = .ok (.invokevirtual 405, 3) := by decide +kernel
theorem dX12_soon_10 : decode cX12_soon 10 = .ok (.ifCond .ne 5, 3) := by decide +kernel
theorem dX12_soon_13 : decode cX12_soon 13 = .ok (.iconst (-1), 1) := by decide +kernel
theorem dX12_soon_14 : decode cX12_soon 14 = .ok (.ireturn, 1) := by decide +kernel
theorem dX12_soon_15 : decode cX12_soon 15 = .ok (.aload_n 0, 1) := by decide +kernel
theorem dX12_soon_16 : decode cX12_soon 16 = .ok (.iconst 1, 1) := by decide +kernel
theorem dX12_soon_17 : decode cX12_soon 17 = .ok (.iconst 0, 1) := by decide +kernel
theorem dX12_soon_18 : decode cX12_soon 18 = .ok (.invokevirtual 421, 3) := by decide +kernel
theorem dX12_soon_21 : decode cX12_soon 21 = .ok (.iconst 1, 1) := by decide +kernel
theorem dX12_soon_22 : decode cX12_soon 22 = .ok (.istore_n 2, 1) := by decide +kernel
theorem dX12_soon_23 : decode cX12_soon 23 = .ok (.iload_n 2, 1) := by decide +kernel
theorem dX12_soon_24 : decode cX12_soon 24 = .ok (.sipush 199, 3) := by decide +kernel
theorem dX12_soon_27 : decode cX12_soon 27 = .ok (.if_icmp .gt 27, 3) := by decide +kernel
theorem dX12_soon_30 : decode cX12_soon 30 = .ok (.aload_n 0, 1) := by decide +kernel
theorem dX12_soon_31 : decode cX12_soon 31 = .ok (.iconst 1, 1) := by decide +kernel
theorem dX12_soon_32 : decode cX12_soon 32 = .ok (.iconst 0, 1) := by decide +kernel
theorem dX12_soon_33 : decode cX12_soon 33 = .ok (.invokevirtual 401, 3) := by decide +kernel
theorem dX12_soon_36 : decode cX12_soon 36 = .ok (.aload_n 0, 1) := by decide +kernel
theorem dX12_soon_37 : decode cX12_soon 37 = .ok (.getfield 87, 3) := by decide +kernel
theorem dX12_soon_40 : decode cX12_soon 40 = .ok (.iconst 1, 1) := by decide +kernel
theorem dX12_soon_41 : decode cX12_soon 41 = .ok (.iaload, 1) := by decide +kernel
theorem dX12_soon_42 : decode cX12_soon 42 = .ok (.iload_n 1, 1) := by decide +kernel
theorem dX12_soon_43 : decode cX12_soon 43 = .ok (.if_icmp .ne 5, 3) := by decide +kernel
theorem dX12_soon_46 : decode cX12_soon 46 = .ok (.iload_n 2, 1) := by decide +kernel
theorem dX12_soon_47 : decode cX12_soon 47 = .ok (.ireturn, 1) := by decide +kernel
theorem dX12_soon_48 : decode cX12_soon 48 = .ok (.iinc 2 1, 3) := by decide +kernel
theorem dX12_soon_51 : decode cX12_soon 51 = .ok (.goto (-28), 3) := by decide +kernel
theorem dX12_soon_54 : decode cX12_soon 54 = .ok (.bipush (-2), 2) := by decide +kernel
theorem dX12_soon_56 : decode cX12_soon 56 = .ok (.ireturn, 1) := by decide +kernel
theorem dX12_out_0 : decode cX12_out 0 = .ok (.aload_n 0, 1) := by decide +kernel
theorem dX12_out_1 : decode cX12_out 1 = .ok (.iconst 0, 1) := by decide +kernel
theorem dX12_out_2 : decode cX12_out 2 = .ok (.putfield 151, 3) := by decide +kernel
theorem dX12_out_5 : decode cX12_out 5 = .ok (.aload_n 0, 1) := by decide +kernel
theorem dX12_out_6 : decode cX12_out 6 = .ok (.iload_n 1, 1) := by decide +kernel
theorem dX12_out_7 : decode cX12_out 7 = .ok (.invokevirtual 405, 3) := by decide +kernel
theorem dX12_out_10 : decode cX12_out 10 = .ok (.ifCond .ne 5, 3) := by decide +kernel
theorem dX12_out_13 : decode cX12_out 13 = .ok (.iconst (-1), 1) := by decide +kernel
theorem dX12_out_14 : decode cX12_out 14 = .ok (.ireturn, 1) := by decide +kernel
theorem dX12_out_15 : decode cX12_out 15 = .ok (.aload_n 0, 1) := by decide +kernel
theorem dX12_out_16 : decode cX12_out 16 = .ok (.iconst 1, 1) := by decide +kernel
theorem dX12_out_17 : decode cX12_out 17 = .ok (.iconst 0, 1) := by decide +kernel
theorem dX12_out_18 : decode cX12_out 18 = .ok (.invokevirtual 421, 3) := by decide +kernel
theorem dX12_out_21 : decode cX12_out 21 = .ok (.iconst 0, 1) := by decide +kernel
theorem dX12_out_22 : decode cX12_out 22 = .ok (.istore_n 2, 1) := by decide +kernel
theorem dX12_out_23 : decode cX12_out 23 = .ok (.iconst 0, 1) := by decide +kernel
theorem dX12_out_24 : decode cX12_out 24 = .ok (.istore_n 3, 1) := by decide +kernel
theorem dX12_out_25 : decode cX12_out 25 = .ok (.iconst 0, 1) := by decide +kernel
theorem dX12_out_26 : decode cX12_out 26 = .ok (.istore 4, 2) := by decide +kernel
theorem dX12_out_28 : decode cX12_out 28 = .ok (.iload 4, 2) := by decide +kernel
theorem dX12_out_30 : decode cX12_out 30 = .ok (.bipush 60, 2) := by decide +kernel
theorem dX12_out_32 : decode cX12_out 32 = .ok (.if_icmp .ge 39, 3) := by decide +kernel
theorem dX12_out_35 : decode cX12_out 35 = .ok (.aload_n 0, 1) := by decide +kernel
theorem dX12_out_36 : decode cX12_out 36 = .ok (.iconst 1, 1) := by decide +kernel
theorem dX12_out_37 : decode cX12_out 37 = .ok (.iconst 0, 1) := by decide +kernel
theorem dX12_out_38 : decode cX12_out 38 = .ok (.invokevirtual 401, 3) := by decide +kernel
theorem dX12_out_41 : decode cX12_out 41 = .ok (.aload_n 0, 1) := by decide +kernel
theorem dX12_out_42 : decode cX12_out 42 = .ok (.getfield 87, 3) := by decide +kernel
theorem dX12_out_45 : decode cX12_out 45 = .ok (.iconst 1, 1) := by decide +kernel
theorem dX12_out_46 : decode cX12_out 46 = .ok (.iaload, 1) := by decide +kernel
theorem dX12_out_47 : decode cX12_out 47 = .ok (.iload_n 1, 1) := by decide +kernel
theorem dX12_out_48 : decode cX12_out 48 = .ok (.if_icmp .ne 7, 3) := by decide +kernel
theorem dX12_out_51 : decode cX12_out 51 = .ok (.iconst 0, 1) := by decide +kernel
theorem dX12_out_52 : decode cX12_out 52 = .ok (.goto 6, 3) := by decide +kernel
theorem dX12_out_55 : decode cX12_out 55 = .ok (.iload_n 2, 1) := by decide +kernel
theorem dX12_out_56 : decode cX12_out 56 = .ok (.iconst 1, 1) := by decide +kernel
theorem dX12_out_57 : decode cX12_out 57 = .ok (.iadd, 1) := by decide +kernel
theorem dX12_out_58 : decode cX12_out 58 = .ok (.istore_n 2, 1) := by decide +kernel
theorem dX12_out_59 : decode cX12_out 59 = .ok (.iload_n 3, 1) := by decide +kernel
theorem dX12_out_60 : decode cX12_out 60 = .ok (.iload_n 2, 1) := by decide +kernel
theorem dX12_out_61 : decode cX12_out 61 = .ok (.invokestatic 393, 3) := by decide +kernel
theorem dX12_out_64 : decode cX12_out 64 = .ok (.istore_n 3, 1) := by decide +kernel
theorem dX12_out_65 : decode cX12_out 65 = .ok (.iinc 4 1, 3) := by decide +kernel
theorem dX12_out_68 : decode cX12_out 68 = .ok (.goto (-40), 3) := by decide +kernel
theorem dX12_out_71 : decode cX12_out 71 = .ok (.iload_n 3, 1) := by decide +kernel
theorem dX12_out_72 : decode cX12_out 72 = .ok (.ireturn, 1) := by decide +kernel
theorem dX12_missing_0 : decode cX12_missing 0 = .ok (.aload_n 0, 1) := by decide +kernel
theorem dX12_missing_1 : decode cX12_missing 1 = .ok (.iconst 0, 1) := by decide +kernel
theorem dX12_missing_2 : decode cX12_missing 2 = .ok (.putfield 151, 3) := by decide +kernel
theorem dX12_missing_5 : decode cX12_missing 5 = .ok (.iload_n 1, 1) := by decide +kernel
theorem dX12_missing_6 : decode cX12_missing 6 = .ok (.invokestatic 427, 3) := by decide +kernel
theorem dX12_missing_9 : decode cX12_missing 9 = .ok (.ifCond .ne 5, 3) := by decide +kernel
theorem dX12_missing_12 : decode cX12_missing 12 = .ok (.iconst (-1), 1) := by decide +kernel
theorem dX12_missing_13 : decode cX12_missing 13 = .ok (.ireturn, 1) := by decide +kernel
theorem dX12_missing_14 : decode cX12_missing 14 = .ok (.aload_n 0, 1) := by decide +kernel
theorem dX12_missing_15 : decode cX12_missing 15 = .ok (.iconst 1, 1) := by decide +kernel
theorem dX12_missing_16 : decode cX12_missing 16 = .ok (.iconst 0, 1) := by decide +kernel
theorem dX12_missing_17 : decode cX12_missing 17 = .ok (.invokevirtual 421, 3) := by decide +kernel
theorem dX12_missing_20 : decode cX12_missing 20 = .ok (.aload_n 0, 1) := by decide +kernel
theorem dX12_missing_21 : decode cX12_missing 21 = .ok (.iload_n 1, 1) := by decide +kernel
theorem dX12_missing_22 : decode cX12_missing 22 = .ok (.invokevirtual 433, 3) := by decide +kernel
theorem dX12_missing_25 : decode cX12_missing 25 = .ok (.aload_n 0, 1) := by decide +kernel
theorem dX12_missing_26 : decode cX12_missing 26 = .ok (.getfield 81, 3) := by decide +kernel
theorem dX12_missing_29 : decode cX12_missing 29 = .ok (.iconst 1, 1) := by decide +kernel
theorem dX12_missing_30 : decode cX12_missing 30 = .ok (.iaload, 1) := by decide +kernel
theorem dX12_missing_31 : decode cX12_missing 31 = .ok (.aload_n 0, 1) := by decide +kernel
theorem dX12_missing_32 : decode cX12_missing 32 = .ok (.getfield 81, 3) := by decide +kernel
theorem dX12_missing_35 : decode cX12_missing 35 = .ok (.iconst 0, 1) := by decide +kernel
theorem dX12_missing_36 : decode cX12_missing 36 = .ok (.iaload, 1) := by decide +kernel
theorem dX12_missing_37 : decode cX12_missing 37 = .ok (.isub, 1) := by decide +kernel
theorem dX12_missing_38 : decode cX12_missing 38 = .ok (.ireturn, 1) := by decide +kernel
theorem dX12_doesAll_0 : decode cX12_doesAll 0 = .ok (.iconst 0, 1) := by decide +kernel
theorem dX12_doesAll_1 : decode cX12_doesAll 1 = .ok (.istore_n 1, 1) := by decide +kernel
theorem dX12_doesAll_2 : decode cX12_doesAll 2 = .ok (.iload_n 1, 1) := by decide +kernel
theorem dX12_doesAll_3 : decode cX12_doesAll 3 = .ok (.aload_n 0, 1) := by decide +kernel
theorem dX12_doesAll_4 : decode cX12_doesAll 4 = .ok (.getfield 13, 3) := by decide +kernel
theorem dX12_doesAll_7 : decode cX12_doesAll 7 = .ok (.iconst 3, 1) := by decide +kernel
theorem dX12_doesAll_8 : decode cX12_doesAll 8 = .ok (.iaload, 1) := by decide +kernel
theorem dX12_doesAll_9 : decode cX12_doesAll 9 = .ok (.if_icmp .ge 90, 3) := by decide +kernel
theorem dX12_doesAll_12 : decode cX12_doesAll 12 = .ok (.aload_n 0, 1) := by decide +kernel
theorem dX12_doesAll_13 : decode cX12_doesAll 13 = .ok (.getfield 40, 3) := by decide +kernel
theorem dX12_doesAll_16 : decode cX12_doesAll 16 = .ok (.iload_n 1, 1) := by decide +kernel
theorem dX12_doesAll_17 : decode cX12_doesAll 17 = .ok (.iaload, 1) := by decide +kernel
theorem dX12_doesAll_18 : decode cX12_doesAll 18 = .ok (.aload_n 0, 1) := by decide +kernel
theorem dX12_doesAll_19 : decode cX12_doesAll 19 = .ok (.getfield 99, 3) := by decide +kernel
theorem dX12_doesAll_22 : decode cX12_doesAll 22 = .ok (.iload_n 1, 1) := by decide +kernel
theorem dX12_doesAll_23 : decode cX12_doesAll 23 = .ok (.iaload, 1) := by decide +kernel
theorem dX12_doesAll_24 : decode cX12_doesAll 24 = .ok (.isub, 1) := by decide +kernel
theorem dX12_doesAll_25 : decode cX12_doesAll 25 = .ok (.istore_n 2, 1) := by decide +kernel
theorem dX12_doesAll_26 : decode cX12_doesAll 26 = .ok (.iconst 0, 1) := by decide +kernel
theorem dX12_doesAll_27 : decode cX12_doesAll 27 = .ok (.istore_n 3, 1) := by decide +kernel
theorem dX12_doesAll_28 : decode cX12_doesAll 28 = .ok (.iload_n 3, 1) := by decide +kernel
theorem dX12_doesAll_29 : decode cX12_doesAll 29 = .ok (.aload_n 0, 1) := by decide +kernel
theorem dX12_doesAll_30 : decode cX12_doesAll 30 = .ok (.getfield 13, 3) := by decide +kernel
theorem dX12_doesAll_33 : decode cX12_doesAll 33 = .ok (.iconst 0, 1) := by decide +kernel
theorem dX12_doesAll_34 : decode cX12_doesAll 34 = .ok (.iaload, 1) := by decide +kernel
theorem dX12_doesAll_35 : decode cX12_doesAll 35 = .ok (.if_icmp .ge 52, 3) := by decide +kernel
theorem dX12_doesAll_38 : decode cX12_doesAll 38 = .ok (.iload_n 2, 1) := by decide +kernel
theorem dX12_doesAll_39 : decode cX12_doesAll 39 = .ok (.aload_n 0, 1) := by decide +kernel
theorem dX12_doesAll_40 : decode cX12_doesAll 40 = .ok (.getfield 108, 3) := by decide +kernel
theorem dX12_doesAll_43 : decode cX12_doesAll 43 = .ok (.iload_n 3, 1) := by decide +kernel
theorem dX12_doesAll_44 : decode cX12_doesAll 44 = .ok (.iaload, 1) := by decide +kernel
theorem dX12_doesAll_45 : decode cX12_doesAll 45 = .ok (.aload_n 0, 1) := by decide +kernel
theorem dX12_doesAll_46 : decode cX12_doesAll 46 = .ok (.getfield 34, 3) := by decide +kernel
theorem dX12_doesAll_49 : decode cX12_doesAll 49 = .ok (.iload_n 1, 1) := by decide +kernel
theorem dX12_doesAll_50 : decode cX12_doesAll 50 = .ok (.iaload, 1) := by decide +kernel
theorem dX12_doesAll_51 : decode cX12_doesAll 51 = .ok (.if_icmp .lt 27, 3) := by decide +kernel
theorem dX12_doesAll_54 : decode cX12_doesAll 54 = .ok (.aload_n 0, 1) := by decide +kernel
theorem dX12_doesAll_55 : decode cX12_doesAll 55 = .ok (.getfield 108, 3) := by decide +kernel
theorem dX12_doesAll_58 : decode cX12_doesAll 58 = .ok (.iload_n 3, 1) := by decide +kernel
theorem dX12_doesAll_59 : decode cX12_doesAll 59 = .ok (.iaload, 1) := by decide +kernel
theorem dX12_doesAll_60 : decode cX12_doesAll 60 = .ok (.aload_n 0, 1) := by decide +kernel
theorem dX12_doesAll_61 : decode cX12_doesAll 61 = .ok (.getfield 37, 3) := by decide +kernel
theorem dX12_doesAll_64 : decode cX12_doesAll 64 = .ok (.iload_n 1, 1) := by decide +kernel
theorem dX12_doesAll_65 : decode cX12_doesAll 65 = .ok (.iaload, 1) := by decide +kernel
theorem dX12_doesAll_66 : decode cX12_doesAll 66 = .ok (.if_icmp .gt 12, 3) := by decide +kernel
theorem dX12_doesAll_69 : decode cX12_doesAll 69 = .ok (.aload_n 0, 1) := by decide +kernel
theorem dX12_doesAll_70 : decode cX12_doesAll 70 = .ok (.getfield 111, 3) := by decide +kernel
theorem dX12_doesAll_73 : decode cX12_doesAll 73 = .ok (.iload_n 3, 1) := by decide +kernel
theorem dX12_doesAll_74 : decode cX12_doesAll 74 = .ok (.iaload, 1) := by decide +kernel
theorem dX12_doesAll_75 : decode cX12_doesAll 75 = .ok (.goto 4, 3) := by decide +kernel
theorem dX12_doesAll_78 : decode cX12_doesAll 78 = .ok (.iconst 0, 1) := by decide +kernel
theorem dX12_doesAll_79 : decode cX12_doesAll 79 = .ok (.isub, 1) := by decide +kernel
theorem dX12_doesAll_80 : decode cX12_doesAll 80 = .ok (.istore_n 2, 1) := by decide +kernel
theorem dX12_doesAll_81 : decode cX12_doesAll 81 = .ok (.iinc 3 1, 3) := by decide +kernel
theorem dX12_doesAll_84 : decode cX12_doesAll 84 = .ok (.goto (-56), 3) := by decide +kernel
theorem dX12_doesAll_87 : decode cX12_doesAll 87 = .ok (.iload_n 2, 1) := by decide +kernel
theorem dX12_doesAll_88 : decode cX12_doesAll 88 = .ok (.ifCond .le 5, 3) := by decide +kernel
theorem dX12_doesAll_91 : decode cX12_doesAll 91 = .ok (.iconst 0, 1) := by decide +kernel
theorem dX12_doesAll_92 : decode cX12_doesAll 92 = .ok (.ireturn, 1) := by decide +kernel
theorem dX12_doesAll_93 : decode cX12_doesAll 93 = .ok (.iinc 1 1, 3) := by decide +kernel
theorem dX12_doesAll_96 : decode cX12_doesAll 96 = .ok (.goto (-94), 3) := by decide +kernel
theorem dX12_doesAll_99 : decode cX12_doesAll 99 = .ok (.iconst 1, 1) := by decide +kernel
theorem dX12_doesAll_100 : decode cX12_doesAll 100 = .ok (.ireturn, 1) := by decide +kernel
theorem dX12_gives_0 : decode cX12_gives 0 = .ok (.iload_n 1, 1) := by decide +kernel
theorem dX12_gives_1 : decode cX12_gives 1 = .ok (.aload_n 0, 1) := by decide +kernel
theorem dX12_gives_2 : decode cX12_gives 2 = .ok (.getfield 13, 3) := by decide +kernel
theorem dX12_gives_5 : decode cX12_gives 5 = .ok (.iconst 0, 1) := by decide +kernel
theorem dX12_gives_6 : decode cX12_gives 6 = .ok (.iaload, 1) := by decide +kernel
theorem dX12_gives_7 : decode cX12_gives 7 = .ok (.if_icmp .ne 20, 3) := by decide +kernel
theorem dX12_gives_10 : decode cX12_gives 10 = .ok (.iload_n 2, 1) := by decide +kernel
theorem dX12_gives_11 : decode cX12_gives 11 = .ok (.ifCond .ne 14, 3) := by decide +kernel
theorem dX12_gives_14 : decode cX12_gives 14 = .ok (.aload_n 0, 1) := by decide +kernel
theorem dX12_gives_15 : decode cX12_gives 15 = .ok (.invokevirtual 436, 3) := by decide +kernel
theorem dX12_gives_18 : decode cX12_gives 18 = .ok (.ifCond .eq 7, 3) := by decide +kernel
theorem dX12_gives_21 : decode cX12_gives 21 = .ok (.iconst 1, 1) := by decide +kernel
theorem dX12_gives_22 : decode cX12_gives 22 = .ok (.goto 4, 3) := by decide +kernel
theorem dX12_gives_25 : decode cX12_gives 25 = .ok (.iconst 0, 1) := by decide +kernel
theorem dX12_gives_26 : decode cX12_gives 26 = .ok (.ireturn, 1) := by decide +kernel
theorem dX12_gives_27 : decode cX12_gives 27 = .ok (.iload_n 2, 1) := by decide +kernel
theorem dX12_gives_28 : decode cX12_gives 28 = .ok (.istore_n 3, 1) := by decide +kernel
theorem dX12_gives_29 : decode cX12_gives 29 = .ok (.iload_n 3, 1) := by decide +kernel
theorem dX12_gives_30 : decode cX12_gives 30 = .ok (.ifCond .lt 31, 3) := by decide +kernel
theorem dX12_gives_33 : decode cX12_gives 33 = .ok (.aload_n 0, 1) := by decide +kernel
theorem dX12_gives_34 : decode cX12_gives 34 = .ok (.getfield 111, 3) := by decide +kernel
theorem dX12_gives_37 : decode cX12_gives 37 = .ok (.iload_n 1, 1) := by decide +kernel
theorem dX12_gives_38 : decode cX12_gives 38 = .ok (.iload_n 3, 1) := by decide +kernel
theorem dX12_gives_39 : decode cX12_gives 39 = .ok (.iastore, 1) := by decide +kernel
theorem dX12_gives_40 : decode cX12_gives 40 = .ok (.aload_n 0, 1) := by decide +kernel
theorem dX12_gives_41 : decode cX12_gives 41 = .ok (.iload_n 1, 1) := by decide +kernel
theorem dX12_gives_42 : decode cX12_gives 42 = .ok (.iconst 1, 1) := by decide +kernel
theorem dX12_gives_43 : decode cX12_gives 43 = .ok (.iadd, 1) := by decide +kernel
theorem dX12_gives_44 : decode cX12_gives 44 = .ok (.iload_n 2, 1) := by decide +kernel
theorem dX12_gives_45 : decode cX12_gives 45 = .ok (.iload_n 3, 1) := by decide +kernel
theorem dX12_gives_46 : decode cX12_gives 46 = .ok (.isub, 1) := by decide +kernel
theorem dX12_gives_47 : decode cX12_gives 47 = .ok (.invokevirtual 440, 3) := by decide +kernel
theorem dX12_gives_50 : decode cX12_gives 50 = .ok (.ifCond .eq 5, 3) := by decide +kernel
theorem dX12_gives_53 : decode cX12_gives 53 = .ok (.iconst 1, 1) := by decide +kernel
theorem dX12_gives_54 : decode cX12_gives 54 = .ok (.ireturn, 1) := by decide +kernel
theorem dX12_gives_55 : decode cX12_gives 55 = .ok (.iinc 3 (-1), 3) := by decide +kernel
theorem dX12_gives_58 : decode cX12_gives 58 = .ok (.goto (-29), 3) := by decide +kernel
theorem dX12_gives_61 : decode cX12_gives 61 = .ok (.iconst 0, 1) := by decide +kernel
theorem dX12_gives_62 : decode cX12_gives 62 = .ok (.ireturn, 1) := by decide +kernel
theorem dX12_planned_0 : decode cX12_planned 0 = .ok (.iconst 0, 1) := by decide +kernel
theorem dX12_planned_1 : decode cX12_planned 1 = .ok (.istore_n 1, 1) := by decide +kernel
theorem dX12_planned_2 : decode cX12_planned 2 = .ok (.iload_n 1, 1) := by decide +kernel
theorem dX12_planned_3 : decode cX12_planned 3 = .ok (.aload_n 0, 1) := by decide +kernel
theorem dX12_planned_4 : decode cX12_planned 4 = .ok (.getfield 13, 3) := by decide +kernel
theorem dX12_planned_7 : decode cX12_planned 7 = .ok (.iconst 0, 1) := by decide +kernel
theorem dX12_planned_8 : decode cX12_planned 8 = .ok (.iaload, 1) := by decide +kernel
theorem dX12_planned_9 : decode cX12_planned 9 = .ok (.if_icmp .ge 21, 3) := by decide +kernel
theorem dX12_planned_12 : decode cX12_planned 12 = .ok (.aload_n 0, 1) := by decide +kernel
theorem dX12_planned_13 : decode cX12_planned 13 = .ok (.getfield 108, 3) := by decide +kernel
theorem dX12_planned_16 : decode cX12_planned 16 = .ok (.iload_n 1, 1) := by decide +kernel
theorem dX12_planned_17 : decode cX12_planned 17 = .ok (.aload_n 0, 1) := by decide +kernel
theorem dX12_planned_18 : decode cX12_planned 18 = .ok (.iconst 0, 1) := by decide +kernel
theorem dX12_planned_19 : decode cX12_planned 19 = .ok (.iload_n 1, 1) := by decide +kernel
theorem dX12_planned_20 : decode cX12_planned 20 = .ok (.invokevirtual 388, 3) := by decide +kernel
theorem dX12_planned_23 : decode cX12_planned 23 = .ok (.iastore, 1) := by decide +kernel
theorem dX12_planned_24 : decode cX12_planned 24 = .ok (.iinc 1 1, 3) := by decide +kernel
theorem dX12_planned_27 : decode cX12_planned 27 = .ok (.goto (-25), 3) := by decide +kernel
theorem dX12_planned_30 : decode cX12_planned 30 = .ok (.iconst 0, 1) := by decide +kernel
theorem dX12_planned_31 : decode cX12_planned 31 = .ok (.istore_n 1, 1) := by decide +kernel
theorem dX12_planned_32 : decode cX12_planned 32 = .ok (.iload_n 1, 1) := by decide +kernel
theorem dX12_planned_33 : decode cX12_planned 33 = .ok (.bipush 12, 2) := by decide +kernel
theorem dX12_planned_35 : decode cX12_planned 35 = .ok (.if_icmp .gt 20, 3) := by decide +kernel
theorem dX12_planned_38 : decode cX12_planned 38 = .ok (.aload_n 0, 1) := by decide +kernel
