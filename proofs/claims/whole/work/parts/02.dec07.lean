theorem dX9_nextToken_280 : decode cX9_nextToken 280 = .ok (.bipush 48, 2) := by decide +kernel
theorem dX9_nextToken_282 : decode cX9_nextToken 282 = .ok (.isub, 1) := by decide +kernel
theorem dX9_nextToken_283 : decode cX9_nextToken 283 = .ok (.putfield 131, 3) := by decide +kernel
theorem dX9_nextToken_286 : decode cX9_nextToken 286 = .ok (.aload_n 0, 1) := by decide +kernel
theorem dX9_nextToken_287 : decode cX9_nextToken 287 = .ok (.dup, 1) := by decide +kernel
theorem dX9_nextToken_288 : decode cX9_nextToken 288 = .ok (.getfield 121, 3) := by decide +kernel
theorem dX9_nextToken_291 : decode cX9_nextToken 291 = .ok (.iconst 1, 1) := by decide +kernel
theorem dX9_nextToken_292 : decode cX9_nextToken 292 = .ok (.iadd, 1) := by decide +kernel
theorem dX9_nextToken_293 : decode cX9_nextToken 293 = .ok (.putfield 121, 3) := by decide +kernel
theorem dX9_nextToken_296 : decode cX9_nextToken 296 = .ok (.goto (-72), 3) := by decide +kernel
theorem dX9_nextToken_299 : decode cX9_nextToken 299 = .ok (.aload_n 0, 1) := by decide +kernel
theorem dX9_nextToken_300 : decode cX9_nextToken 300 = .ok (.aload_n 0, 1) := by decide +kernel
theorem dX9_nextToken_301 : decode cX9_nextToken 301 = .ok (.getfield 121, 3) := by decide +kernel
theorem dX9_nextToken_304 : decode cX9_nextToken 304 = .ok (.aload_n 0, 1) := by decide +kernel
theorem dX9_nextToken_305 : decode cX9_nextToken 305 = .ok (.getfield 124, 3) := by decide +kernel
theorem dX9_nextToken_308 : decode cX9_nextToken 308 = .ok (.isub, 1) := by decide +kernel
theorem dX9_nextToken_309 : decode cX9_nextToken 309 = .ok (.iconst 4, 1) := by decide +kernel
theorem dX9_nextToken_310 : decode cX9_nextToken 310 = .ok (.if_icmp .le 7, 3) := by decide +kernel
theorem dX9_nextToken_313 : decode cX9_nextToken 313 = .ok (.iconst 4, 1) := by decide +kernel
theorem dX9_nextToken_314 : decode cX9_nextToken 314 = .ok (.goto 4, 3) := by decide +kernel
theorem dX9_nextToken_317 : decode cX9_nextToken 317 = .ok (.iconst 2, 1) := by decide +kernel
theorem dX9_nextToken_318 : decode cX9_nextToken 318 = .ok (.putfield 134, 3) := by decide +kernel
theorem dX9_nextToken_321 : decode cX9_nextToken 321 = .ok (.return_, 1) := by decide +kernel
theorem dX9_nextToken_322 : decode cX9_nextToken 322 = .ok (.aload_n 0, 1) := by decide +kernel
theorem dX9_nextToken_323 : decode cX9_nextToken 323 = .ok (.dup, 1) := by decide +kernel
theorem dX9_nextToken_324 : decode cX9_nextToken 324 = .ok (.getfield 121, 3) := by decide +kernel
theorem dX9_nextToken_327 : decode cX9_nextToken 327 = .ok (.iconst 1, 1) := by decide +kernel
theorem dX9_nextToken_328 : decode cX9_nextToken 328 = .ok (.iadd, 1) := by decide +kernel
theorem dX9_nextToken_329 : decode cX9_nextToken 329 = .ok (.putfield 121, 3) := by decide +kernel
theorem dX9_nextToken_332 : decode cX9_nextToken 332 = .ok (.aload_n 0, 1) := by decide +kernel
theorem dX9_nextToken_333 : decode cX9_nextToken 333 = .ok (.iload_n 1, 1) := by decide +kernel
theorem dX9_nextToken_334 : decode cX9_nextToken 334 = .ok (.bipush 40, 2) := by decide +kernel
theorem dX9_nextToken_336 : decode cX9_nextToken 336 = .ok (.if_icmp .lt 9, 3) := by decide +kernel
theorem dX9_nextToken_339 : decode cX9_nextToken 339 = .ok (.iload_n 1, 1) := by decide +kernel
theorem dX9_nextToken_340 : decode cX9_nextToken 340 = .ok (.bipush 43, 2) := by decide +kernel
theorem dX9_nextToken_342 : decode cX9_nextToken 342 = .ok (.if_icmp .le 21, 3) := by decide +kernel
theorem dX9_nextToken_345 : decode cX9_nextToken 345 = .ok (.iload_n 1, 1) := by decide +kernel
theorem dX9_nextToken_346 : decode cX9_nextToken 346 = .ok (.bipush 45, 2) := by decide +kernel
theorem dX9_nextToken_348 : decode cX9_nextToken 348 = .ok (.if_icmp .eq 15, 3) := by decide +kernel
theorem dX9_nextToken_351 : decode cX9_nextToken 351 = .ok (.iload_n 1, 1) := by decide +kernel
theorem dX9_nextToken_352 : decode cX9_nextToken 352 = .ok (.bipush 59, 2) := by decide +kernel
theorem dX9_nextToken_354 : decode cX9_nextToken 354 = .ok (.if_icmp .lt 13, 3) := by decide +kernel
theorem dX9_nextToken_357 : decode cX9_nextToken 357 = .ok (.iload_n 1, 1) := by decide +kernel
theorem dX9_nextToken_358 : decode cX9_nextToken 358 = .ok (.bipush 61, 2) := by decide +kernel
theorem dX9_nextToken_360 : decode cX9_nextToken 360 = .ok (.if_icmp .gt 7, 3) := by decide +kernel
theorem dX9_nextToken_363 : decode cX9_nextToken 363 = .ok (.iconst 3, 1) := by decide +kernel
theorem dX9_nextToken_364 : decode cX9_nextToken 364 = .ok (.goto 4, 3) := by decide +kernel
theorem dX9_nextToken_367 : decode cX9_nextToken 367 = .ok (.iconst 4, 1) := by decide +kernel
theorem dX9_nextToken_368 : decode cX9_nextToken 368 = .ok (.putfield 134, 3) := by decide +kernel
theorem dX9_nextToken_371 : decode cX9_nextToken 371 = .ok (.return_, 1) := by decide +kernel
theorem dX9_isWord_0 : decode cX9_isWord 0 = .ok (.aload_n 0, 1) := by decide +kernel
theorem dX9_isWord_1 : decode cX9_isWord 1 = .ok (.getfield 134, 3) := by decide +kernel
theorem dX9_isWord_4 : decode cX9_isWord 4 = .ok (.iconst 1, 1) := by decide +kernel
theorem dX9_isWord_5 : decode cX9_isWord 5 = .ok (.if_icmp .ne 16, 3) := by decide +kernel
theorem dX9_isWord_8 : decode cX9_isWord 8 = .ok (.aload_n 0, 1) := by decide +kernel
theorem dX9_isWord_9 : decode cX9_isWord 9 = .ok (.getfield 127, 3) := by decide +kernel
theorem dX9_isWord_12 : decode cX9_isWord 12 = .ok (.lload_n 1, 1) := by decide +kernel
theorem dX9_isWord_13 : decode cX9_isWord 13 = .ok (.lcmp, 1) := by decide +kernel
theorem dX9_isWord_14 : decode cX9_isWord 14 = .ok (.ifCond .ne 7, 3) := by decide +kernel
theorem dX9_isWord_17 : decode cX9_isWord 17 = .ok (.iconst 1, 1) := by decide +kernel
theorem dX9_isWord_18 : decode cX9_isWord 18 = .ok (.goto 4, 3) := by decide +kernel
theorem dX9_isWord_21 : decode cX9_isWord 21 = .ok (.iconst 0, 1) := by decide +kernel
theorem dX9_isWord_22 : decode cX9_isWord 22 = .ok (.ireturn, 1) := by decide +kernel
theorem dX9_isSign_0 : decode cX9_isSign 0 = .ok (.aload_n 0, 1) := by decide +kernel
theorem dX9_isSign_1 : decode cX9_isSign 1 = .ok (.getfield 134, 3) := by decide +kernel
theorem dX9_isSign_4 : decode cX9_isSign 4 = .ok (.iconst 3, 1) := by decide +kernel
theorem dX9_isSign_5 : decode cX9_isSign 5 = .ok (.if_icmp .ne 20, 3) := by decide +kernel
theorem dX9_isSign_8 : decode cX9_isSign 8 = .ok (.aload_n 0, 1) := by decide +kernel
theorem dX9_isSign_9 : decode cX9_isSign 9 = .ok (.getfield 7, 3) := by decide +kernel
theorem dX9_isSign_12 : decode cX9_isSign 12 = .ok (.aload_n 0, 1) := by decide +kernel
theorem dX9_isSign_13 : decode cX9_isSign 13 = .ok (.getfield 124, 3) := by decide +kernel
theorem dX9_isSign_16 : decode cX9_isSign 16 = .ok (.iaload, 1) := by decide +kernel
theorem dX9_isSign_17 : decode cX9_isSign 17 = .ok (.iload_n 1, 1) := by decide +kernel
theorem dX9_isSign_18 : decode cX9_isSign 18 = .ok (.if_icmp .ne 7, 3) := by decide +kernel
theorem dX9_isSign_21 : decode cX9_isSign 21 = .ok (.iconst 1, 1) := by decide +kernel
theorem dX9_isSign_22 : decode cX9_isSign 22 = .ok (.goto 4, 3) := by decide +kernel
theorem dX9_isSign_25 : decode cX9_isSign 25 = .ok (.iconst 0, 1) := by decide +kernel
theorem dX9_isSign_26 : decode cX9_isSign 26 = .ok (.ireturn, 1) := by decide +kernel
theorem dX9_fails_0 : decode cX9_fails 0 = .ok (.aload_n 0, 1) := by decide +kernel
theorem dX9_fails_1 : decode cX9_fails 1 = .ok (.iload_n 1, 1) := by decide +kernel
theorem dX9_fails_2 : decode cX9_fails 2 = .ok (.bipush 16, 2) := by decide +kernel
theorem dX9_fails_4 : decode cX9_fails 4 = .ok (.aload_n 0, 1) := by decide +kernel
theorem dX9_fails_5 : decode cX9_fails 5 = .ok (.getfield 124, 3) := by decide +kernel
theorem dX9_fails_8 : decode cX9_fails 8 = .ok (.imul, 1) := by decide +kernel
theorem dX9_fails_9 : decode cX9_fails 9 = .ok (.iadd, 1) := by decide +kernel
theorem dX9_fails_10 : decode cX9_fails 10 = .ok (.putfield 145, 3) := by decide +kernel
theorem dX9_fails_13 : decode cX9_fails 13 = .ok (.iconst 0, 1) := by decide +kernel
theorem dX9_fails_14 : decode cX9_fails 14 = .ok (.ireturn, 1) := by decide +kernel
theorem dX9_plain_0 : decode cX9_plain 0 = .ok (.aload_n 0, 1) := by decide +kernel
theorem dX9_plain_1 : decode cX9_plain 1 = .ok (.getfield 13, 3) := by decide +kernel
theorem dX9_plain_4 : decode cX9_plain 4 = .ok (.iconst 5, 1) := by decide +kernel
theorem dX9_plain_5 : decode cX9_plain 5 = .ok (.iload_n 1, 1) := by decide +kernel
theorem dX9_plain_6 : decode cX9_plain 6 = .ok (.imul, 1) := by decide +kernel
theorem dX9_plain_7 : decode cX9_plain 7 = .ok (.iconst 0, 1) := by decide +kernel
theorem dX9_plain_8 : decode cX9_plain 8 = .ok (.iadd, 1) := by decide +kernel
theorem dX9_plain_9 : decode cX9_plain 9 = .ok (.bipush 20, 2) := by decide +kernel
theorem dX9_plain_11 : decode cX9_plain 11 = .ok (.iastore, 1) := by decide +kernel
theorem dX9_plain_12 : decode cX9_plain 12 = .ok (.aload_n 0, 1) := by decide +kernel
theorem dX9_plain_13 : decode cX9_plain 13 = .ok (.getfield 13, 3) := by decide +kernel
theorem dX9_plain_16 : decode cX9_plain 16 = .ok (.iconst 5, 1) := by decide +kernel
theorem dX9_plain_17 : decode cX9_plain 17 = .ok (.iload_n 1, 1) := by decide +kernel
theorem dX9_plain_18 : decode cX9_plain 18 = .ok (.imul, 1) := by decide +kernel
theorem dX9_plain_19 : decode cX9_plain 19 = .ok (.iconst 1, 1) := by decide +kernel
theorem dX9_plain_20 : decode cX9_plain 20 = .ok (.iadd, 1) := by decide +kernel
theorem dX9_plain_21 : decode cX9_plain 21 = .ok (.iconst 2, 1) := by decide +kernel
theorem dX9_plain_22 : decode cX9_plain 22 = .ok (.iastore, 1) := by decide +kernel
theorem dX9_plain_23 : decode cX9_plain 23 = .ok (.aload_n 0, 1) := by decide +kernel
theorem dX9_plain_24 : decode cX9_plain 24 = .ok (.getfield 13, 3) := by decide +kernel
theorem dX9_plain_27 : decode cX9_plain 27 = .ok (.iconst 5, 1) := by decide +kernel
theorem dX9_plain_28 : decode cX9_plain 28 = .ok (.iload_n 1, 1) := by decide +kernel
theorem dX9_plain_29 : decode cX9_plain 29 = .ok (.imul, 1) := by decide +kernel
theorem dX9_plain_30 : decode cX9_plain 30 = .ok (.iconst 2, 1) := by decide +kernel
theorem dX9_plain_31 : decode cX9_plain 31 = .ok (.iadd, 1) := by decide +kernel
theorem dX9_plain_32 : decode cX9_plain 32 = .ok (.iconst 5, 1) := by decide +kernel
theorem dX9_plain_33 : decode cX9_plain 33 = .ok (.iastore, 1) := by decide +kernel
theorem dX9_plain_34 : decode cX9_plain 34 = .ok (.aload_n 0, 1) := by decide +kernel
theorem dX9_plain_35 : decode cX9_plain 35 = .ok (.getfield 13, 3) := by decide +kernel
theorem dX9_plain_38 : decode cX9_plain 38 = .ok (.iconst 5, 1) := by decide +kernel
theorem dX9_plain_39 : decode cX9_plain 39 = .ok (.iload_n 1, 1) := by decide +kernel
theorem dX9_plain_40 : decode cX9_plain 40 = .ok (.imul, 1) := by decide +kernel
theorem dX9_plain_41 : decode cX9_plain 41 = .ok (.iconst 3, 1) := by decide +kernel
theorem dX9_plain_42 : decode cX9_plain 42 = .ok (.iadd, 1) := by decide +kernel
theorem dX9_plain_43 : decode cX9_plain 43 = .ok (.iconst 0, 1) := by decide +kernel
theorem dX9_plain_44 : decode cX9_plain 44 = .ok (.iastore, 1) := by decide +kernel
theorem dX9_plain_45 : decode cX9_plain 45 = .ok (.aload_n 0, 1) := by decide +kernel
theorem dX9_plain_46 : decode cX9_plain 46 = .ok (.getfield 13, 3) := by decide +kernel
theorem dX9_plain_49 : decode cX9_plain 49 = .ok (.iconst 5, 1) := by decide +kernel
theorem dX9_plain_50 : decode cX9_plain 50 = .ok (.iload_n 1, 1) := by decide +kernel
theorem dX9_plain_51 : decode cX9_plain 51 = .ok (.imul, 1) := by decide +kernel
theorem dX9_plain_52 : decode cX9_plain 52 = .ok (.iconst 4, 1) := by decide +kernel
theorem dX9_plain_53 : decode cX9_plain 53 = .ok (.iadd, 1) := by decide +kernel
theorem dX9_plain_54 : decode cX9_plain 54 = .ok (.iconst 0, 1) := by decide +kernel
theorem dX9_plain_55 : decode cX9_plain 55 = .ok (.iastore, 1) := by decide +kernel
theorem dX9_plain_56 : decode cX9_plain 56 = .ok (.iconst 0, 1) := by decide +kernel
theorem dX9_plain_57 : decode cX9_plain 57 = .ok (.istore_n 2, 1) := by decide +kernel
theorem dX9_plain_58 : decode cX9_plain 58 = .ok (.iload_n 2, 1) := by decide +kernel
theorem dX9_plain_59 : decode cX9_plain 59 = .ok (.iconst 2, 1) := by decide +kernel
theorem dX9_plain_60 : decode cX9_plain 60 = .ok (.if_icmp .ge 39, 3) := by decide +kernel
theorem dX9_plain_63 : decode cX9_plain 63 = .ok (.aload_n 0, 1) := by decide +kernel
theorem dX9_plain_64 : decode cX9_plain 64 = .ok (.getfield 35, 3) := by decide +kernel
theorem dX9_plain_67 : decode cX9_plain 67 = .ok (.iconst 2, 1) := by decide +kernel
theorem dX9_plain_68 : decode cX9_plain 68 = .ok (.iload_n 1, 1) := by decide +kernel
theorem dX9_plain_69 : decode cX9_plain 69 = .ok (.imul, 1) := by decide +kernel
theorem dX9_plain_70 : decode cX9_plain 70 = .ok (.iload_n 2, 1) := by decide +kernel
theorem dX9_plain_71 : decode cX9_plain 71 = .ok (.iadd, 1) := by decide +kernel
theorem dX9_plain_72 : decode cX9_plain 72 = .ok (.sipush 1000, 3) := by decide +kernel
theorem dX9_plain_75 : decode cX9_plain 75 = .ok (.iload_n 1, 1) := by decide +kernel
theorem dX9_plain_76 : decode cX9_plain 76 = .ok (.imul, 1) := by decide +kernel
theorem dX9_plain_77 : decode cX9_plain 77 = .ok (.iastore, 1) := by decide +kernel
theorem dX9_plain_78 : decode cX9_plain 78 = .ok (.aload_n 0, 1) := by decide +kernel
theorem dX9_plain_79 : decode cX9_plain 79 = .ok (.getfield 38, 3) := by decide +kernel
theorem dX9_plain_82 : decode cX9_plain 82 = .ok (.iconst 2, 1) := by decide +kernel
theorem dX9_plain_83 : decode cX9_plain 83 = .ok (.iload_n 1, 1) := by decide +kernel
theorem dX9_plain_84 : decode cX9_plain 84 = .ok (.imul, 1) := by decide +kernel
theorem dX9_plain_85 : decode cX9_plain 85 = .ok (.iload_n 2, 1) := by decide +kernel
theorem dX9_plain_86 : decode cX9_plain 86 = .ok (.iadd, 1) := by decide +kernel
theorem dX9_plain_87 : decode cX9_plain 87 = .ok (.sipush 1000, 3) := by decide +kernel
theorem dX9_plain_90 : decode cX9_plain 90 = .ok (.iload_n 1, 1) := by decide +kernel
theorem dX9_plain_91 : decode cX9_plain 91 = .ok (.imul, 1) := by decide +kernel
theorem dX9_plain_92 : decode cX9_plain 92 = .ok (.iastore, 1) := by decide +kernel
theorem dX9_plain_93 : decode cX9_plain 93 = .ok (.iinc 2 1, 3) := by decide +kernel
theorem dX9_plain_96 : decode cX9_plain 96 = .ok (.goto (-38), 3) := by decide +kernel
theorem dX9_plain_99 : decode cX9_plain 99 = .ok (.return_, 1) := by decide +kernel
theorem dX9_puts_0 : decode cX9_puts 0 = .ok (.aload_n 0, 1) := by decide +kernel
theorem dX9_puts_1 : decode cX9_puts 1 = .ok (.getfield 41, 3) := by decide +kernel
theorem dX9_puts_4 : decode cX9_puts 4 = .ok (.aload_n 0, 1) := by decide +kernel
theorem dX9_puts_5 : decode cX9_puts 5 = .ok (.getfield 148, 3) := by decide +kernel
theorem dX9_puts_8 : decode cX9_puts 8 = .ok (.iload_n 1, 1) := by decide +kernel
theorem dX9_puts_9 : decode cX9_puts 9 = .ok (.iastore, 1) := by decide +kernel
theorem dX9_puts_10 : decode cX9_puts 10 = .ok (.aload_n 0, 1) := by decide +kernel
theorem dX9_puts_11 : decode cX9_puts 11 = .ok (.dup, 1) := by decide +kernel
theorem dX9_puts_12 : decode cX9_puts 12 = .ok (.getfield 148, 3) := by decide +kernel
theorem dX9_puts_15 : decode cX9_puts 15 = .ok (.iconst 1, 1) := by decide +kernel
theorem dX9_puts_16 : decode cX9_puts 16 = .ok (.iadd, 1) := by decide +kernel
theorem dX9_puts_17 : decode cX9_puts 17 = .ok (.putfield 148, 3) := by decide +kernel
theorem dX9_puts_20 : decode cX9_puts 20 = .ok (.return_, 1) := by decide +kernel
theorem dX9_fact_0 : decode cX9_fact 0 = .ok (.aload_n 0, 1) := by decide +kernel
theorem dX9_fact_1 : decode cX9_fact 1 = .ok (.getfield 134, 3) := by decide +kernel
theorem dX9_fact_4 : decode cX9_fact 4 = .ok (.iconst 1, 1) := by decide +kernel
theorem dX9_fact_5 : decode cX9_fact 5 = .ok (.if_icmp .eq 5, 3) := by decide +kernel
theorem dX9_fact_8 : decode cX9_fact 8 = .ok (.iconst 0, 1) := by decide +kernel
theorem dX9_fact_9 : decode cX9_fact 9 = .ok (.ireturn, 1) := by decide +kernel
theorem dX9_fact_10 : decode cX9_fact 10 = .ok (.aload_n 0, 1) := by decide +kernel
theorem dX9_fact_11 : decode cX9_fact 11 = .ok (.getfield 151, 3) := by decide +kernel
theorem dX9_fact_14 : decode cX9_fact 14 = .ok (.ifCond .eq 84, 3) := by decide +kernel
theorem dX9_fact_17 : decode cX9_fact 17 = .ok (.aload_n 0, 1) := by decide +kernel
theorem dX9_fact_18 : decode cX9_fact 18 = .ok (.getfield 127, 3) := by decide +kernel
theorem dX9_fact_21 : decode cX9_fact 21 = .ok (.ldc2_w 155, 3) := by decide +kernel
theorem dX9_fact_24 : decode cX9_fact 24 = .ok (.lcmp, 1) := by decide +kernel
theorem dX9_fact_25 : decode cX9_fact 25 = .ok (.ifCond .ne 5, 3) := by decide +kernel
theorem dX9_fact_28 : decode cX9_fact 28 = .ok (.iconst 1, 1) := by decide +kernel
theorem dX9_fact_29 : decode cX9_fact 29 = .ok (.ireturn, 1) := by decide +kernel
theorem dX9_fact_30 : decode cX9_fact 30 = .ok (.aload_n 0, 1) := by decide +kernel
theorem dX9_fact_31 : decode cX9_fact 31 = .ok (.getfield 127, 3) := by decide +kernel
theorem dX9_fact_34 : decode cX9_fact 34 = .ok (.ldc2_w 157, 3) := by decide +kernel
theorem dX9_fact_37 : decode cX9_fact 37 = .ok (.lcmp, 1) := by decide +kernel
theorem dX9_fact_38 : decode cX9_fact 38 = .ok (.ifCond .ne 5, 3) := by decide +kernel
theorem dX9_fact_41 : decode cX9_fact 41 = .ok (.iconst 2, 1) := by decide +kernel
theorem dX9_fact_42 : decode cX9_fact 42 = .ok (.ireturn, 1) := by decide +kernel
theorem dX9_fact_43 : decode cX9_fact 43 = .ok (.aload_n 0, 1) := by decide +kernel
theorem dX9_fact_44 : decode cX9_fact 44 = .ok (.getfield 127, 3) := by decide +kernel
theorem dX9_fact_47 : decode cX9_fact 47 = .ok (.ldc2_w 159, 3) := by decide +kernel
theorem dX9_fact_50 : decode cX9_fact 50 = .ok (.lcmp, 1) := by decide +kernel
theorem dX9_fact_51 : decode cX9_fact 51 = .ok (.ifCond .ne 5, 3) := by decide +kernel
theorem dX9_fact_54 : decode cX9_fact 54 = .ok (.iconst 3, 1) := by decide +kernel
theorem dX9_fact_55 : decode cX9_fact 55 = .ok (.ireturn, 1) := by decide +kernel
theorem dX9_fact_56 : decode cX9_fact 56 = .ok (.aload_n 0, 1) := by decide +kernel
theorem dX9_fact_57 : decode cX9_fact 57 = .ok (.getfield 127, 3) := by decide +kernel
theorem dX9_fact_60 : decode cX9_fact 60 = .ok (.ldc2_w 161, 3) := by decide +kernel
theorem dX9_fact_63 : decode cX9_fact 63 = .ok (.lcmp, 1) := by decide +kernel
theorem dX9_fact_64 : decode cX9_fact 64 = .ok (.ifCond .ne 5, 3) := by decide +kernel
theorem dX9_fact_67 : decode cX9_fact 67 = .ok (.iconst 4, 1) := by decide +kernel
theorem dX9_fact_68 : decode cX9_fact 68 = .ok (.ireturn, 1) := by decide +kernel
theorem dX9_fact_69 : decode cX9_fact 69 = .ok (.aload_n 0, 1) := by decide +kernel
theorem dX9_fact_70 : decode cX9_fact 70 = .ok (.getfield 127, 3) := by decide +kernel
theorem dX9_fact_73 : decode cX9_fact 73 = .ok (.ldc2_w 163, 3) := by decide +kernel
theorem dX9_fact_76 : decode cX9_fact 76 = .ok (.lcmp, 1) := by decide +kernel
theorem dX9_fact_77 : decode cX9_fact 77 = .ok (.ifCond .ne 5, 3) := by decide +kernel
theorem dX9_fact_80 : decode cX9_fact 80 = .ok (.iconst 5, 1) := by decide +kernel
theorem dX9_fact_81 : decode cX9_fact 81 = .ok (.ireturn, 1) := by decide +kernel
theorem dX9_fact_82 : decode cX9_fact 82 = .ok (.aload_n 0, 1) := by decide +kernel
theorem dX9_fact_83 : decode cX9_fact 83 = .ok (.getfield 127, 3) := by decide +kernel
theorem dX9_fact_86 : decode cX9_fact 86 = .ok (.ldc2_w 165, 3) := by decide +kernel
theorem dX9_fact_89 : decode cX9_fact 89 = .ok (.lcmp, 1) := by decide +kernel
theorem dX9_fact_90 : decode cX9_fact 90 = .ok (.ifCond .ne 6, 3) := by decide +kernel
theorem dX9_fact_93 : decode cX9_fact 93 = .ok (.bipush 6, 2) := by decide +kernel
theorem dX9_fact_95 : decode cX9_fact 95 = .ok (.ireturn, 1) := by decide +kernel
theorem dX9_fact_96 : decode cX9_fact 96 = .ok (.iconst 0, 1) := by decide +kernel
theorem dX9_fact_97 : decode cX9_fact 97 = .ok (.ireturn, 1) := by decide +kernel
theorem dX9_fact_98 : decode cX9_fact 98 = .ok (.aload_n 0, 1) := by decide +kernel
theorem dX9_fact_99 : decode cX9_fact 99 = .ok (.getfield 127, 3) := by decide +kernel
theorem dX9_fact_102 : decode cX9_fact 102 = .ok (.ldc2_w 159, 3) := by decide +kernel
theorem dX9_fact_105 : decode cX9_fact 105 = .ok (.lcmp, 1) := by decide +kernel
theorem dX9_fact_106 : decode cX9_fact 106 = .ok (.ifCond .ne 5, 3) := by decide +kernel
theorem dX9_fact_109 : decode cX9_fact 109 = .ok (.iconst 1, 1) := by decide +kernel
theorem dX9_fact_110 : decode cX9_fact 110 = .ok (.ireturn, 1) := by decide +kernel
theorem dX9_fact_111 : decode cX9_fact 111 = .ok (.aload_n 0, 1) := by decide +kernel
theorem dX9_fact_112 : decode cX9_fact 112 = .ok (.getfield 127, 3) := by decide +kernel
theorem dX9_fact_115 : decode cX9_fact 115 = .ok (.ldc2_w 165, 3) := by decide +kernel
theorem dX9_fact_118 : decode cX9_fact 118 = .ok (.lcmp, 1) := by decide +kernel
theorem dX9_fact_119 : decode cX9_fact 119 = .ok (.ifCond .ne 5, 3) := by decide +kernel
theorem dX9_fact_122 : decode cX9_fact 122 = .ok (.iconst 2, 1) := by decide +kernel
theorem dX9_fact_123 : decode cX9_fact 123 = .ok (.ireturn, 1) := by decide +kernel
theorem dX9_fact_124 : decode cX9_fact 124 = .ok (.aload_n 0, 1) := by decide +kernel
theorem dX9_fact_125 : decode cX9_fact 125 = .ok (.getfield 127, 3) := by decide +kernel
theorem dX9_fact_128 : decode cX9_fact 128 = .ok (.ldc2_w 167, 3) := by decide +kernel
theorem dX9_fact_131 : decode cX9_fact 131 = .ok (.lcmp, 1) := by decide +kernel
theorem dX9_fact_132 : decode cX9_fact 132 = .ok (.ifCond .ne 5, 3) := by decide +kernel
theorem dX9_fact_135 : decode cX9_fact 135 = .ok (.iconst 3, 1) := by decide +kernel
theorem dX9_fact_136 : decode cX9_fact 136 = .ok (.ireturn, 1) := by decide +kernel
theorem dX9_fact_137 : decode cX9_fact 137 = .ok (.iconst 0, 1) := by decide +kernel
theorem dX9_fact_138 : decode cX9_fact 138 = .ok (.ireturn, 1) := by decide +kernel
theorem dX9_reads_0 : decode cX9_reads 0 = .ok (.iconst 0, 1) := by decide +kernel
theorem dX9_reads_1 : decode cX9_reads 1 = .ok (.istore_n 1, 1) := by decide +kernel
theorem dX9_reads_2 : decode cX9_reads 2 = .ok (.iconst 1, 1) := by decide +kernel
theorem dX9_reads_3 : decode cX9_reads 3 = .ok (.istore_n 2, 1) := by decide +kernel
theorem dX9_reads_4 : decode cX9_reads 4 = .ok (.aload_n 0, 1) := by decide +kernel
theorem dX9_reads_5 : decode cX9_reads 5 = .ok (.getfield 47, 3) := by decide +kernel
theorem dX9_reads_8 : decode cX9_reads 8 = .ok (.iconst 0, 1) := by decide +kernel
theorem dX9_reads_9 : decode cX9_reads 9 = .ok (.iconst 0, 1) := by decide +kernel
theorem dX9_reads_10 : decode cX9_reads 10 = .ok (.bastore, 1) := by decide +kernel
theorem dX9_reads_11 : decode cX9_reads 11 = .ok (.iload_n 2, 1) := by decide +kernel
theorem dX9_reads_12 : decode cX9_reads 12 = .ok (.ifCond .eq 167, 3) := by decide +kernel
theorem dX9_reads_15 : decode cX9_reads 15 = .ok (.aload_n 0, 1) := by decide +kernel
theorem dX9_reads_16 : decode cX9_reads 16 = .ok (.invokevirtual 169, 3) := by decide +kernel
theorem dX9_reads_19 : decode cX9_reads 19 = .ok (.istore_n 3, 1) := by decide +kernel
theorem dX9_reads_20 : decode cX9_reads 20 = .ok (.aload_n 0, 1) := by decide +kernel
theorem dX9_reads_21 : decode cX9_reads 21 = .ok (.ldc2_w 173, 3) := by decide +kernel
theorem dX9_reads_24 : decode cX9_reads 24 = .ok (.invokevirtual 175, 3) := by decide +kernel
theorem dX9_reads_27 : decode cX9_reads 27 = .ok (.istore 4, 2) := by decide +kernel
theorem dX9_reads_29 : decode cX9_reads 29 = .ok (.aload_n 0, 1) := by decide +kernel
theorem dX9_reads_30 : decode cX9_reads 30 = .ok (.bipush 40, 2) := by decide +kernel
theorem dX9_reads_32 : decode cX9_reads 32 = .ok (.invokevirtual 179, 3) := by decide +kernel
theorem dX9_reads_35 : decode cX9_reads 35 = .ok (.istore 5, 2) := by decide +kernel
theorem dX9_reads_37 : decode cX9_reads 37 = .ok (.iload_n 3, 1) := by decide +kernel
theorem dX9_reads_38 : decode cX9_reads 38 = .ok (.ifCond .ne 27, 3) := by decide +kernel
theorem dX9_reads_41 : decode cX9_reads 41 = .ok (.iload 4, 2) := by decide +kernel
theorem dX9_reads_43 : decode cX9_reads 43 = .ok (.ifCond .ne 22, 3) := by decide +kernel
theorem dX9_reads_46 : decode cX9_reads 46 = .ok (.iload 5, 2) := by decide +kernel
theorem dX9_reads_48 : decode cX9_reads 48 = .ok (.ifCond .ne 17, 3) := by decide +kernel
theorem dX9_reads_51 : decode cX9_reads 51 = .ok (.aload_n 0, 1) := by decide +kernel
theorem dX9_reads_52 : decode cX9_reads 52 = .ok (.getfield 134, 3) := by decide +kernel
theorem dX9_reads_55 : decode cX9_reads 55 = .ok (.iconst 2, 1) := by decide +kernel
theorem dX9_reads_56 : decode cX9_reads 56 = .ok (.if_icmp .eq 9, 3) := by decide +kernel
theorem dX9_reads_59 : decode cX9_reads 59 = .ok (.aload_n 0, 1) := by decide +kernel
theorem dX9_reads_60 : decode cX9_reads 60 = .ok (.iconst 1, 1) := by decide +kernel
theorem dX9_reads_61 : decode cX9_reads 61 = .ok (.invokevirtual 183, 3) := by decide +kernel
theorem dX9_reads_64 : decode cX9_reads 64 = .ok (.ireturn, 1) := by decide +kernel
theorem dX9_reads_65 : decode cX9_reads 65 = .ok (.iload_n 1, 1) := by decide +kernel
theorem dX9_reads_66 : decode cX9_reads 66 = .ok (.iconst 5, 1) := by decide +kernel
theorem dX9_reads_67 : decode cX9_reads 67 = .ok (.if_icmp .ne 9, 3) := by decide +kernel
theorem dX9_reads_70 : decode cX9_reads 70 = .ok (.aload_n 0, 1) := by decide +kernel
theorem dX9_reads_71 : decode cX9_reads 71 = .ok (.iconst 5, 1) := by decide +kernel
theorem dX9_reads_72 : decode cX9_reads 72 = .ok (.invokevirtual 183, 3) := by decide +kernel
theorem dX9_reads_75 : decode cX9_reads 75 = .ok (.ireturn, 1) := by decide +kernel
theorem dX9_reads_76 : decode cX9_reads 76 = .ok (.iload 4, 2) := by decide +kernel
theorem dX9_reads_78 : decode cX9_reads 78 = .ok (.ifCond .ne 8, 3) := by decide +kernel
theorem dX9_reads_81 : decode cX9_reads 81 = .ok (.iload 5, 2) := by decide +kernel
theorem dX9_reads_83 : decode cX9_reads 83 = .ok (.ifCond .eq 48, 3) := by decide +kernel
theorem dX9_reads_86 : decode cX9_reads 86 = .ok (.aload_n 0, 1) := by decide +kernel
theorem dX9_reads_87 : decode cX9_reads 87 = .ok (.iload 4, 2) := by decide +kernel
theorem dX9_reads_89 : decode cX9_reads 89 = .ok (.ifCond .eq 8, 3) := by decide +kernel
theorem dX9_reads_92 : decode cX9_reads 92 = .ok (.bipush 30, 2) := by decide +kernel
theorem dX9_reads_94 : decode cX9_reads 94 = .ok (.goto 5, 3) := by decide +kernel
theorem dX9_reads_97 : decode cX9_reads 97 = .ok (.bipush 28, 2) := by decide +kernel
theorem dX9_reads_99 : decode cX9_reads 99 = .ok (.invokevirtual 186, 3) := by decide +kernel
theorem dX9_reads_102 : decode cX9_reads 102 = .ok (.iinc 1 1, 3) := by decide +kernel
theorem dX9_reads_105 : decode cX9_reads 105 = .ok (.aload_n 0, 1) := by decide +kernel
theorem dX9_reads_106 : decode cX9_reads 106 = .ok (.getfield 44, 3) := by decide +kernel
theorem dX9_reads_109 : decode cX9_reads 109 = .ok (.iload_n 1, 1) := by decide +kernel
theorem dX9_reads_110 : decode cX9_reads 110 = .ok (.iload 4, 2) := by decide +kernel
theorem dX9_reads_112 : decode cX9_reads 112 = .ok (.ifCond .eq 7, 3) := by decide +kernel
theorem dX9_reads_115 : decode cX9_reads 115 = .ok (.iconst 1, 1) := by decide +kernel
theorem dX9_reads_116 : decode cX9_reads 116 = .ok (.goto 4, 3) := by decide +kernel
theorem dX9_reads_119 : decode cX9_reads 119 = .ok (.iconst 2, 1) := by decide +kernel
theorem dX9_reads_120 : decode cX9_reads 120 = .ok (.iastore, 1) := by decide +kernel
theorem dX9_reads_121 : decode cX9_reads 121 = .ok (.aload_n 0, 1) := by decide +kernel
theorem dX9_reads_122 : decode cX9_reads 122 = .ok (.getfield 47, 3) := by decide +kernel
theorem dX9_reads_125 : decode cX9_reads 125 = .ok (.iload_n 1, 1) := by decide +kernel
theorem dX9_reads_126 : decode cX9_reads 126 = .ok (.iconst 0, 1) := by decide +kernel
theorem dX9_reads_127 : decode cX9_reads 127 = .ok (.bastore, 1) := by decide +kernel
theorem dX9_reads_128 : decode cX9_reads 128 = .ok (.goto 44, 3) := by decide +kernel
theorem dX9_reads_131 : decode cX9_reads 131 = .ok (.aload_n 0, 1) := by decide +kernel
theorem dX9_reads_132 : decode cX9_reads 132 = .ok (.iload_n 3, 1) := by decide +kernel
theorem dX9_reads_133 : decode cX9_reads 133 = .ok (.ifCond .le 7, 3) := by decide +kernel
theorem dX9_reads_136 : decode cX9_reads 136 = .ok (.iload_n 3, 1) := by decide +kernel
theorem dX9_reads_137 : decode cX9_reads 137 = .ok (.goto 10, 3) := by decide +kernel
theorem dX9_reads_140 : decode cX9_reads 140 = .ok (.bipush 100, 2) := by decide +kernel
theorem dX9_reads_142 : decode cX9_reads 142 = .ok (.aload_n 0, 1) := by decide +kernel
theorem dX9_reads_143 : decode cX9_reads 143 = .ok (.getfield 131, 3) := by decide +kernel
theorem dX9_reads_146 : decode cX9_reads 146 = .ok (.iadd, 1) := by decide +kernel
theorem dX9_reads_147 : decode cX9_reads 147 = .ok (.invokevirtual 186, 3) := by decide +kernel
theorem dX9_reads_150 : decode cX9_reads 150 = .ok (.iconst 0, 1) := by decide +kernel
theorem dX9_reads_151 : decode cX9_reads 151 = .ok (.istore_n 2, 1) := by decide +kernel
theorem dX9_reads_152 : decode cX9_reads 152 = .ok (.iload_n 1, 1) := by decide +kernel
theorem dX9_reads_153 : decode cX9_reads 153 = .ok (.ifCond .le 19, 3) := by decide +kernel
theorem dX9_reads_156 : decode cX9_reads 156 = .ok (.aload_n 0, 1) := by decide +kernel
theorem dX9_reads_157 : decode cX9_reads 157 = .ok (.getfield 44, 3) := by decide +kernel
theorem dX9_reads_160 : decode cX9_reads 160 = .ok (.iload_n 1, 1) := by decide +kernel
theorem dX9_reads_161 : decode cX9_reads 161 = .ok (.iaload, 1) := by decide +kernel
theorem dX9_reads_162 : decode cX9_reads 162 = .ok (.iconst 1, 1) := by decide +kernel
theorem dX9_reads_163 : decode cX9_reads 163 = .ok (.if_icmp .ne 9, 3) := by decide +kernel
theorem dX9_reads_166 : decode cX9_reads 166 = .ok (.iinc 1 (-1), 3) := by decide +kernel
theorem dX9_reads_169 : decode cX9_reads 169 = .ok (.goto (-17), 3) := by decide +kernel
theorem dX9_reads_172 : decode cX9_reads 172 = .ok (.aload_n 0, 1) := by decide +kernel
theorem dX9_reads_173 : decode cX9_reads 173 = .ok (.invokevirtual 189, 3) := by decide +kernel
theorem dX9_reads_176 : decode cX9_reads 176 = .ok (.goto (-165), 3) := by decide +kernel
theorem dX9_reads_179 : decode cX9_reads 179 = .ok (.aload_n 0, 1) := by decide +kernel
theorem dX9_reads_180 : decode cX9_reads 180 = .ok (.bipush 43, 2) := by decide +kernel
theorem dX9_reads_182 : decode cX9_reads 182 = .ok (.invokevirtual 179, 3) := by decide +kernel
theorem dX9_reads_185 : decode cX9_reads 185 = .ok (.ifCond .ne 21, 3) := by decide +kernel
theorem dX9_reads_188 : decode cX9_reads 188 = .ok (.aload_n 0, 1) := by decide +kernel
theorem dX9_reads_189 : decode cX9_reads 189 = .ok (.bipush 45, 2) := by decide +kernel
theorem dX9_reads_191 : decode cX9_reads 191 = .ok (.invokevirtual 179, 3) := by decide +kernel
theorem dX9_reads_194 : decode cX9_reads 194 = .ok (.ifCond .ne 12, 3) := by decide +kernel
theorem dX9_reads_197 : decode cX9_reads 197 = .ok (.aload_n 0, 1) := by decide +kernel
theorem dX9_reads_198 : decode cX9_reads 198 = .ok (.bipush 42, 2) := by decide +kernel
theorem dX9_reads_200 : decode cX9_reads 200 = .ok (.invokevirtual 179, 3) := by decide +kernel
theorem dX9_reads_203 : decode cX9_reads 203 = .ok (.ifCond .eq 42, 3) := by decide +kernel
theorem dX9_reads_206 : decode cX9_reads 206 = .ok (.aload_n 0, 1) := by decide +kernel
theorem dX9_reads_207 : decode cX9_reads 207 = .ok (.aload_n 0, 1) := by decide +kernel
theorem dX9_reads_208 : decode cX9_reads 208 = .ok (.bipush 43, 2) := by decide +kernel
theorem dX9_reads_210 : decode cX9_reads 210 = .ok (.invokevirtual 179, 3) := by decide +kernel
theorem dX9_reads_213 : decode cX9_reads 213 = .ok (.ifCond .eq 8, 3) := by decide +kernel
theorem dX9_reads_216 : decode cX9_reads 216 = .ok (.bipush 20, 2) := by decide +kernel
theorem dX9_reads_218 : decode cX9_reads 218 = .ok (.goto 19, 3) := by decide +kernel
theorem dX9_reads_221 : decode cX9_reads 221 = .ok (.aload_n 0, 1) := by decide +kernel
theorem dX9_reads_222 : decode cX9_reads 222 = .ok (.bipush 45, 2) := by decide +kernel
theorem dX9_reads_224 : decode cX9_reads 224 = .ok (.invokevirtual 179, 3) := by decide +kernel
theorem dX9_reads_227 : decode cX9_reads 227 = .ok (.ifCond .eq 8, 3) := by decide +kernel
theorem dX9_reads_230 : decode cX9_reads 230 = .ok (.bipush 21, 2) := by decide +kernel
theorem dX9_reads_232 : decode cX9_reads 232 = .ok (.goto 5, 3) := by decide +kernel
theorem dX9_reads_235 : decode cX9_reads 235 = .ok (.bipush 22, 2) := by decide +kernel
theorem dX9_reads_237 : decode cX9_reads 237 = .ok (.invokevirtual 186, 3) := by decide +kernel
theorem dX9_reads_240 : decode cX9_reads 240 = .ok (.iconst 1, 1) := by decide +kernel
theorem dX9_reads_241 : decode cX9_reads 241 = .ok (.istore_n 2, 1) := by decide +kernel
theorem dX9_reads_242 : decode cX9_reads 242 = .ok (.goto 182, 3) := by decide +kernel
theorem dX9_reads_245 : decode cX9_reads 245 = .ok (.aload_n 0, 1) := by decide +kernel
theorem dX9_reads_246 : decode cX9_reads 246 = .ok (.bipush 60, 2) := by decide +kernel
theorem dX9_reads_248 : decode cX9_reads 248 = .ok (.invokevirtual 179, 3) := by decide +kernel
theorem dX9_reads_251 : decode cX9_reads 251 = .ok (.ifCond .ne 12, 3) := by decide +kernel
theorem dX9_reads_254 : decode cX9_reads 254 = .ok (.aload_n 0, 1) := by decide +kernel
theorem dX9_reads_255 : decode cX9_reads 255 = .ok (.bipush 61, 2) := by decide +kernel
theorem dX9_reads_257 : decode cX9_reads 257 = .ok (.invokevirtual 179, 3) := by decide +kernel
theorem dX9_reads_260 : decode cX9_reads 260 = .ok (.ifCond .eq 44, 3) := by decide +kernel
theorem dX9_reads_263 : decode cX9_reads 263 = .ok (.aload_n 0, 1) := by decide +kernel
theorem dX9_reads_264 : decode cX9_reads 264 = .ok (.getfield 47, 3) := by decide +kernel
theorem dX9_reads_267 : decode cX9_reads 267 = .ok (.iload_n 1, 1) := by decide +kernel
theorem dX9_reads_268 : decode cX9_reads 268 = .ok (.baload, 1) := by decide +kernel
theorem dX9_reads_269 : decode cX9_reads 269 = .ok (.ifCond .ne 35, 3) := by decide +kernel
theorem dX9_reads_272 : decode cX9_reads 272 = .ok (.aload_n 0, 1) := by decide +kernel
theorem dX9_reads_273 : decode cX9_reads 273 = .ok (.aload_n 0, 1) := by decide +kernel
theorem dX9_reads_274 : decode cX9_reads 274 = .ok (.bipush 60, 2) := by decide +kernel
theorem dX9_reads_276 : decode cX9_reads 276 = .ok (.invokevirtual 179, 3) := by decide +kernel
theorem dX9_reads_279 : decode cX9_reads 279 = .ok (.ifCond .eq 8, 3) := by decide +kernel
theorem dX9_reads_282 : decode cX9_reads 282 = .ok (.bipush 24, 2) := by decide +kernel
theorem dX9_reads_284 : decode cX9_reads 284 = .ok (.goto 5, 3) := by decide +kernel
theorem dX9_reads_287 : decode cX9_reads 287 = .ok (.bipush 25, 2) := by decide +kernel
theorem dX9_reads_289 : decode cX9_reads 289 = .ok (.invokevirtual 186, 3) := by decide +kernel
theorem dX9_reads_292 : decode cX9_reads 292 = .ok (.aload_n 0, 1) := by decide +kernel
theorem dX9_reads_293 : decode cX9_reads 293 = .ok (.getfield 47, 3) := by decide +kernel
theorem dX9_reads_296 : decode cX9_reads 296 = .ok (.iload_n 1, 1) := by decide +kernel
theorem dX9_reads_297 : decode cX9_reads 297 = .ok (.iconst 1, 1) := by decide +kernel
theorem dX9_reads_298 : decode cX9_reads 298 = .ok (.bastore, 1) := by decide +kernel
theorem dX9_reads_299 : decode cX9_reads 299 = .ok (.iconst 1, 1) := by decide +kernel
theorem dX9_reads_300 : decode cX9_reads 300 = .ok (.istore_n 2, 1) := by decide +kernel
theorem dX9_reads_301 : decode cX9_reads 301 = .ok (.goto 123, 3) := by decide +kernel
theorem dX9_reads_304 : decode cX9_reads 304 = .ok (.aload_n 0, 1) := by decide +kernel
theorem dX9_reads_305 : decode cX9_reads 305 = .ok (.ldc2_w 192, 3) := by decide +kernel
theorem dX9_reads_308 : decode cX9_reads 308 = .ok (.invokevirtual 175, 3) := by decide +kernel
theorem dX9_reads_311 : decode cX9_reads 311 = .ok (.ifCond .ne 13, 3) := by decide +kernel
theorem dX9_reads_314 : decode cX9_reads 314 = .ok (.aload_n 0, 1) := by decide +kernel
theorem dX9_reads_315 : decode cX9_reads 315 = .ok (.ldc2_w 194, 3) := by decide +kernel
theorem dX9_reads_318 : decode cX9_reads 318 = .ok (.invokevirtual 175, 3) := by decide +kernel
theorem dX9_reads_321 : decode cX9_reads 321 = .ok (.ifCond .eq 36, 3) := by decide +kernel
theorem dX9_reads_324 : decode cX9_reads 324 = .ok (.aload_n 0, 1) := by decide +kernel
theorem dX9_reads_325 : decode cX9_reads 325 = .ok (.aload_n 0, 1) := by decide +kernel
theorem dX9_reads_326 : decode cX9_reads 326 = .ok (.ldc2_w 192, 3) := by decide +kernel
theorem dX9_reads_329 : decode cX9_reads 329 = .ok (.invokevirtual 175, 3) := by decide +kernel
theorem dX9_reads_332 : decode cX9_reads 332 = .ok (.ifCond .eq 8, 3) := by decide +kernel
theorem dX9_reads_335 : decode cX9_reads 335 = .ok (.bipush 26, 2) := by decide +kernel
theorem dX9_reads_337 : decode cX9_reads 337 = .ok (.goto 5, 3) := by decide +kernel
theorem dX9_reads_340 : decode cX9_reads 340 = .ok (.bipush 27, 2) := by decide +kernel
theorem dX9_reads_342 : decode cX9_reads 342 = .ok (.invokevirtual 186, 3) := by decide +kernel
theorem dX9_reads_345 : decode cX9_reads 345 = .ok (.aload_n 0, 1) := by decide +kernel
theorem dX9_reads_346 : decode cX9_reads 346 = .ok (.getfield 47, 3) := by decide +kernel
theorem dX9_reads_349 : decode cX9_reads 349 = .ok (.iload_n 1, 1) := by decide +kernel
theorem dX9_reads_350 : decode cX9_reads 350 = .ok (.iconst 0, 1) := by decide +kernel
theorem dX9_reads_351 : decode cX9_reads 351 = .ok (.bastore, 1) := by decide +kernel
theorem dX9_reads_352 : decode cX9_reads 352 = .ok (.iconst 1, 1) := by decide +kernel
theorem dX9_reads_353 : decode cX9_reads 353 = .ok (.istore_n 2, 1) := by decide +kernel
theorem dX9_reads_354 : decode cX9_reads 354 = .ok (.goto 70, 3) := by decide +kernel
theorem dX9_reads_357 : decode cX9_reads 357 = .ok (.aload_n 0, 1) := by decide +kernel
theorem dX9_reads_358 : decode cX9_reads 358 = .ok (.bipush 41, 2) := by decide +kernel
theorem dX9_reads_360 : decode cX9_reads 360 = .ok (.invokevirtual 179, 3) := by decide +kernel
theorem dX9_reads_363 : decode cX9_reads 363 = .ok (.ifCond .eq 36, 3) := by decide +kernel
theorem dX9_reads_366 : decode cX9_reads 366 = .ok (.iload_n 1, 1) := by decide +kernel
theorem dX9_reads_367 : decode cX9_reads 367 = .ok (.ifCond .le 32, 3) := by decide +kernel
theorem dX9_reads_370 : decode cX9_reads 370 = .ok (.aload_n 0, 1) := by decide +kernel
theorem dX9_reads_371 : decode cX9_reads 371 = .ok (.bipush 29, 2) := by decide +kernel
theorem dX9_reads_373 : decode cX9_reads 373 = .ok (.invokevirtual 186, 3) := by decide +kernel
theorem dX9_reads_376 : decode cX9_reads 376 = .ok (.iinc 1 (-1), 3) := by decide +kernel
theorem dX9_reads_379 : decode cX9_reads 379 = .ok (.iload_n 1, 1) := by decide +kernel
theorem dX9_reads_380 : decode cX9_reads 380 = .ok (.ifCond .le 44, 3) := by decide +kernel
theorem dX9_reads_383 : decode cX9_reads 383 = .ok (.aload_n 0, 1) := by decide +kernel
theorem dX9_reads_384 : decode cX9_reads 384 = .ok (.getfield 44, 3) := by decide +kernel
theorem dX9_reads_387 : decode cX9_reads 387 = .ok (.iload_n 1, 1) := by decide +kernel
theorem dX9_reads_388 : decode cX9_reads 388 = .ok (.iaload, 1) := by decide +kernel
theorem dX9_reads_389 : decode cX9_reads 389 = .ok (.iconst 1, 1) := by decide +kernel
theorem dX9_reads_390 : decode cX9_reads 390 = .ok (.if_icmp .ne 34, 3) := by decide +kernel
theorem dX9_reads_393 : decode cX9_reads 393 = .ok (.iinc 1 (-1), 3) := by decide +kernel
theorem dX9_reads_396 : decode cX9_reads 396 = .ok (.goto (-17), 3) := by decide +kernel
theorem dX9_reads_399 : decode cX9_reads 399 = .ok (.iload_n 1, 1) := by decide +kernel
theorem dX9_reads_400 : decode cX9_reads 400 = .ok (.ifCond .ne 18, 3) := by decide +kernel
theorem dX9_reads_403 : decode cX9_reads 403 = .ok (.aload_n 0, 1) := by decide +kernel
theorem dX9_reads_404 : decode cX9_reads 404 = .ok (.bipush 59, 2) := by decide +kernel
theorem dX9_reads_406 : decode cX9_reads 406 = .ok (.invokevirtual 179, 3) := by decide +kernel
theorem dX9_reads_409 : decode cX9_reads 409 = .ok (.ifCond .eq 9, 3) := by decide +kernel
theorem dX9_reads_412 : decode cX9_reads 412 = .ok (.aload_n 0, 1) := by decide +kernel
theorem dX9_reads_413 : decode cX9_reads 413 = .ok (.invokevirtual 189, 3) := by decide +kernel
theorem dX9_reads_416 : decode cX9_reads 416 = .ok (.iconst 1, 1) := by decide +kernel
theorem dX9_reads_417 : decode cX9_reads 417 = .ok (.ireturn, 1) := by decide +kernel
theorem dX9_reads_418 : decode cX9_reads 418 = .ok (.aload_n 0, 1) := by decide +kernel
theorem dX9_reads_419 : decode cX9_reads 419 = .ok (.iconst 1, 1) := by decide +kernel
theorem dX9_reads_420 : decode cX9_reads 420 = .ok (.invokevirtual 183, 3) := by decide +kernel
theorem dX9_reads_423 : decode cX9_reads 423 = .ok (.ireturn, 1) := by decide +kernel
theorem dX9_reads_424 : decode cX9_reads 424 = .ok (.aload_n 0, 1) := by decide +kernel
theorem dX9_reads_425 : decode cX9_reads 425 = .ok (.invokevirtual 189, 3) := by decide +kernel
theorem dX9_reads_428 : decode cX9_reads 428 = .ok (.goto (-417), 3) := by decide +kernel
theorem dX9_opens_0 : decode cX9_opens 0 = .ok (.aload_n 0, 1) := by decide +kernel
theorem dX9_opens_1 : decode cX9_opens 1 = .ok (.getfield 54, 3) := by decide +kernel
theorem dX9_opens_4 : decode cX9_opens 4 = .ok (.iload_n 1, 1) := by decide +kernel
theorem dX9_opens_5 : decode cX9_opens 5 = .ok (.iconst 0, 1) := by decide +kernel
theorem dX9_opens_6 : decode cX9_opens 6 = .ok (.iastore, 1) := by decide +kernel
theorem dX9_opens_7 : decode cX9_opens 7 = .ok (.aload_n 0, 1) := by decide +kernel
theorem dX9_opens_8 : decode cX9_opens 8 = .ok (.getfield 60, 3) := by decide +kernel
theorem dX9_opens_11 : decode cX9_opens 11 = .ok (.iload_n 1, 1) := by decide +kernel
theorem dX9_opens_12 : decode cX9_opens 12 = .ok (.iconst 0, 1) := by decide +kernel
theorem dX9_opens_13 : decode cX9_opens 13 = .ok (.iastore, 1) := by decide +kernel
theorem dX9_opens_14 : decode cX9_opens 14 = .ok (.aload_n 0, 1) := by decide +kernel
theorem dX9_opens_15 : decode cX9_opens 15 = .ok (.getfield 63, 3) := by decide +kernel
theorem dX9_opens_18 : decode cX9_opens 18 = .ok (.iload_n 1, 1) := by decide +kernel
theorem dX9_opens_19 : decode cX9_opens 19 = .ok (.iconst 0, 1) := by decide +kernel
theorem dX9_opens_20 : decode cX9_opens 20 = .ok (.iastore, 1) := by decide +kernel
theorem dX9_opens_21 : decode cX9_opens 21 = .ok (.aload_n 0, 1) := by decide +kernel
theorem dX9_opens_22 : decode cX9_opens 22 = .ok (.getfield 66, 3) := by decide +kernel
theorem dX9_opens_25 : decode cX9_opens 25 = .ok (.iload_n 1, 1) := by decide +kernel
theorem dX9_opens_26 : decode cX9_opens 26 = .ok (.bipush 20, 2) := by decide +kernel
theorem dX9_opens_28 : decode cX9_opens 28 = .ok (.iastore, 1) := by decide +kernel
theorem dX9_opens_29 : decode cX9_opens 29 = .ok (.aload_n 0, 1) := by decide +kernel
theorem dX9_opens_30 : decode cX9_opens 30 = .ok (.getfield 72, 3) := by decide +kernel
theorem dX9_opens_33 : decode cX9_opens 33 = .ok (.iload_n 1, 1) := by decide +kernel
theorem dX9_opens_34 : decode cX9_opens 34 = .ok (.iconst 0, 1) := by decide +kernel
theorem dX9_opens_35 : decode cX9_opens 35 = .ok (.iastore, 1) := by decide +kernel
theorem dX9_opens_36 : decode cX9_opens 36 = .ok (.return_, 1) := by decide +kernel
theorem dX9_sums_0 : decode cX9_sums 0 = .ok (.aload_n 0, 1) := by decide +kernel
theorem dX9_sums_1 : decode cX9_sums 1 = .ok (.getfield 63, 3) := by decide +kernel
theorem dX9_sums_4 : decode cX9_sums 4 = .ok (.iload_n 1, 1) := by decide +kernel
theorem dX9_sums_5 : decode cX9_sums 5 = .ok (.aload_n 0, 1) := by decide +kernel
theorem dX9_sums_6 : decode cX9_sums 6 = .ok (.getfield 66, 3) := by decide +kernel
theorem dX9_sums_9 : decode cX9_sums 9 = .ok (.iload_n 1, 1) := by decide +kernel
theorem dX9_sums_10 : decode cX9_sums 10 = .ok (.iaload, 1) := by decide +kernel
theorem dX9_sums_11 : decode cX9_sums 11 = .ok (.bipush 21, 2) := by decide +kernel
theorem dX9_sums_13 : decode cX9_sums 13 = .ok (.if_icmp .ne 19, 3) := by decide +kernel
theorem dX9_sums_16 : decode cX9_sums 16 = .ok (.aload_n 0, 1) := by decide +kernel
theorem dX9_sums_17 : decode cX9_sums 17 = .ok (.getfield 63, 3) := by decide +kernel
theorem dX9_sums_20 : decode cX9_sums 20 = .ok (.iload_n 1, 1) := by decide +kernel
theorem dX9_sums_21 : decode cX9_sums 21 = .ok (.iaload, 1) := by decide +kernel
theorem dX9_sums_22 : decode cX9_sums 22 = .ok (.aload_n 0, 1) := by decide +kernel
theorem dX9_sums_23 : decode cX9_sums 23 = .ok (.getfield 69, 3) := by decide +kernel
theorem dX9_sums_26 : decode cX9_sums 26 = .ok (.iload_n 1, 1) := by decide +kernel
theorem dX9_sums_27 : decode cX9_sums 27 = .ok (.iaload, 1) := by decide +kernel
theorem dX9_sums_28 : decode cX9_sums 28 = .ok (.isub, 1) := by decide +kernel
theorem dX9_sums_29 : decode cX9_sums 29 = .ok (.goto 16, 3) := by decide +kernel
theorem dX9_sums_32 : decode cX9_sums 32 = .ok (.aload_n 0, 1) := by decide +kernel
theorem dX9_sums_33 : decode cX9_sums 33 = .ok (.getfield 63, 3) := by decide +kernel
theorem dX9_sums_36 : decode cX9_sums 36 = .ok (.iload_n 1, 1) := by decide +kernel
theorem dX9_sums_37 : decode cX9_sums 37 = .ok (.iaload, 1) := by decide +kernel
theorem dX9_sums_38 : decode cX9_sums 38 = .ok (.aload_n 0, 1) := by decide +kernel
theorem dX9_sums_39 : decode cX9_sums 39 = .ok (.getfield 69, 3) := by decide +kernel
theorem dX9_sums_42 : decode cX9_sums 42 = .ok (.iload_n 1, 1) := by decide +kernel
theorem dX9_sums_43 : decode cX9_sums 43 = .ok (.iaload, 1) := by decide +kernel
theorem dX9_sums_44 : decode cX9_sums 44 = .ok (.iadd, 1) := by decide +kernel
theorem dX9_sums_45 : decode cX9_sums 45 = .ok (.iastore, 1) := by decide +kernel
theorem dX9_sums_46 : decode cX9_sums 46 = .ok (.aload_n 0, 1) := by decide +kernel
theorem dX9_sums_47 : decode cX9_sums 47 = .ok (.getfield 72, 3) := by decide +kernel
theorem dX9_sums_50 : decode cX9_sums 50 = .ok (.iload_n 1, 1) := by decide +kernel
theorem dX9_sums_51 : decode cX9_sums 51 = .ok (.iconst 0, 1) := by decide +kernel
theorem dX9_sums_52 : decode cX9_sums 52 = .ok (.iastore, 1) := by decide +kernel
theorem dX9_sums_53 : decode cX9_sums 53 = .ok (.return_, 1) := by decide +kernel
theorem dX9_tests_0 : decode cX9_tests 0 = .ok (.aload_n 0, 1) := by decide +kernel
theorem dX9_tests_1 : decode cX9_tests 1 = .ok (.iload_n 1, 1) := by decide +kernel
theorem dX9_tests_2 : decode cX9_tests 2 = .ok (.invokevirtual 196, 3) := by decide +kernel
theorem dX9_tests_5 : decode cX9_tests 5 = .ok (.aload_n 0, 1) := by decide +kernel
theorem dX9_tests_6 : decode cX9_tests 6 = .ok (.getfield 63, 3) := by decide +kernel
theorem dX9_tests_9 : decode cX9_tests 9 = .ok (.iload_n 1, 1) := by decide +kernel
theorem dX9_tests_10 : decode cX9_tests 10 = .ok (.iaload, 1) := by decide +kernel
theorem dX9_tests_11 : decode cX9_tests 11 = .ok (.istore_n 2, 1) := by decide +kernel
theorem dX9_tests_12 : decode cX9_tests 12 = .ok (.aload_n 0, 1) := by decide +kernel
theorem dX9_tests_13 : decode cX9_tests 13 = .ok (.getfield 60, 3) := by decide +kernel
theorem dX9_tests_16 : decode cX9_tests 16 = .ok (.iload_n 1, 1) := by decide +kernel
theorem dX9_tests_17 : decode cX9_tests 17 = .ok (.iaload, 1) := by decide +kernel
theorem dX9_tests_18 : decode cX9_tests 18 = .ok (.bipush 24, 2) := by decide +kernel
theorem dX9_tests_20 : decode cX9_tests 20 = .ok (.if_icmp .ne 24, 3) := by decide +kernel
theorem dX9_tests_23 : decode cX9_tests 23 = .ok (.aload_n 0, 1) := by decide +kernel
theorem dX9_tests_24 : decode cX9_tests 24 = .ok (.getfield 57, 3) := by decide +kernel
theorem dX9_tests_27 : decode cX9_tests 27 = .ok (.iload_n 1, 1) := by decide +kernel
theorem dX9_tests_28 : decode cX9_tests 28 = .ok (.iaload, 1) := by decide +kernel
theorem dX9_tests_29 : decode cX9_tests 29 = .ok (.aload_n 0, 1) := by decide +kernel
theorem dX9_tests_30 : decode cX9_tests 30 = .ok (.getfield 63, 3) := by decide +kernel
theorem dX9_tests_33 : decode cX9_tests 33 = .ok (.iload_n 1, 1) := by decide +kernel
theorem dX9_tests_34 : decode cX9_tests 34 = .ok (.iaload, 1) := by decide +kernel
theorem dX9_tests_35 : decode cX9_tests 35 = .ok (.if_icmp .ge 7, 3) := by decide +kernel
theorem dX9_tests_38 : decode cX9_tests 38 = .ok (.iconst 1, 1) := by decide +kernel
theorem dX9_tests_39 : decode cX9_tests 39 = .ok (.goto 4, 3) := by decide +kernel
theorem dX9_tests_42 : decode cX9_tests 42 = .ok (.iconst 0, 1) := by decide +kernel
theorem dX9_tests_43 : decode cX9_tests 43 = .ok (.istore_n 2, 1) := by decide +kernel
theorem dX9_tests_44 : decode cX9_tests 44 = .ok (.aload_n 0, 1) := by decide +kernel
theorem dX9_tests_45 : decode cX9_tests 45 = .ok (.getfield 60, 3) := by decide +kernel
theorem dX9_tests_48 : decode cX9_tests 48 = .ok (.iload_n 1, 1) := by decide +kernel
theorem dX9_tests_49 : decode cX9_tests 49 = .ok (.iaload, 1) := by decide +kernel
theorem dX9_tests_50 : decode cX9_tests 50 = .ok (.bipush 25, 2) := by decide +kernel
theorem dX9_tests_52 : decode cX9_tests 52 = .ok (.if_icmp .ne 24, 3) := by decide +kernel
theorem dX9_tests_55 : decode cX9_tests 55 = .ok (.aload_n 0, 1) := by decide +kernel
theorem dX9_tests_56 : decode cX9_tests 56 = .ok (.getfield 57, 3) := by decide +kernel
theorem dX9_tests_59 : decode cX9_tests 59 = .ok (.iload_n 1, 1) := by decide +kernel
theorem dX9_tests_60 : decode cX9_tests 60 = .ok (.iaload, 1) := by decide +kernel
theorem dX9_tests_61 : decode cX9_tests 61 = .ok (.aload_n 0, 1) := by decide +kernel
theorem dX9_tests_62 : decode cX9_tests 62 = .ok (.getfield 63, 3) := by decide +kernel
theorem dX9_tests_65 : decode cX9_tests 65 = .ok (.iload_n 1, 1) := by decide +kernel
theorem dX9_tests_66 : decode cX9_tests 66 = .ok (.iaload, 1) := by decide +kernel
theorem dX9_tests_67 : decode cX9_tests 67 = .ok (.if_icmp .ne 7, 3) := by decide +kernel
theorem dX9_tests_70 : decode cX9_tests 70 = .ok (.iconst 1, 1) := by decide +kernel
theorem dX9_tests_71 : decode cX9_tests 71 = .ok (.goto 4, 3) := by decide +kernel
theorem dX9_tests_74 : decode cX9_tests 74 = .ok (.iconst 0, 1) := by decide +kernel
theorem dX9_tests_75 : decode cX9_tests 75 = .ok (.istore_n 2, 1) := by decide +kernel
theorem dX9_tests_76 : decode cX9_tests 76 = .ok (.aload_n 0, 1) := by decide +kernel
theorem dX9_tests_77 : decode cX9_tests 77 = .ok (.getfield 54, 3) := by decide +kernel
theorem dX9_tests_80 : decode cX9_tests 80 = .ok (.iload_n 1, 1) := by decide +kernel
theorem dX9_tests_81 : decode cX9_tests 81 = .ok (.iaload, 1) := by decide +kernel
theorem dX9_tests_82 : decode cX9_tests 82 = .ok (.bipush 26, 2) := by decide +kernel
theorem dX9_tests_84 : decode cX9_tests 84 = .ok (.if_icmp .ne 22, 3) := by decide +kernel
theorem dX9_tests_87 : decode cX9_tests 87 = .ok (.aload_n 0, 1) := by decide +kernel
theorem dX9_tests_88 : decode cX9_tests 88 = .ok (.getfield 51, 3) := by decide +kernel
theorem dX9_tests_91 : decode cX9_tests 91 = .ok (.iload_n 1, 1) := by decide +kernel
theorem dX9_tests_92 : decode cX9_tests 92 = .ok (.iaload, 1) := by decide +kernel
theorem dX9_tests_93 : decode cX9_tests 93 = .ok (.ifCond .eq 11, 3) := by decide +kernel
theorem dX9_tests_96 : decode cX9_tests 96 = .ok (.iload_n 2, 1) := by decide +kernel
theorem dX9_tests_97 : decode cX9_tests 97 = .ok (.ifCond .eq 7, 3) := by decide +kernel
theorem dX9_tests_100 : decode cX9_tests 100 = .ok (.iconst 1, 1) := by decide +kernel
theorem dX9_tests_101 : decode cX9_tests 101 = .ok (.goto 4, 3) := by decide +kernel
theorem dX9_tests_104 : decode cX9_tests 104 = .ok (.iconst 0, 1) := by decide +kernel
theorem dX9_tests_105 : decode cX9_tests 105 = .ok (.istore_n 2, 1) := by decide +kernel
theorem dX9_tests_106 : decode cX9_tests 106 = .ok (.aload_n 0, 1) := by decide +kernel
theorem dX9_tests_107 : decode cX9_tests 107 = .ok (.getfield 54, 3) := by decide +kernel
theorem dX9_tests_110 : decode cX9_tests 110 = .ok (.iload_n 1, 1) := by decide +kernel
theorem dX9_tests_111 : decode cX9_tests 111 = .ok (.iaload, 1) := by decide +kernel
theorem dX9_tests_112 : decode cX9_tests 112 = .ok (.bipush 27, 2) := by decide +kernel
theorem dX9_tests_114 : decode cX9_tests 114 = .ok (.if_icmp .ne 22, 3) := by decide +kernel
theorem dX9_tests_117 : decode cX9_tests 117 = .ok (.aload_n 0, 1) := by decide +kernel
theorem dX9_tests_118 : decode cX9_tests 118 = .ok (.getfield 51, 3) := by decide +kernel
theorem dX9_tests_121 : decode cX9_tests 121 = .ok (.iload_n 1, 1) := by decide +kernel
theorem dX9_tests_122 : decode cX9_tests 122 = .ok (.iaload, 1) := by decide +kernel
theorem dX9_tests_123 : decode cX9_tests 123 = .ok (.ifCond .ne 7, 3) := by decide +kernel
theorem dX9_tests_126 : decode cX9_tests 126 = .ok (.iload_n 2, 1) := by decide +kernel
theorem dX9_tests_127 : decode cX9_tests 127 = .ok (.ifCond .eq 7, 3) := by decide +kernel
theorem dX9_tests_130 : decode cX9_tests 130 = .ok (.iconst 1, 1) := by decide +kernel
theorem dX9_tests_131 : decode cX9_tests 131 = .ok (.goto 4, 3) := by decide +kernel
theorem dX9_tests_134 : decode cX9_tests 134 = .ok (.iconst 0, 1) := by decide +kernel
theorem dX9_tests_135 : decode cX9_tests 135 = .ok (.istore_n 2, 1) := by decide +kernel
theorem dX9_tests_136 : decode cX9_tests 136 = .ok (.aload_n 0, 1) := by decide +kernel
theorem dX9_tests_137 : decode cX9_tests 137 = .ok (.getfield 51, 3) := by decide +kernel
theorem dX9_tests_140 : decode cX9_tests 140 = .ok (.iload_n 1, 1) := by decide +kernel
theorem dX9_tests_141 : decode cX9_tests 141 = .ok (.iload_n 2, 1) := by decide +kernel
theorem dX9_tests_142 : decode cX9_tests 142 = .ok (.iastore, 1) := by decide +kernel
theorem dX9_tests_143 : decode cX9_tests 143 = .ok (.aload_n 0, 1) := by decide +kernel
theorem dX9_tests_144 : decode cX9_tests 144 = .ok (.getfield 60, 3) := by decide +kernel
theorem dX9_tests_147 : decode cX9_tests 147 = .ok (.iload_n 1, 1) := by decide +kernel
theorem dX9_tests_148 : decode cX9_tests 148 = .ok (.iconst 0, 1) := by decide +kernel
theorem dX9_tests_149 : decode cX9_tests 149 = .ok (.iastore, 1) := by decide +kernel
theorem dX9_tests_150 : decode cX9_tests 150 = .ok (.aload_n 0, 1) := by decide +kernel
theorem dX9_tests_151 : decode cX9_tests 151 = .ok (.getfield 63, 3) := by decide +kernel
theorem dX9_tests_154 : decode cX9_tests 154 = .ok (.iload_n 1, 1) := by decide +kernel
theorem dX9_tests_155 : decode cX9_tests 155 = .ok (.iconst 0, 1) := by decide +kernel
theorem dX9_tests_156 : decode cX9_tests 156 = .ok (.iastore, 1) := by decide +kernel
theorem dX9_tests_157 : decode cX9_tests 157 = .ok (.aload_n 0, 1) := by decide +kernel
theorem dX9_tests_158 : decode cX9_tests 158 = .ok (.getfield 66, 3) := by decide +kernel
theorem dX9_tests_161 : decode cX9_tests 161 = .ok (.iload_n 1, 1) := by decide +kernel
theorem dX9_tests_162 : decode cX9_tests 162 = .ok (.bipush 20, 2) := by decide +kernel
theorem dX9_tests_164 : decode cX9_tests 164 = .ok (.iastore, 1) := by decide +kernel
theorem dX9_tests_165 : decode cX9_tests 165 = .ok (.return_, 1) := by decide +kernel
theorem dX9_worked_0 : decode cX9_worked 0 = .ok (.iconst 0, 1) := by decide +kernel
theorem dX9_worked_1 : decode cX9_worked 1 = .ok (.istore_n 2, 1) := by decide +kernel
theorem dX9_worked_2 : decode cX9_worked 2 = .ok (.aload_n 0, 1) := by decide +kernel
theorem dX9_worked_3 : decode cX9_worked 3 = .ok (.iconst 0, 1) := by decide +kernel
theorem dX9_worked_4 : decode cX9_worked 4 = .ok (.invokevirtual 199, 3) := by decide +kernel
theorem dX9_worked_7 : decode cX9_worked 7 = .ok (.aload_n 0, 1) := by decide +kernel
theorem dX9_worked_8 : decode cX9_worked 8 = .ok (.getfield 35, 3) := by decide +kernel
theorem dX9_worked_11 : decode cX9_worked 11 = .ok (.iload_n 1, 1) := by decide +kernel
theorem dX9_worked_12 : decode cX9_worked 12 = .ok (.iaload, 1) := by decide +kernel
theorem dX9_worked_13 : decode cX9_worked 13 = .ok (.istore_n 3, 1) := by decide +kernel
theorem dX9_worked_14 : decode cX9_worked 14 = .ok (.iload_n 3, 1) := by decide +kernel
theorem dX9_worked_15 : decode cX9_worked 15 = .ok (.aload_n 0, 1) := by decide +kernel
theorem dX9_worked_16 : decode cX9_worked 16 = .ok (.getfield 38, 3) := by decide +kernel
theorem dX9_worked_19 : decode cX9_worked 19 = .ok (.iload_n 1, 1) := by decide +kernel
theorem dX9_worked_20 : decode cX9_worked 20 = .ok (.iaload, 1) := by decide +kernel
theorem dX9_worked_21 : decode cX9_worked 21 = .ok (.if_icmp .ge 314, 3) := by decide +kernel
theorem dX9_worked_24 : decode cX9_worked 24 = .ok (.aload_n 0, 1) := by decide +kernel
theorem dX9_worked_25 : decode cX9_worked 25 = .ok (.getfield 41, 3) := by decide +kernel
theorem dX9_worked_28 : decode cX9_worked 28 = .ok (.iload_n 3, 1) := by decide +kernel
theorem dX9_worked_29 : decode cX9_worked 29 = .ok (.iaload, 1) := by decide +kernel
theorem dX9_worked_30 : decode cX9_worked 30 = .ok (.istore 4, 2) := by decide +kernel
theorem dX9_worked_32 : decode cX9_worked 32 = .ok (.iload 4, 2) := by decide +kernel
theorem dX9_worked_34 : decode cX9_worked 34 = .ok (.bipush 28, 2) := by decide +kernel
theorem dX9_worked_36 : decode cX9_worked 36 = .ok (.if_icmp .eq 10, 3) := by decide +kernel
theorem dX9_worked_39 : decode cX9_worked 39 = .ok (.iload 4, 2) := by decide +kernel
theorem dX9_worked_41 : decode cX9_worked 41 = .ok (.bipush 30, 2) := by decide +kernel
theorem dX9_worked_43 : decode cX9_worked 43 = .ok (.if_icmp .ne 32, 3) := by decide +kernel
theorem dX9_worked_46 : decode cX9_worked 46 = .ok (.iinc 2 1, 3) := by decide +kernel
theorem dX9_worked_49 : decode cX9_worked 49 = .ok (.aload_n 0, 1) := by decide +kernel
theorem dX9_worked_50 : decode cX9_worked 50 = .ok (.getfield 75, 3) := by decide +kernel
theorem dX9_worked_53 : decode cX9_worked 53 = .ok (.iload_n 2, 1) := by decide +kernel
theorem dX9_worked_54 : decode cX9_worked 54 = .ok (.iload 4, 2) := by decide +kernel
theorem dX9_worked_56 : decode cX9_worked 56 = .ok (.bipush 30, 2) := by decide +kernel
theorem dX9_worked_58 : decode cX9_worked 58 = .ok (.if_icmp .ne 7, 3) := by decide +kernel
theorem dX9_worked_61 : decode cX9_worked 61 = .ok (.iconst 1, 1) := by decide +kernel
theorem dX9_worked_62 : decode cX9_worked 62 = .ok (.goto 4, 3) := by decide +kernel
theorem dX9_worked_65 : decode cX9_worked 65 = .ok (.iconst 0, 1) := by decide +kernel
theorem dX9_worked_66 : decode cX9_worked 66 = .ok (.iastore, 1) := by decide +kernel
theorem dX9_worked_67 : decode cX9_worked 67 = .ok (.aload_n 0, 1) := by decide +kernel
theorem dX9_worked_68 : decode cX9_worked 68 = .ok (.iload_n 2, 1) := by decide +kernel
theorem dX9_worked_69 : decode cX9_worked 69 = .ok (.invokevirtual 199, 3) := by decide +kernel
theorem dX9_worked_72 : decode cX9_worked 72 = .ok (.goto 257, 3) := by decide +kernel
theorem dX9_worked_75 : decode cX9_worked 75 = .ok (.iload 4, 2) := by decide +kernel
theorem dX9_worked_77 : decode cX9_worked 77 = .ok (.bipush 20, 2) := by decide +kernel
theorem dX9_worked_79 : decode cX9_worked 79 = .ok (.if_icmp .eq 10, 3) := by decide +kernel
theorem dX9_worked_82 : decode cX9_worked 82 = .ok (.iload 4, 2) := by decide +kernel
theorem dX9_worked_84 : decode cX9_worked 84 = .ok (.bipush 21, 2) := by decide +kernel
theorem dX9_worked_86 : decode cX9_worked 86 = .ok (.if_icmp .ne 19, 3) := by decide +kernel
theorem dX9_worked_89 : decode cX9_worked 89 = .ok (.aload_n 0, 1) := by decide +kernel
theorem dX9_worked_90 : decode cX9_worked 90 = .ok (.iload_n 2, 1) := by decide +kernel
theorem dX9_worked_91 : decode cX9_worked 91 = .ok (.invokevirtual 196, 3) := by decide +kernel
theorem dX9_worked_94 : decode cX9_worked 94 = .ok (.aload_n 0, 1) := by decide +kernel
theorem dX9_worked_95 : decode cX9_worked 95 = .ok (.getfield 66, 3) := by decide +kernel
theorem dX9_worked_98 : decode cX9_worked 98 = .ok (.iload_n 2, 1) := by decide +kernel
theorem dX9_worked_99 : decode cX9_worked 99 = .ok (.iload 4, 2) := by decide +kernel
theorem dX9_worked_101 : decode cX9_worked 101 = .ok (.iastore, 1) := by decide +kernel
theorem dX9_worked_102 : decode cX9_worked 102 = .ok (.goto 227, 3) := by decide +kernel
theorem dX9_worked_105 : decode cX9_worked 105 = .ok (.iload 4, 2) := by decide +kernel
theorem dX9_worked_107 : decode cX9_worked 107 = .ok (.bipush 22, 2) := by decide +kernel
theorem dX9_worked_109 : decode cX9_worked 109 = .ok (.if_icmp .ne 14, 3) := by decide +kernel
theorem dX9_worked_112 : decode cX9_worked 112 = .ok (.aload_n 0, 1) := by decide +kernel
theorem dX9_worked_113 : decode cX9_worked 113 = .ok (.getfield 72, 3) := by decide +kernel
theorem dX9_worked_116 : decode cX9_worked 116 = .ok (.iload_n 2, 1) := by decide +kernel
theorem dX9_worked_117 : decode cX9_worked 117 = .ok (.iload 4, 2) := by decide +kernel
theorem dX9_worked_119 : decode cX9_worked 119 = .ok (.iastore, 1) := by decide +kernel
theorem dX9_worked_120 : decode cX9_worked 120 = .ok (.goto 209, 3) := by decide +kernel
theorem dX9_worked_123 : decode cX9_worked 123 = .ok (.iload 4, 2) := by decide +kernel
theorem dX9_worked_125 : decode cX9_worked 125 = .ok (.bipush 24, 2) := by decide +kernel
theorem dX9_worked_127 : decode cX9_worked 127 = .ok (.if_icmp .eq 10, 3) := by decide +kernel
