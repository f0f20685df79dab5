theorem dX11_takeExp_294 : decode cX11_takeExp 294 = .ok (.getfield 286, 3) := by decide +kernel
theorem dX11_takeExp_297 : decode cX11_takeExp 297 = .ok (.aload_n 0, 1) := by decide +kernel
theorem dX11_takeExp_298 : decode cX11_takeExp 298 = .ok (.aload_n 0, 1) := by decide +kernel
theorem dX11_takeExp_299 : decode cX11_takeExp 299 = .ok (.getfield 236, 3) := by decide +kernel
theorem dX11_takeExp_302 : decode cX11_takeExp 302 = .ok (.invokevirtual 239, 3) := by decide +kernel
theorem dX11_takeExp_305 : decode cX11_takeExp 305 = .ok (.iastore, 1) := by decide +kernel
theorem dX11_takeExp_306 : decode cX11_takeExp 306 = .ok (.aload_n 0, 1) := by decide +kernel
theorem dX11_takeExp_307 : decode cX11_takeExp 307 = .ok (.dup, 1) := by decide +kernel
theorem dX11_takeExp_308 : decode cX11_takeExp 308 = .ok (.getfield 286, 3) := by decide +kernel
theorem dX11_takeExp_311 : decode cX11_takeExp 311 = .ok (.iconst 1, 1) := by decide +kernel
theorem dX11_takeExp_312 : decode cX11_takeExp 312 = .ok (.iadd, 1) := by decide +kernel
theorem dX11_takeExp_313 : decode cX11_takeExp 313 = .ok (.putfield 286, 3) := by decide +kernel
theorem dX11_takeExp_316 : decode cX11_takeExp 316 = .ok (.iconst 1, 1) := by decide +kernel
theorem dX11_takeExp_317 : decode cX11_takeExp 317 = .ok (.istore_n 3, 1) := by decide +kernel
theorem dX11_takeExp_318 : decode cX11_takeExp 318 = .ok (.aload_n 0, 1) := by decide +kernel
theorem dX11_takeExp_319 : decode cX11_takeExp 319 = .ok (.invokevirtual 274, 3) := by decide +kernel
theorem dX11_takeExp_322 : decode cX11_takeExp 322 = .ok (.goto (-297), 3) := by decide +kernel
theorem dX11_takeExp_325 : decode cX11_takeExp 325 = .ok (.aload_n 0, 1) := by decide +kernel
theorem dX11_takeExp_326 : decode cX11_takeExp 326 = .ok (.iconst 1, 1) := by decide +kernel
theorem dX11_takeExp_327 : decode cX11_takeExp 327 = .ok (.invokevirtual 302, 3) := by decide +kernel
theorem dX11_takeExp_330 : decode cX11_takeExp 330 = .ok (.aload_n 0, 1) := by decide +kernel
theorem dX11_takeExp_331 : decode cX11_takeExp 331 = .ok (.bipush 41, 2) := by decide +kernel
theorem dX11_takeExp_333 : decode cX11_takeExp 333 = .ok (.invokevirtual 267, 3) := by decide +kernel
theorem dX11_takeExp_336 : decode cX11_takeExp 336 = .ok (.ifCond .eq 14, 3) := by decide +kernel
theorem dX11_takeExp_339 : decode cX11_takeExp 339 = .ok (.aload_n 0, 1) := by decide +kernel
theorem dX11_takeExp_340 : decode cX11_takeExp 340 = .ok (.getfield 286, 3) := by decide +kernel
theorem dX11_takeExp_343 : decode cX11_takeExp 343 = .ok (.ifCond .le 7, 3) := by decide +kernel
theorem dX11_takeExp_346 : decode cX11_takeExp 346 = .ok (.iconst 1, 1) := by decide +kernel
theorem dX11_takeExp_347 : decode cX11_takeExp 347 = .ok (.goto 4, 3) := by decide +kernel
theorem dX11_takeExp_350 : decode cX11_takeExp 350 = .ok (.iconst 0, 1) := by decide +kernel
theorem dX11_takeExp_351 : decode cX11_takeExp 351 = .ok (.istore 4, 2) := by decide +kernel
theorem dX11_takeExp_353 : decode cX11_takeExp 353 = .ok (.iload 4, 2) := by decide +kernel
theorem dX11_takeExp_355 : decode cX11_takeExp 355 = .ok (.ifCond .eq (-330), 3) := by decide +kernel
theorem dX11_takeExp_358 : decode cX11_takeExp 358 = .ok (.aload_n 0, 1) := by decide +kernel
theorem dX11_takeExp_359 : decode cX11_takeExp 359 = .ok (.dup, 1) := by decide +kernel
theorem dX11_takeExp_360 : decode cX11_takeExp 360 = .ok (.getfield 286, 3) := by decide +kernel
theorem dX11_takeExp_363 : decode cX11_takeExp 363 = .ok (.iconst 1, 1) := by decide +kernel
theorem dX11_takeExp_364 : decode cX11_takeExp 364 = .ok (.isub, 1) := by decide +kernel
theorem dX11_takeExp_365 : decode cX11_takeExp 365 = .ok (.putfield 286, 3) := by decide +kernel
theorem dX11_takeExp_368 : decode cX11_takeExp 368 = .ok (.aload_n 0, 1) := by decide +kernel
theorem dX11_takeExp_369 : decode cX11_takeExp 369 = .ok (.dup, 1) := by decide +kernel
theorem dX11_takeExp_370 : decode cX11_takeExp 370 = .ok (.getfield 292, 3) := by decide +kernel
theorem dX11_takeExp_373 : decode cX11_takeExp 373 = .ok (.iconst 1, 1) := by decide +kernel
theorem dX11_takeExp_374 : decode cX11_takeExp 374 = .ok (.isub, 1) := by decide +kernel
theorem dX11_takeExp_375 : decode cX11_takeExp 375 = .ok (.putfield 292, 3) := by decide +kernel
theorem dX11_takeExp_378 : decode cX11_takeExp 378 = .ok (.aload_n 0, 1) := by decide +kernel
theorem dX11_takeExp_379 : decode cX11_takeExp 379 = .ok (.invokevirtual 299, 3) := by decide +kernel
theorem dX11_takeExp_382 : decode cX11_takeExp 382 = .ok (.aload_n 0, 1) := by decide +kernel
theorem dX11_takeExp_383 : decode cX11_takeExp 383 = .ok (.invokevirtual 274, 3) := by decide +kernel
theorem dX11_takeExp_386 : decode cX11_takeExp 386 = .ok (.goto (-361), 3) := by decide +kernel
theorem dX11_takeExp_389 : decode cX11_takeExp 389 = .ok (.aload_n 0, 1) := by decide +kernel
theorem dX11_takeExp_390 : decode cX11_takeExp 390 = .ok (.getfield 102, 3) := by decide +kernel
theorem dX11_takeExp_393 : decode cX11_takeExp 393 = .ok (.iload_n 2, 1) := by decide +kernel
theorem dX11_takeExp_394 : decode cX11_takeExp 394 = .ok (.aload_n 0, 1) := by decide +kernel
theorem dX11_takeExp_395 : decode cX11_takeExp 395 = .ok (.getfield 283, 3) := by decide +kernel
theorem dX11_takeExp_398 : decode cX11_takeExp 398 = .ok (.iastore, 1) := by decide +kernel
theorem dX11_takeExp_399 : decode cX11_takeExp 399 = .ok (.aload_n 0, 1) := by decide +kernel
theorem dX11_takeExp_400 : decode cX11_takeExp 400 = .ok (.aload_n 0, 1) := by decide +kernel
theorem dX11_takeExp_401 : decode cX11_takeExp 401 = .ok (.getfield 286, 3) := by decide +kernel
theorem dX11_takeExp_404 : decode cX11_takeExp 404 = .ok (.ifCond .ne 7, 3) := by decide +kernel
theorem dX11_takeExp_407 : decode cX11_takeExp 407 = .ok (.iconst 1, 1) := by decide +kernel
theorem dX11_takeExp_408 : decode cX11_takeExp 408 = .ok (.goto 4, 3) := by decide +kernel
theorem dX11_takeExp_411 : decode cX11_takeExp 411 = .ok (.iconst 0, 1) := by decide +kernel
theorem dX11_takeExp_412 : decode cX11_takeExp 412 = .ok (.invokevirtual 270, 3) := by decide +kernel
theorem dX11_takeExp_415 : decode cX11_takeExp 415 = .ok (.ireturn, 1) := by decide +kernel
theorem dX11_openBlock_0 : decode cX11_openBlock 0 = .ok (.aload_n 0, 1) := by decide +kernel
theorem dX11_openBlock_1 : decode cX11_openBlock 1 = .ok (.aload_n 0, 1) := by decide +kernel
theorem dX11_openBlock_2 : decode cX11_openBlock 2 = .ok (.bipush 123, 2) := by decide +kernel
theorem dX11_openBlock_4 : decode cX11_openBlock 4 = .ok (.invokevirtual 267, 3) := by decide +kernel
theorem dX11_openBlock_7 : decode cX11_openBlock 7 = .ok (.invokevirtual 270, 3) := by decide +kernel
theorem dX11_openBlock_10 : decode cX11_openBlock 10 = .ok (.ifCond .ne 5, 3) := by decide +kernel
theorem dX11_openBlock_13 : decode cX11_openBlock 13 = .ok (.iconst 0, 1) := by decide +kernel
theorem dX11_openBlock_14 : decode cX11_openBlock 14 = .ok (.ireturn, 1) := by decide +kernel
theorem dX11_openBlock_15 : decode cX11_openBlock 15 = .ok (.aload_n 0, 1) := by decide +kernel
theorem dX11_openBlock_16 : decode cX11_openBlock 16 = .ok (.getfield 306, 3) := by decide +kernel
theorem dX11_openBlock_19 : decode cX11_openBlock 19 = .ok (.bipush 10, 2) := by decide +kernel
theorem dX11_openBlock_21 : decode cX11_openBlock 21 = .ok (.if_icmp .ne 13, 3) := by decide +kernel
theorem dX11_openBlock_24 : decode cX11_openBlock 24 = .ok (.aload_n 0, 1) := by decide +kernel
theorem dX11_openBlock_25 : decode cX11_openBlock 25 = .ok (.iconst 3, 1) := by decide +kernel
theorem dX11_openBlock_26 : decode cX11_openBlock 26 = .ok (.aload_n 0, 1) := by decide +kernel
theorem dX11_openBlock_27 : decode cX11_openBlock 27 = .ok (.getfield 236, 3) := by decide +kernel
theorem dX11_openBlock_30 : decode cX11_openBlock 30 = .ok (.invokevirtual 263, 3) := by decide +kernel
theorem dX11_openBlock_33 : decode cX11_openBlock 33 = .ok (.ireturn, 1) := by decide +kernel
theorem dX11_openBlock_34 : decode cX11_openBlock 34 = .ok (.aload_n 0, 1) := by decide +kernel
theorem dX11_openBlock_35 : decode cX11_openBlock 35 = .ok (.getfield 114, 3) := by decide +kernel
theorem dX11_openBlock_38 : decode cX11_openBlock 38 = .ok (.aload_n 0, 1) := by decide +kernel
theorem dX11_openBlock_39 : decode cX11_openBlock 39 = .ok (.getfield 309, 3) := by decide +kernel
theorem dX11_openBlock_42 : decode cX11_openBlock 42 = .ok (.iload_n 1, 1) := by decide +kernel
theorem dX11_openBlock_43 : decode cX11_openBlock 43 = .ok (.iastore, 1) := by decide +kernel
theorem dX11_openBlock_44 : decode cX11_openBlock 44 = .ok (.aload_n 0, 1) := by decide +kernel
theorem dX11_openBlock_45 : decode cX11_openBlock 45 = .ok (.getfield 117, 3) := by decide +kernel
theorem dX11_openBlock_48 : decode cX11_openBlock 48 = .ok (.aload_n 0, 1) := by decide +kernel
theorem dX11_openBlock_49 : decode cX11_openBlock 49 = .ok (.getfield 309, 3) := by decide +kernel
theorem dX11_openBlock_52 : decode cX11_openBlock 52 = .ok (.iload_n 2, 1) := by decide +kernel
theorem dX11_openBlock_53 : decode cX11_openBlock 53 = .ok (.iastore, 1) := by decide +kernel
theorem dX11_openBlock_54 : decode cX11_openBlock 54 = .ok (.aload_n 0, 1) := by decide +kernel
theorem dX11_openBlock_55 : decode cX11_openBlock 55 = .ok (.getfield 120, 3) := by decide +kernel
theorem dX11_openBlock_58 : decode cX11_openBlock 58 = .ok (.aload_n 0, 1) := by decide +kernel
theorem dX11_openBlock_59 : decode cX11_openBlock 59 = .ok (.getfield 309, 3) := by decide +kernel
theorem dX11_openBlock_62 : decode cX11_openBlock 62 = .ok (.iconst (-1), 1) := by decide +kernel
theorem dX11_openBlock_63 : decode cX11_openBlock 63 = .ok (.iastore, 1) := by decide +kernel
theorem dX11_openBlock_64 : decode cX11_openBlock 64 = .ok (.aload_n 0, 1) := by decide +kernel
theorem dX11_openBlock_65 : decode cX11_openBlock 65 = .ok (.getfield 123, 3) := by decide +kernel
theorem dX11_openBlock_68 : decode cX11_openBlock 68 = .ok (.aload_n 0, 1) := by decide +kernel
theorem dX11_openBlock_69 : decode cX11_openBlock 69 = .ok (.getfield 306, 3) := by decide +kernel
theorem dX11_openBlock_72 : decode cX11_openBlock 72 = .ok (.aload_n 0, 1) := by decide +kernel
theorem dX11_openBlock_73 : decode cX11_openBlock 73 = .ok (.getfield 309, 3) := by decide +kernel
theorem dX11_openBlock_76 : decode cX11_openBlock 76 = .ok (.iastore, 1) := by decide +kernel
theorem dX11_openBlock_77 : decode cX11_openBlock 77 = .ok (.aload_n 0, 1) := by decide +kernel
theorem dX11_openBlock_78 : decode cX11_openBlock 78 = .ok (.dup, 1) := by decide +kernel
theorem dX11_openBlock_79 : decode cX11_openBlock 79 = .ok (.getfield 306, 3) := by decide +kernel
theorem dX11_openBlock_82 : decode cX11_openBlock 82 = .ok (.iconst 1, 1) := by decide +kernel
theorem dX11_openBlock_83 : decode cX11_openBlock 83 = .ok (.iadd, 1) := by decide +kernel
theorem dX11_openBlock_84 : decode cX11_openBlock 84 = .ok (.putfield 306, 3) := by decide +kernel
theorem dX11_openBlock_87 : decode cX11_openBlock 87 = .ok (.aload_n 0, 1) := by decide +kernel
theorem dX11_openBlock_88 : decode cX11_openBlock 88 = .ok (.dup, 1) := by decide +kernel
theorem dX11_openBlock_89 : decode cX11_openBlock 89 = .ok (.getfield 309, 3) := by decide +kernel
theorem dX11_openBlock_92 : decode cX11_openBlock 92 = .ok (.iconst 1, 1) := by decide +kernel
theorem dX11_openBlock_93 : decode cX11_openBlock 93 = .ok (.iadd, 1) := by decide +kernel
theorem dX11_openBlock_94 : decode cX11_openBlock 94 = .ok (.putfield 309, 3) := by decide +kernel
theorem dX11_openBlock_97 : decode cX11_openBlock 97 = .ok (.aload_n 0, 1) := by decide +kernel
theorem dX11_openBlock_98 : decode cX11_openBlock 98 = .ok (.invokevirtual 274, 3) := by decide +kernel
theorem dX11_openBlock_101 : decode cX11_openBlock 101 = .ok (.iconst 1, 1) := by decide +kernel
theorem dX11_openBlock_102 : decode cX11_openBlock 102 = .ok (.ireturn, 1) := by decide +kernel
theorem dX11_begin_0 : decode cX11_begin 0 = .ok (.aload_n 0, 1) := by decide +kernel
theorem dX11_begin_1 : decode cX11_begin 1 = .ok (.getfield 312, 3) := by decide +kernel
theorem dX11_begin_4 : decode cX11_begin 4 = .ok (.istore_n 3, 1) := by decide +kernel
theorem dX11_begin_5 : decode cX11_begin 5 = .ok (.aload_n 0, 1) := by decide +kernel
theorem dX11_begin_6 : decode cX11_begin 6 = .ok (.dup, 1) := by decide +kernel
theorem dX11_begin_7 : decode cX11_begin 7 = .ok (.getfield 312, 3) := by decide +kernel
theorem dX11_begin_10 : decode cX11_begin 10 = .ok (.iconst 1, 1) := by decide +kernel
theorem dX11_begin_11 : decode cX11_begin 11 = .ok (.iadd, 1) := by decide +kernel
theorem dX11_begin_12 : decode cX11_begin 12 = .ok (.putfield 312, 3) := by decide +kernel
theorem dX11_begin_15 : decode cX11_begin 15 = .ok (.aload_n 0, 1) := by decide +kernel
theorem dX11_begin_16 : decode cX11_begin 16 = .ok (.getfield 123, 3) := by decide +kernel
theorem dX11_begin_19 : decode cX11_begin 19 = .ok (.aload_n 0, 1) := by decide +kernel
theorem dX11_begin_20 : decode cX11_begin 20 = .ok (.getfield 306, 3) := by decide +kernel
theorem dX11_begin_23 : decode cX11_begin 23 = .ok (.iconst 1, 1) := by decide +kernel
theorem dX11_begin_24 : decode cX11_begin 24 = .ok (.isub, 1) := by decide +kernel
theorem dX11_begin_25 : decode cX11_begin 25 = .ok (.iaload, 1) := by decide +kernel
theorem dX11_begin_26 : decode cX11_begin 26 = .ok (.istore 4, 2) := by decide +kernel
theorem dX11_begin_28 : decode cX11_begin 28 = .ok (.aload_n 0, 1) := by decide +kernel
theorem dX11_begin_29 : decode cX11_begin 29 = .ok (.getfield 75, 3) := by decide +kernel
theorem dX11_begin_32 : decode cX11_begin 32 = .ok (.iload_n 3, 1) := by decide +kernel
theorem dX11_begin_33 : decode cX11_begin 33 = .ok (.iload_n 2, 1) := by decide +kernel
theorem dX11_begin_34 : decode cX11_begin 34 = .ok (.iastore, 1) := by decide +kernel
theorem dX11_begin_35 : decode cX11_begin 35 = .ok (.aload_n 0, 1) := by decide +kernel
theorem dX11_begin_36 : decode cX11_begin 36 = .ok (.getfield 78, 3) := by decide +kernel
theorem dX11_begin_39 : decode cX11_begin 39 = .ok (.iload_n 3, 1) := by decide +kernel
theorem dX11_begin_40 : decode cX11_begin 40 = .ok (.aload_n 0, 1) := by decide +kernel
theorem dX11_begin_41 : decode cX11_begin 41 = .ok (.getfield 236, 3) := by decide +kernel
theorem dX11_begin_44 : decode cX11_begin 44 = .ok (.iastore, 1) := by decide +kernel
theorem dX11_begin_45 : decode cX11_begin 45 = .ok (.aload_n 0, 1) := by decide +kernel
theorem dX11_begin_46 : decode cX11_begin 46 = .ok (.getfield 81, 3) := by decide +kernel
theorem dX11_begin_49 : decode cX11_begin 49 = .ok (.iload_n 3, 1) := by decide +kernel
theorem dX11_begin_50 : decode cX11_begin 50 = .ok (.iload_n 1, 1) := by decide +kernel
theorem dX11_begin_51 : decode cX11_begin 51 = .ok (.iastore, 1) := by decide +kernel
theorem dX11_begin_52 : decode cX11_begin 52 = .ok (.aload_n 0, 1) := by decide +kernel
theorem dX11_begin_53 : decode cX11_begin 53 = .ok (.getfield 93, 3) := by decide +kernel
theorem dX11_begin_56 : decode cX11_begin 56 = .ok (.iload_n 3, 1) := by decide +kernel
theorem dX11_begin_57 : decode cX11_begin 57 = .ok (.iconst (-1), 1) := by decide +kernel
theorem dX11_begin_58 : decode cX11_begin 58 = .ok (.iastore, 1) := by decide +kernel
theorem dX11_begin_59 : decode cX11_begin 59 = .ok (.aload_n 0, 1) := by decide +kernel
theorem dX11_begin_60 : decode cX11_begin 60 = .ok (.getfield 96, 3) := by decide +kernel
theorem dX11_begin_63 : decode cX11_begin 63 = .ok (.iload_n 3, 1) := by decide +kernel
theorem dX11_begin_64 : decode cX11_begin 64 = .ok (.iload 4, 2) := by decide +kernel
theorem dX11_begin_66 : decode cX11_begin 66 = .ok (.iastore, 1) := by decide +kernel
theorem dX11_begin_67 : decode cX11_begin 67 = .ok (.aload_n 0, 1) := by decide +kernel
theorem dX11_begin_68 : decode cX11_begin 68 = .ok (.getfield 87, 3) := by decide +kernel
theorem dX11_begin_71 : decode cX11_begin 71 = .ok (.iconst 2, 1) := by decide +kernel
theorem dX11_begin_72 : decode cX11_begin 72 = .ok (.iload_n 3, 1) := by decide +kernel
theorem dX11_begin_73 : decode cX11_begin 73 = .ok (.imul, 1) := by decide +kernel
theorem dX11_begin_74 : decode cX11_begin 74 = .ok (.iconst (-1), 1) := by decide +kernel
theorem dX11_begin_75 : decode cX11_begin 75 = .ok (.iastore, 1) := by decide +kernel
theorem dX11_begin_76 : decode cX11_begin 76 = .ok (.aload_n 0, 1) := by decide +kernel
theorem dX11_begin_77 : decode cX11_begin 77 = .ok (.getfield 87, 3) := by decide +kernel
theorem dX11_begin_80 : decode cX11_begin 80 = .ok (.iconst 2, 1) := by decide +kernel
theorem dX11_begin_81 : decode cX11_begin 81 = .ok (.iload_n 3, 1) := by decide +kernel
theorem dX11_begin_82 : decode cX11_begin 82 = .ok (.imul, 1) := by decide +kernel
theorem dX11_begin_83 : decode cX11_begin 83 = .ok (.iconst 1, 1) := by decide +kernel
theorem dX11_begin_84 : decode cX11_begin 84 = .ok (.iadd, 1) := by decide +kernel
theorem dX11_begin_85 : decode cX11_begin 85 = .ok (.iconst (-1), 1) := by decide +kernel
theorem dX11_begin_86 : decode cX11_begin 86 = .ok (.iastore, 1) := by decide +kernel
theorem dX11_begin_87 : decode cX11_begin 87 = .ok (.aload_n 0, 1) := by decide +kernel
theorem dX11_begin_88 : decode cX11_begin 88 = .ok (.getfield 99, 3) := by decide +kernel
theorem dX11_begin_91 : decode cX11_begin 91 = .ok (.iload_n 3, 1) := by decide +kernel
theorem dX11_begin_92 : decode cX11_begin 92 = .ok (.iconst 0, 1) := by decide +kernel
theorem dX11_begin_93 : decode cX11_begin 93 = .ok (.iastore, 1) := by decide +kernel
theorem dX11_begin_94 : decode cX11_begin 94 = .ok (.aload_n 0, 1) := by decide +kernel
theorem dX11_begin_95 : decode cX11_begin 95 = .ok (.getfield 102, 3) := by decide +kernel
theorem dX11_begin_98 : decode cX11_begin 98 = .ok (.iload_n 3, 1) := by decide +kernel
theorem dX11_begin_99 : decode cX11_begin 99 = .ok (.iconst 0, 1) := by decide +kernel
theorem dX11_begin_100 : decode cX11_begin 100 = .ok (.iastore, 1) := by decide +kernel
theorem dX11_begin_101 : decode cX11_begin 101 = .ok (.aload_n 0, 1) := by decide +kernel
theorem dX11_begin_102 : decode cX11_begin 102 = .ok (.getfield 120, 3) := by decide +kernel
theorem dX11_begin_105 : decode cX11_begin 105 = .ok (.iload 4, 2) := by decide +kernel
theorem dX11_begin_107 : decode cX11_begin 107 = .ok (.iaload, 1) := by decide +kernel
theorem dX11_begin_108 : decode cX11_begin 108 = .ok (.iconst (-1), 1) := by decide +kernel
theorem dX11_begin_109 : decode cX11_begin 109 = .ok (.if_icmp .eq 19, 3) := by decide +kernel
theorem dX11_begin_112 : decode cX11_begin 112 = .ok (.aload_n 0, 1) := by decide +kernel
theorem dX11_begin_113 : decode cX11_begin 113 = .ok (.getfield 93, 3) := by decide +kernel
theorem dX11_begin_116 : decode cX11_begin 116 = .ok (.aload_n 0, 1) := by decide +kernel
theorem dX11_begin_117 : decode cX11_begin 117 = .ok (.getfield 120, 3) := by decide +kernel
theorem dX11_begin_120 : decode cX11_begin 120 = .ok (.iload 4, 2) := by decide +kernel
theorem dX11_begin_122 : decode cX11_begin 122 = .ok (.iaload, 1) := by decide +kernel
theorem dX11_begin_123 : decode cX11_begin 123 = .ok (.iload_n 3, 1) := by decide +kernel
theorem dX11_begin_124 : decode cX11_begin 124 = .ok (.iastore, 1) := by decide +kernel
theorem dX11_begin_125 : decode cX11_begin 125 = .ok (.goto 55, 3) := by decide +kernel
theorem dX11_begin_128 : decode cX11_begin 128 = .ok (.aload_n 0, 1) := by decide +kernel
theorem dX11_begin_129 : decode cX11_begin 129 = .ok (.getfield 117, 3) := by decide +kernel
theorem dX11_begin_132 : decode cX11_begin 132 = .ok (.iload 4, 2) := by decide +kernel
theorem dX11_begin_134 : decode cX11_begin 134 = .ok (.iaload, 1) := by decide +kernel
theorem dX11_begin_135 : decode cX11_begin 135 = .ok (.ifCond .ne 13, 3) := by decide +kernel
theorem dX11_begin_138 : decode cX11_begin 138 = .ok (.aload_n 0, 1) := by decide +kernel
theorem dX11_begin_139 : decode cX11_begin 139 = .ok (.getfield 72, 3) := by decide +kernel
theorem dX11_begin_142 : decode cX11_begin 142 = .ok (.iload_n 1, 1) := by decide +kernel
theorem dX11_begin_143 : decode cX11_begin 143 = .ok (.iload_n 3, 1) := by decide +kernel
theorem dX11_begin_144 : decode cX11_begin 144 = .ok (.iastore, 1) := by decide +kernel
theorem dX11_begin_145 : decode cX11_begin 145 = .ok (.goto 35, 3) := by decide +kernel
theorem dX11_begin_148 : decode cX11_begin 148 = .ok (.aload_n 0, 1) := by decide +kernel
theorem dX11_begin_149 : decode cX11_begin 149 = .ok (.getfield 87, 3) := by decide +kernel
theorem dX11_begin_152 : decode cX11_begin 152 = .ok (.iconst 2, 1) := by decide +kernel
theorem dX11_begin_153 : decode cX11_begin 153 = .ok (.aload_n 0, 1) := by decide +kernel
theorem dX11_begin_154 : decode cX11_begin 154 = .ok (.getfield 114, 3) := by decide +kernel
theorem dX11_begin_157 : decode cX11_begin 157 = .ok (.iload 4, 2) := by decide +kernel
theorem dX11_begin_159 : decode cX11_begin 159 = .ok (.iaload, 1) := by decide +kernel
theorem dX11_begin_160 : decode cX11_begin 160 = .ok (.imul, 1) := by decide +kernel
theorem dX11_begin_161 : decode cX11_begin 161 = .ok (.aload_n 0, 1) := by decide +kernel
theorem dX11_begin_162 : decode cX11_begin 162 = .ok (.getfield 117, 3) := by decide +kernel
theorem dX11_begin_165 : decode cX11_begin 165 = .ok (.iload 4, 2) := by decide +kernel
theorem dX11_begin_167 : decode cX11_begin 167 = .ok (.iaload, 1) := by decide +kernel
theorem dX11_begin_168 : decode cX11_begin 168 = .ok (.iconst 2, 1) := by decide +kernel
theorem dX11_begin_169 : decode cX11_begin 169 = .ok (.if_icmp .ne 7, 3) := by decide +kernel
theorem dX11_begin_172 : decode cX11_begin 172 = .ok (.iconst 0, 1) := by decide +kernel
theorem dX11_begin_173 : decode cX11_begin 173 = .ok (.goto 4, 3) := by decide +kernel
theorem dX11_begin_176 : decode cX11_begin 176 = .ok (.iconst 1, 1) := by decide +kernel
theorem dX11_begin_177 : decode cX11_begin 177 = .ok (.iadd, 1) := by decide +kernel
theorem dX11_begin_178 : decode cX11_begin 178 = .ok (.iload_n 3, 1) := by decide +kernel
theorem dX11_begin_179 : decode cX11_begin 179 = .ok (.iastore, 1) := by decide +kernel
theorem dX11_begin_180 : decode cX11_begin 180 = .ok (.aload_n 0, 1) := by decide +kernel
theorem dX11_begin_181 : decode cX11_begin 181 = .ok (.getfield 120, 3) := by decide +kernel
theorem dX11_begin_184 : decode cX11_begin 184 = .ok (.iload 4, 2) := by decide +kernel
theorem dX11_begin_186 : decode cX11_begin 186 = .ok (.iload_n 3, 1) := by decide +kernel
theorem dX11_begin_187 : decode cX11_begin 187 = .ok (.iastore, 1) := by decide +kernel
theorem dX11_begin_188 : decode cX11_begin 188 = .ok (.iload_n 3, 1) := by decide +kernel
theorem dX11_begin_189 : decode cX11_begin 189 = .ok (.ireturn, 1) := by decide +kernel
theorem dX11_kindOf_0 : decode cX11_kindOf 0 = .ok (.aload_n 0, 1) := by decide +kernel
theorem dX11_kindOf_1 : decode cX11_kindOf 1 = .ok (.getfield 243, 3) := by decide +kernel
theorem dX11_kindOf_4 : decode cX11_kindOf 4 = .ok (.iconst 1, 1) := by decide +kernel
theorem dX11_kindOf_5 : decode cX11_kindOf 5 = .ok (.if_icmp .ne 7, 3) := by decide +kernel
theorem dX11_kindOf_8 : decode cX11_kindOf 8 = .ok (.iconst 0, 1) := by decide +kernel
theorem dX11_kindOf_9 : decode cX11_kindOf 9 = .ok (.goto 104, 3) := by decide +kernel
theorem dX11_kindOf_12 : decode cX11_kindOf 12 = .ok (.aload_n 0, 1) := by decide +kernel
theorem dX11_kindOf_13 : decode cX11_kindOf 13 = .ok (.ldc2_w 217, 3) := by decide +kernel
theorem dX11_kindOf_16 : decode cX11_kindOf 16 = .ok (.invokevirtual 315, 3) := by decide +kernel
theorem dX11_kindOf_19 : decode cX11_kindOf 19 = .ok (.ifCond .eq 7, 3) := by decide +kernel
theorem dX11_kindOf_22 : decode cX11_kindOf 22 = .ok (.iconst 1, 1) := by decide +kernel
theorem dX11_kindOf_23 : decode cX11_kindOf 23 = .ok (.goto 90, 3) := by decide +kernel
theorem dX11_kindOf_26 : decode cX11_kindOf 26 = .ok (.aload_n 0, 1) := by decide +kernel
theorem dX11_kindOf_27 : decode cX11_kindOf 27 = .ok (.ldc2_w 221, 3) := by decide +kernel
theorem dX11_kindOf_30 : decode cX11_kindOf 30 = .ok (.invokevirtual 315, 3) := by decide +kernel
theorem dX11_kindOf_33 : decode cX11_kindOf 33 = .ok (.ifCond .eq 7, 3) := by decide +kernel
theorem dX11_kindOf_36 : decode cX11_kindOf 36 = .ok (.iconst 2, 1) := by decide +kernel
theorem dX11_kindOf_37 : decode cX11_kindOf 37 = .ok (.goto 76, 3) := by decide +kernel
theorem dX11_kindOf_40 : decode cX11_kindOf 40 = .ok (.aload_n 0, 1) := by decide +kernel
theorem dX11_kindOf_41 : decode cX11_kindOf 41 = .ok (.ldc2_w 223, 3) := by decide +kernel
theorem dX11_kindOf_44 : decode cX11_kindOf 44 = .ok (.invokevirtual 315, 3) := by decide +kernel
theorem dX11_kindOf_47 : decode cX11_kindOf 47 = .ok (.ifCond .eq 7, 3) := by decide +kernel
theorem dX11_kindOf_50 : decode cX11_kindOf 50 = .ok (.iconst 3, 1) := by decide +kernel
theorem dX11_kindOf_51 : decode cX11_kindOf 51 = .ok (.goto 62, 3) := by decide +kernel
theorem dX11_kindOf_54 : decode cX11_kindOf 54 = .ok (.aload_n 0, 1) := by decide +kernel
theorem dX11_kindOf_55 : decode cX11_kindOf 55 = .ok (.ldc2_w 225, 3) := by decide +kernel
theorem dX11_kindOf_58 : decode cX11_kindOf 58 = .ok (.invokevirtual 315, 3) := by decide +kernel
theorem dX11_kindOf_61 : decode cX11_kindOf 61 = .ok (.ifCond .eq 7, 3) := by decide +kernel
theorem dX11_kindOf_64 : decode cX11_kindOf 64 = .ok (.iconst 4, 1) := by decide +kernel
theorem dX11_kindOf_65 : decode cX11_kindOf 65 = .ok (.goto 48, 3) := by decide +kernel
theorem dX11_kindOf_68 : decode cX11_kindOf 68 = .ok (.aload_n 0, 1) := by decide +kernel
theorem dX11_kindOf_69 : decode cX11_kindOf 69 = .ok (.ldc2_w 227, 3) := by decide +kernel
theorem dX11_kindOf_72 : decode cX11_kindOf 72 = .ok (.invokevirtual 315, 3) := by decide +kernel
theorem dX11_kindOf_75 : decode cX11_kindOf 75 = .ok (.ifCond .eq 7, 3) := by decide +kernel
theorem dX11_kindOf_78 : decode cX11_kindOf 78 = .ok (.iconst 5, 1) := by decide +kernel
theorem dX11_kindOf_79 : decode cX11_kindOf 79 = .ok (.goto 34, 3) := by decide +kernel
theorem dX11_kindOf_82 : decode cX11_kindOf 82 = .ok (.aload_n 0, 1) := by decide +kernel
theorem dX11_kindOf_83 : decode cX11_kindOf 83 = .ok (.ldc2_w 229, 3) := by decide +kernel
theorem dX11_kindOf_86 : decode cX11_kindOf 86 = .ok (.invokevirtual 315, 3) := by decide +kernel
theorem dX11_kindOf_89 : decode cX11_kindOf 89 = .ok (.ifCond .eq 8, 3) := by decide +kernel
theorem dX11_kindOf_92 : decode cX11_kindOf 92 = .ok (.bipush 6, 2) := by decide +kernel
theorem dX11_kindOf_94 : decode cX11_kindOf 94 = .ok (.goto 19, 3) := by decide +kernel
theorem dX11_kindOf_97 : decode cX11_kindOf 97 = .ok (.aload_n 0, 1) := by decide +kernel
theorem dX11_kindOf_98 : decode cX11_kindOf 98 = .ok (.ldc2_w 231, 3) := by decide +kernel
theorem dX11_kindOf_101 : decode cX11_kindOf 101 = .ok (.invokevirtual 315, 3) := by decide +kernel
theorem dX11_kindOf_104 : decode cX11_kindOf 104 = .ok (.ifCond .eq 8, 3) := by decide +kernel
theorem dX11_kindOf_107 : decode cX11_kindOf 107 = .ok (.bipush 7, 2) := by decide +kernel
theorem dX11_kindOf_109 : decode cX11_kindOf 109 = .ok (.goto 4, 3) := by decide +kernel
theorem dX11_kindOf_112 : decode cX11_kindOf 112 = .ok (.iconst (-1), 1) := by decide +kernel
theorem dX11_kindOf_113 : decode cX11_kindOf 113 = .ok (.ireturn, 1) := by decide +kernel
theorem dX11_takeStatement_0 : decode cX11_takeStatement 0 = .ok (.aload_n 0, 1) := by decide +kernel
theorem dX11_takeStatement_1 : decode cX11_takeStatement 1 = .ok (.invokevirtual 318, 3) := by decide +kernel
theorem dX11_takeStatement_4 : decode cX11_takeStatement 4 = .ok (.istore_n 2, 1) := by decide +kernel
theorem dX11_takeStatement_5 : decode cX11_takeStatement 5 = .ok (.aload_n 0, 1) := by decide +kernel
theorem dX11_takeStatement_6 : decode cX11_takeStatement 6 = .ok (.iload_n 2, 1) := by decide +kernel
theorem dX11_takeStatement_7 : decode cX11_takeStatement 7 = .ok (.iconst (-1), 1) := by decide +kernel
theorem dX11_takeStatement_8 : decode cX11_takeStatement 8 = .ok (.if_icmp .eq 7, 3) := by decide +kernel
theorem dX11_takeStatement_11 : decode cX11_takeStatement 11 = .ok (.iconst 1, 1) := by decide +kernel
theorem dX11_takeStatement_12 : decode cX11_takeStatement 12 = .ok (.goto 4, 3) := by decide +kernel
theorem dX11_takeStatement_15 : decode cX11_takeStatement 15 = .ok (.iconst 0, 1) := by decide +kernel
theorem dX11_takeStatement_16 : decode cX11_takeStatement 16 = .ok (.invokevirtual 270, 3) := by decide +kernel
theorem dX11_takeStatement_19 : decode cX11_takeStatement 19 = .ok (.ifCond .ne 5, 3) := by decide +kernel
theorem dX11_takeStatement_22 : decode cX11_takeStatement 22 = .ok (.iconst 0, 1) := by decide +kernel
theorem dX11_takeStatement_23 : decode cX11_takeStatement 23 = .ok (.ireturn, 1) := by decide +kernel
theorem dX11_takeStatement_24 : decode cX11_takeStatement 24 = .ok (.aload_n 0, 1) := by decide +kernel
theorem dX11_takeStatement_25 : decode cX11_takeStatement 25 = .ok (.getfield 312, 3) := by decide +kernel
theorem dX11_takeStatement_28 : decode cX11_takeStatement 28 = .ok (.bipush 40, 2) := by decide +kernel
theorem dX11_takeStatement_30 : decode cX11_takeStatement 30 = .ok (.if_icmp .ne 13, 3) := by decide +kernel
theorem dX11_takeStatement_33 : decode cX11_takeStatement 33 = .ok (.aload_n 0, 1) := by decide +kernel
theorem dX11_takeStatement_34 : decode cX11_takeStatement 34 = .ok (.iconst 3, 1) := by decide +kernel
theorem dX11_takeStatement_35 : decode cX11_takeStatement 35 = .ok (.aload_n 0, 1) := by decide +kernel
theorem dX11_takeStatement_36 : decode cX11_takeStatement 36 = .ok (.getfield 236, 3) := by decide +kernel
theorem dX11_takeStatement_39 : decode cX11_takeStatement 39 = .ok (.invokevirtual 263, 3) := by decide +kernel
theorem dX11_takeStatement_42 : decode cX11_takeStatement 42 = .ok (.ireturn, 1) := by decide +kernel
theorem dX11_takeStatement_43 : decode cX11_takeStatement 43 = .ok (.iload_n 2, 1) := by decide +kernel
theorem dX11_takeStatement_44 : decode cX11_takeStatement 44 = .ok (.ifCond .ne 26, 3) := by decide +kernel
theorem dX11_takeStatement_47 : decode cX11_takeStatement 47 = .ok (.aload_n 0, 1) := by decide +kernel
theorem dX11_takeStatement_48 : decode cX11_takeStatement 48 = .ok (.iload_n 1, 1) := by decide +kernel
theorem dX11_takeStatement_49 : decode cX11_takeStatement 49 = .ok (.aload_n 0, 1) := by decide +kernel
theorem dX11_takeStatement_50 : decode cX11_takeStatement 50 = .ok (.getfield 246, 3) := by decide +kernel
theorem dX11_takeStatement_53 : decode cX11_takeStatement 53 = .ok (.invokevirtual 295, 3) := by decide +kernel
theorem dX11_takeStatement_56 : decode cX11_takeStatement 56 = .ok (.iconst (-1), 1) := by decide +kernel
theorem dX11_takeStatement_57 : decode cX11_takeStatement 57 = .ok (.if_icmp .ne 13, 3) := by decide +kernel
theorem dX11_takeStatement_60 : decode cX11_takeStatement 60 = .ok (.aload_n 0, 1) := by decide +kernel
theorem dX11_takeStatement_61 : decode cX11_takeStatement 61 = .ok (.iconst 3, 1) := by decide +kernel
theorem dX11_takeStatement_62 : decode cX11_takeStatement 62 = .ok (.aload_n 0, 1) := by decide +kernel
theorem dX11_takeStatement_63 : decode cX11_takeStatement 63 = .ok (.getfield 236, 3) := by decide +kernel
theorem dX11_takeStatement_66 : decode cX11_takeStatement 66 = .ok (.invokevirtual 263, 3) := by decide +kernel
theorem dX11_takeStatement_69 : decode cX11_takeStatement 69 = .ok (.ireturn, 1) := by decide +kernel
theorem dX11_takeStatement_70 : decode cX11_takeStatement 70 = .ok (.iload_n 2, 1) := by decide +kernel
theorem dX11_takeStatement_71 : decode cX11_takeStatement 71 = .ok (.ifCond .ne 15, 3) := by decide +kernel
theorem dX11_takeStatement_74 : decode cX11_takeStatement 74 = .ok (.aload_n 0, 1) := by decide +kernel
theorem dX11_takeStatement_75 : decode cX11_takeStatement 75 = .ok (.iload_n 1, 1) := by decide +kernel
theorem dX11_takeStatement_76 : decode cX11_takeStatement 76 = .ok (.aload_n 0, 1) := by decide +kernel
theorem dX11_takeStatement_77 : decode cX11_takeStatement 77 = .ok (.getfield 246, 3) := by decide +kernel
theorem dX11_takeStatement_80 : decode cX11_takeStatement 80 = .ok (.invokevirtual 295, 3) := by decide +kernel
theorem dX11_takeStatement_83 : decode cX11_takeStatement 83 = .ok (.goto 4, 3) := by decide +kernel
theorem dX11_takeStatement_86 : decode cX11_takeStatement 86 = .ok (.iconst (-1), 1) := by decide +kernel
theorem dX11_takeStatement_87 : decode cX11_takeStatement 87 = .ok (.istore_n 3, 1) := by decide +kernel
theorem dX11_takeStatement_88 : decode cX11_takeStatement 88 = .ok (.aload_n 0, 1) := by decide +kernel
theorem dX11_takeStatement_89 : decode cX11_takeStatement 89 = .ok (.iload_n 1, 1) := by decide +kernel
theorem dX11_takeStatement_90 : decode cX11_takeStatement 90 = .ok (.iload_n 2, 1) := by decide +kernel
theorem dX11_takeStatement_91 : decode cX11_takeStatement 91 = .ok (.invokevirtual 322, 3) := by decide +kernel
theorem dX11_takeStatement_94 : decode cX11_takeStatement 94 = .ok (.istore 4, 2) := by decide +kernel
theorem dX11_takeStatement_96 : decode cX11_takeStatement 96 = .ok (.aload_n 0, 1) := by decide +kernel
theorem dX11_takeStatement_97 : decode cX11_takeStatement 97 = .ok (.invokevirtual 274, 3) := by decide +kernel
theorem dX11_takeStatement_100 : decode cX11_takeStatement 100 = .ok (.iload_n 2, 1) := by decide +kernel
theorem dX11_takeStatement_101 : decode cX11_takeStatement 101 = .ok (.ifCond .ne 45, 3) := by decide +kernel
theorem dX11_takeStatement_104 : decode cX11_takeStatement 104 = .ok (.aload_n 0, 1) := by decide +kernel
theorem dX11_takeStatement_105 : decode cX11_takeStatement 105 = .ok (.getfield 84, 3) := by decide +kernel
theorem dX11_takeStatement_108 : decode cX11_takeStatement 108 = .ok (.iload 4, 2) := by decide +kernel
theorem dX11_takeStatement_110 : decode cX11_takeStatement 110 = .ok (.iload_n 3, 1) := by decide +kernel
theorem dX11_takeStatement_111 : decode cX11_takeStatement 111 = .ok (.iastore, 1) := by decide +kernel
theorem dX11_takeStatement_112 : decode cX11_takeStatement 112 = .ok (.aload_n 0, 1) := by decide +kernel
theorem dX11_takeStatement_113 : decode cX11_takeStatement 113 = .ok (.bipush 61, 2) := by decide +kernel
theorem dX11_takeStatement_115 : decode cX11_takeStatement 115 = .ok (.invokevirtual 280, 3) := by decide +kernel
theorem dX11_takeStatement_118 : decode cX11_takeStatement 118 = .ok (.ifCond .eq 26, 3) := by decide +kernel
theorem dX11_takeStatement_121 : decode cX11_takeStatement 121 = .ok (.aload_n 0, 1) := by decide +kernel
theorem dX11_takeStatement_122 : decode cX11_takeStatement 122 = .ok (.iload_n 1, 1) := by decide +kernel
theorem dX11_takeStatement_123 : decode cX11_takeStatement 123 = .ok (.iload 4, 2) := by decide +kernel
theorem dX11_takeStatement_125 : decode cX11_takeStatement 125 = .ok (.invokevirtual 325, 3) := by decide +kernel
theorem dX11_takeStatement_128 : decode cX11_takeStatement 128 = .ok (.ifCond .eq 16, 3) := by decide +kernel
theorem dX11_takeStatement_131 : decode cX11_takeStatement 131 = .ok (.aload_n 0, 1) := by decide +kernel
theorem dX11_takeStatement_132 : decode cX11_takeStatement 132 = .ok (.bipush 59, 2) := by decide +kernel
theorem dX11_takeStatement_134 : decode cX11_takeStatement 134 = .ok (.invokevirtual 280, 3) := by decide +kernel
theorem dX11_takeStatement_137 : decode cX11_takeStatement 137 = .ok (.ifCond .eq 7, 3) := by decide +kernel
theorem dX11_takeStatement_140 : decode cX11_takeStatement 140 = .ok (.iconst 1, 1) := by decide +kernel
theorem dX11_takeStatement_141 : decode cX11_takeStatement 141 = .ok (.goto 4, 3) := by decide +kernel
theorem dX11_takeStatement_144 : decode cX11_takeStatement 144 = .ok (.iconst 0, 1) := by decide +kernel
theorem dX11_takeStatement_145 : decode cX11_takeStatement 145 = .ok (.ireturn, 1) := by decide +kernel
theorem dX11_takeStatement_146 : decode cX11_takeStatement 146 = .ok (.iload_n 2, 1) := by decide +kernel
theorem dX11_takeStatement_147 : decode cX11_takeStatement 147 = .ok (.iconst 1, 1) := by decide +kernel
theorem dX11_takeStatement_148 : decode cX11_takeStatement 148 = .ok (.if_icmp .eq 8, 3) := by decide +kernel
theorem dX11_takeStatement_151 : decode cX11_takeStatement 151 = .ok (.iload_n 2, 1) := by decide +kernel
theorem dX11_takeStatement_152 : decode cX11_takeStatement 152 = .ok (.iconst 2, 1) := by decide +kernel
theorem dX11_takeStatement_153 : decode cX11_takeStatement 153 = .ok (.if_icmp .ne 38, 3) := by decide +kernel
theorem dX11_takeStatement_156 : decode cX11_takeStatement 156 = .ok (.aload_n 0, 1) := by decide +kernel
theorem dX11_takeStatement_157 : decode cX11_takeStatement 157 = .ok (.iload_n 1, 1) := by decide +kernel
theorem dX11_takeStatement_158 : decode cX11_takeStatement 158 = .ok (.iload 4, 2) := by decide +kernel
theorem dX11_takeStatement_160 : decode cX11_takeStatement 160 = .ok (.invokevirtual 325, 3) := by decide +kernel
theorem dX11_takeStatement_163 : decode cX11_takeStatement 163 = .ok (.ifCond .eq 26, 3) := by decide +kernel
theorem dX11_takeStatement_166 : decode cX11_takeStatement 166 = .ok (.aload_n 0, 1) := by decide +kernel
theorem dX11_takeStatement_167 : decode cX11_takeStatement 167 = .ok (.iload 4, 2) := by decide +kernel
theorem dX11_takeStatement_169 : decode cX11_takeStatement 169 = .ok (.iload_n 2, 1) := by decide +kernel
theorem dX11_takeStatement_170 : decode cX11_takeStatement 170 = .ok (.iconst 1, 1) := by decide +kernel
theorem dX11_takeStatement_171 : decode cX11_takeStatement 171 = .ok (.if_icmp .ne 7, 3) := by decide +kernel
theorem dX11_takeStatement_174 : decode cX11_takeStatement 174 = .ok (.iconst 1, 1) := by decide +kernel
theorem dX11_takeStatement_175 : decode cX11_takeStatement 175 = .ok (.goto 4, 3) := by decide +kernel
theorem dX11_takeStatement_178 : decode cX11_takeStatement 178 = .ok (.iconst 3, 1) := by decide +kernel
theorem dX11_takeStatement_179 : decode cX11_takeStatement 179 = .ok (.invokevirtual 328, 3) := by decide +kernel
theorem dX11_takeStatement_182 : decode cX11_takeStatement 182 = .ok (.ifCond .eq 7, 3) := by decide +kernel
theorem dX11_takeStatement_185 : decode cX11_takeStatement 185 = .ok (.iconst 1, 1) := by decide +kernel
theorem dX11_takeStatement_186 : decode cX11_takeStatement 186 = .ok (.goto 4, 3) := by decide +kernel
theorem dX11_takeStatement_189 : decode cX11_takeStatement 189 = .ok (.iconst 0, 1) := by decide +kernel
theorem dX11_takeStatement_190 : decode cX11_takeStatement 190 = .ok (.ireturn, 1) := by decide +kernel
theorem dX11_takeStatement_191 : decode cX11_takeStatement 191 = .ok (.iload_n 2, 1) := by decide +kernel
theorem dX11_takeStatement_192 : decode cX11_takeStatement 192 = .ok (.iconst 3, 1) := by decide +kernel
theorem dX11_takeStatement_193 : decode cX11_takeStatement 193 = .ok (.if_icmp .ne 58, 3) := by decide +kernel
theorem dX11_takeStatement_196 : decode cX11_takeStatement 196 = .ok (.aload_n 0, 1) := by decide +kernel
theorem dX11_takeStatement_197 : decode cX11_takeStatement 197 = .ok (.getfield 108, 3) := by decide +kernel
theorem dX11_takeStatement_200 : decode cX11_takeStatement 200 = .ok (.iload 4, 2) := by decide +kernel
theorem dX11_takeStatement_202 : decode cX11_takeStatement 202 = .ok (.aload_n 0, 1) := by decide +kernel
theorem dX11_takeStatement_203 : decode cX11_takeStatement 203 = .ok (.getfield 246, 3) := by decide +kernel
theorem dX11_takeStatement_206 : decode cX11_takeStatement 206 = .ok (.lastore, 1) := by decide +kernel
theorem dX11_takeStatement_207 : decode cX11_takeStatement 207 = .ok (.aload_n 0, 1) := by decide +kernel
theorem dX11_takeStatement_208 : decode cX11_takeStatement 208 = .ok (.getfield 111, 3) := by decide +kernel
theorem dX11_takeStatement_211 : decode cX11_takeStatement 211 = .ok (.iload 4, 2) := by decide +kernel
theorem dX11_takeStatement_213 : decode cX11_takeStatement 213 = .ok (.aload_n 0, 1) := by decide +kernel
theorem dX11_takeStatement_214 : decode cX11_takeStatement 214 = .ok (.getfield 236, 3) := by decide +kernel
theorem dX11_takeStatement_217 : decode cX11_takeStatement 217 = .ok (.iastore, 1) := by decide +kernel
theorem dX11_takeStatement_218 : decode cX11_takeStatement 218 = .ok (.aload_n 0, 1) := by decide +kernel
theorem dX11_takeStatement_219 : decode cX11_takeStatement 219 = .ok (.aload_n 0, 1) := by decide +kernel
theorem dX11_takeStatement_220 : decode cX11_takeStatement 220 = .ok (.getfield 243, 3) := by decide +kernel
theorem dX11_takeStatement_223 : decode cX11_takeStatement 223 = .ok (.iconst 1, 1) := by decide +kernel
theorem dX11_takeStatement_224 : decode cX11_takeStatement 224 = .ok (.if_icmp .ne 7, 3) := by decide +kernel
theorem dX11_takeStatement_227 : decode cX11_takeStatement 227 = .ok (.iconst 1, 1) := by decide +kernel
theorem dX11_takeStatement_228 : decode cX11_takeStatement 228 = .ok (.goto 4, 3) := by decide +kernel
theorem dX11_takeStatement_231 : decode cX11_takeStatement 231 = .ok (.iconst 0, 1) := by decide +kernel
theorem dX11_takeStatement_232 : decode cX11_takeStatement 232 = .ok (.invokevirtual 270, 3) := by decide +kernel
theorem dX11_takeStatement_235 : decode cX11_takeStatement 235 = .ok (.ifCond .ne 5, 3) := by decide +kernel
theorem dX11_takeStatement_238 : decode cX11_takeStatement 238 = .ok (.iconst 0, 1) := by decide +kernel
theorem dX11_takeStatement_239 : decode cX11_takeStatement 239 = .ok (.ireturn, 1) := by decide +kernel
theorem dX11_takeStatement_240 : decode cX11_takeStatement 240 = .ok (.aload_n 0, 1) := by decide +kernel
theorem dX11_takeStatement_241 : decode cX11_takeStatement 241 = .ok (.invokevirtual 274, 3) := by decide +kernel
theorem dX11_takeStatement_244 : decode cX11_takeStatement 244 = .ok (.aload_n 0, 1) := by decide +kernel
theorem dX11_takeStatement_245 : decode cX11_takeStatement 245 = .ok (.bipush 59, 2) := by decide +kernel
theorem dX11_takeStatement_247 : decode cX11_takeStatement 247 = .ok (.invokevirtual 280, 3) := by decide +kernel
theorem dX11_takeStatement_250 : decode cX11_takeStatement 250 = .ok (.ireturn, 1) := by decide +kernel
theorem dX11_takeStatement_251 : decode cX11_takeStatement 251 = .ok (.iload_n 2, 1) := by decide +kernel
theorem dX11_takeStatement_252 : decode cX11_takeStatement 252 = .ok (.iconst 5, 1) := by decide +kernel
theorem dX11_takeStatement_253 : decode cX11_takeStatement 253 = .ok (.if_icmp .gt 13, 3) := by decide +kernel
theorem dX11_takeStatement_256 : decode cX11_takeStatement 256 = .ok (.aload_n 0, 1) := by decide +kernel
theorem dX11_takeStatement_257 : decode cX11_takeStatement 257 = .ok (.iload_n 1, 1) := by decide +kernel
theorem dX11_takeStatement_258 : decode cX11_takeStatement 258 = .ok (.iload 4, 2) := by decide +kernel
theorem dX11_takeStatement_260 : decode cX11_takeStatement 260 = .ok (.invokevirtual 325, 3) := by decide +kernel
theorem dX11_takeStatement_263 : decode cX11_takeStatement 263 = .ok (.ifCond .eq 16, 3) := by decide +kernel
theorem dX11_takeStatement_266 : decode cX11_takeStatement 266 = .ok (.aload_n 0, 1) := by decide +kernel
theorem dX11_takeStatement_267 : decode cX11_takeStatement 267 = .ok (.bipush 59, 2) := by decide +kernel
theorem dX11_takeStatement_269 : decode cX11_takeStatement 269 = .ok (.invokevirtual 280, 3) := by decide +kernel
theorem dX11_takeStatement_272 : decode cX11_takeStatement 272 = .ok (.ifCond .eq 7, 3) := by decide +kernel
theorem dX11_takeStatement_275 : decode cX11_takeStatement 275 = .ok (.iconst 1, 1) := by decide +kernel
theorem dX11_takeStatement_276 : decode cX11_takeStatement 276 = .ok (.goto 4, 3) := by decide +kernel
theorem dX11_takeStatement_279 : decode cX11_takeStatement 279 = .ok (.iconst 0, 1) := by decide +kernel
theorem dX11_takeStatement_280 : decode cX11_takeStatement 280 = .ok (.ireturn, 1) := by decide +kernel
theorem dX11_closeBlock_0 : decode cX11_closeBlock 0 = .ok (.aload_n 0, 1) := by decide +kernel
theorem dX11_closeBlock_1 : decode cX11_closeBlock 1 = .ok (.dup, 1) := by decide +kernel
theorem dX11_closeBlock_2 : decode cX11_closeBlock 2 = .ok (.getfield 306, 3) := by decide +kernel
theorem dX11_closeBlock_5 : decode cX11_closeBlock 5 = .ok (.iconst 1, 1) := by decide +kernel
theorem dX11_closeBlock_6 : decode cX11_closeBlock 6 = .ok (.isub, 1) := by decide +kernel
theorem dX11_closeBlock_7 : decode cX11_closeBlock 7 = .ok (.putfield 306, 3) := by decide +kernel
theorem dX11_closeBlock_10 : decode cX11_closeBlock 10 = .ok (.aload_n 0, 1) := by decide +kernel
theorem dX11_closeBlock_11 : decode cX11_closeBlock 11 = .ok (.getfield 123, 3) := by decide +kernel
theorem dX11_closeBlock_14 : decode cX11_closeBlock 14 = .ok (.aload_n 0, 1) := by decide +kernel
theorem dX11_closeBlock_15 : decode cX11_closeBlock 15 = .ok (.getfield 306, 3) := by decide +kernel
theorem dX11_closeBlock_18 : decode cX11_closeBlock 18 = .ok (.iaload, 1) := by decide +kernel
theorem dX11_closeBlock_19 : decode cX11_closeBlock 19 = .ok (.istore_n 1, 1) := by decide +kernel
theorem dX11_closeBlock_20 : decode cX11_closeBlock 20 = .ok (.aload_n 0, 1) := by decide +kernel
theorem dX11_closeBlock_21 : decode cX11_closeBlock 21 = .ok (.invokevirtual 274, 3) := by decide +kernel
theorem dX11_closeBlock_24 : decode cX11_closeBlock 24 = .ok (.aload_n 0, 1) := by decide +kernel
theorem dX11_closeBlock_25 : decode cX11_closeBlock 25 = .ok (.getfield 117, 3) := by decide +kernel
theorem dX11_closeBlock_28 : decode cX11_closeBlock 28 = .ok (.iload_n 1, 1) := by decide +kernel
theorem dX11_closeBlock_29 : decode cX11_closeBlock 29 = .ok (.iaload, 1) := by decide +kernel
theorem dX11_closeBlock_30 : decode cX11_closeBlock 30 = .ok (.iconst 1, 1) := by decide +kernel
theorem dX11_closeBlock_31 : decode cX11_closeBlock 31 = .ok (.if_icmp .ne 37, 3) := by decide +kernel
theorem dX11_closeBlock_34 : decode cX11_closeBlock 34 = .ok (.aload_n 0, 1) := by decide +kernel
theorem dX11_closeBlock_35 : decode cX11_closeBlock 35 = .ok (.iconst 1, 1) := by decide +kernel
theorem dX11_closeBlock_36 : decode cX11_closeBlock 36 = .ok (.invokevirtual 270, 3) := by decide +kernel
theorem dX11_closeBlock_39 : decode cX11_closeBlock 39 = .ok (.ifCond .eq 29, 3) := by decide +kernel
theorem dX11_closeBlock_42 : decode cX11_closeBlock 42 = .ok (.aload_n 0, 1) := by decide +kernel
theorem dX11_closeBlock_43 : decode cX11_closeBlock 43 = .ok (.ldc2_w 219, 3) := by decide +kernel
theorem dX11_closeBlock_46 : decode cX11_closeBlock 46 = .ok (.invokevirtual 315, 3) := by decide +kernel
theorem dX11_closeBlock_49 : decode cX11_closeBlock 49 = .ok (.ifCond .eq 19, 3) := by decide +kernel
theorem dX11_closeBlock_52 : decode cX11_closeBlock 52 = .ok (.aload_n 0, 1) := by decide +kernel
theorem dX11_closeBlock_53 : decode cX11_closeBlock 53 = .ok (.invokevirtual 274, 3) := by decide +kernel
theorem dX11_closeBlock_56 : decode cX11_closeBlock 56 = .ok (.aload_n 0, 1) := by decide +kernel
theorem dX11_closeBlock_57 : decode cX11_closeBlock 57 = .ok (.aload_n 0, 1) := by decide +kernel
theorem dX11_closeBlock_58 : decode cX11_closeBlock 58 = .ok (.getfield 114, 3) := by decide +kernel
theorem dX11_closeBlock_61 : decode cX11_closeBlock 61 = .ok (.iload_n 1, 1) := by decide +kernel
theorem dX11_closeBlock_62 : decode cX11_closeBlock 62 = .ok (.iaload, 1) := by decide +kernel
theorem dX11_closeBlock_63 : decode cX11_closeBlock 63 = .ok (.iconst 2, 1) := by decide +kernel
theorem dX11_closeBlock_64 : decode cX11_closeBlock 64 = .ok (.invokevirtual 328, 3) := by decide +kernel
theorem dX11_closeBlock_67 : decode cX11_closeBlock 67 = .ok (.ireturn, 1) := by decide +kernel
theorem dX11_closeBlock_68 : decode cX11_closeBlock 68 = .ok (.aload_n 0, 1) := by decide +kernel
theorem dX11_closeBlock_69 : decode cX11_closeBlock 69 = .ok (.getfield 260, 3) := by decide +kernel
theorem dX11_closeBlock_72 : decode cX11_closeBlock 72 = .ok (.ifCond .ne 7, 3) := by decide +kernel
theorem dX11_closeBlock_75 : decode cX11_closeBlock 75 = .ok (.iconst 1, 1) := by decide +kernel
theorem dX11_closeBlock_76 : decode cX11_closeBlock 76 = .ok (.goto 4, 3) := by decide +kernel
theorem dX11_closeBlock_79 : decode cX11_closeBlock 79 = .ok (.iconst 0, 1) := by decide +kernel
theorem dX11_closeBlock_80 : decode cX11_closeBlock 80 = .ok (.ireturn, 1) := by decide +kernel
theorem dX11_takeProcedure_0 : decode cX11_takeProcedure 0 = .ok (.aload_n 0, 1) := by decide +kernel
theorem dX11_takeProcedure_1 : decode cX11_takeProcedure 1 = .ok (.aload_n 0, 1) := by decide +kernel
theorem dX11_takeProcedure_2 : decode cX11_takeProcedure 2 = .ok (.ldc2_w 215, 3) := by decide +kernel
theorem dX11_takeProcedure_5 : decode cX11_takeProcedure 5 = .ok (.invokevirtual 315, 3) := by decide +kernel
theorem dX11_takeProcedure_8 : decode cX11_takeProcedure 8 = .ok (.invokevirtual 270, 3) := by decide +kernel
theorem dX11_takeProcedure_11 : decode cX11_takeProcedure 11 = .ok (.ifCond .ne 5, 3) := by decide +kernel
theorem dX11_takeProcedure_14 : decode cX11_takeProcedure 14 = .ok (.iconst 0, 1) := by decide +kernel
theorem dX11_takeProcedure_15 : decode cX11_takeProcedure 15 = .ok (.ireturn, 1) := by decide +kernel
theorem dX11_takeProcedure_16 : decode cX11_takeProcedure 16 = .ok (.aload_n 0, 1) := by decide +kernel
theorem dX11_takeProcedure_17 : decode cX11_takeProcedure 17 = .ok (.invokevirtual 274, 3) := by decide +kernel
theorem dX11_takeProcedure_20 : decode cX11_takeProcedure 20 = .ok (.aload_n 0, 1) := by decide +kernel
theorem dX11_takeProcedure_21 : decode cX11_takeProcedure 21 = .ok (.aload_n 0, 1) := by decide +kernel
theorem dX11_takeProcedure_22 : decode cX11_takeProcedure 22 = .ok (.getfield 243, 3) := by decide +kernel
theorem dX11_takeProcedure_25 : decode cX11_takeProcedure 25 = .ok (.iconst 1, 1) := by decide +kernel
theorem dX11_takeProcedure_26 : decode cX11_takeProcedure 26 = .ok (.if_icmp .ne 7, 3) := by decide +kernel
theorem dX11_takeProcedure_29 : decode cX11_takeProcedure 29 = .ok (.iconst 1, 1) := by decide +kernel
theorem dX11_takeProcedure_30 : decode cX11_takeProcedure 30 = .ok (.goto 4, 3) := by decide +kernel
theorem dX11_takeProcedure_33 : decode cX11_takeProcedure 33 = .ok (.iconst 0, 1) := by decide +kernel
theorem dX11_takeProcedure_34 : decode cX11_takeProcedure 34 = .ok (.invokevirtual 270, 3) := by decide +kernel
theorem dX11_takeProcedure_37 : decode cX11_takeProcedure 37 = .ok (.ifCond .ne 5, 3) := by decide +kernel
theorem dX11_takeProcedure_40 : decode cX11_takeProcedure 40 = .ok (.iconst 0, 1) := by decide +kernel
theorem dX11_takeProcedure_41 : decode cX11_takeProcedure 41 = .ok (.ireturn, 1) := by decide +kernel
theorem dX11_takeProcedure_42 : decode cX11_takeProcedure 42 = .ok (.aload_n 0, 1) := by decide +kernel
theorem dX11_takeProcedure_43 : decode cX11_takeProcedure 43 = .ok (.getfield 330, 3) := by decide +kernel
theorem dX11_takeProcedure_46 : decode cX11_takeProcedure 46 = .ok (.bipush 6, 2) := by decide +kernel
theorem dX11_takeProcedure_48 : decode cX11_takeProcedure 48 = .ok (.if_icmp .ne 7, 3) := by decide +kernel
theorem dX11_takeProcedure_51 : decode cX11_takeProcedure 51 = .ok (.iconst 1, 1) := by decide +kernel
theorem dX11_takeProcedure_52 : decode cX11_takeProcedure 52 = .ok (.goto 4, 3) := by decide +kernel
theorem dX11_takeProcedure_55 : decode cX11_takeProcedure 55 = .ok (.iconst 0, 1) := by decide +kernel
theorem dX11_takeProcedure_56 : decode cX11_takeProcedure 56 = .ok (.istore_n 1, 1) := by decide +kernel
theorem dX11_takeProcedure_57 : decode cX11_takeProcedure 57 = .ok (.iconst 0, 1) := by decide +kernel
theorem dX11_takeProcedure_58 : decode cX11_takeProcedure 58 = .ok (.istore_n 2, 1) := by decide +kernel
theorem dX11_takeProcedure_59 : decode cX11_takeProcedure 59 = .ok (.iload_n 2, 1) := by decide +kernel
theorem dX11_takeProcedure_60 : decode cX11_takeProcedure 60 = .ok (.aload_n 0, 1) := by decide +kernel
theorem dX11_takeProcedure_61 : decode cX11_takeProcedure 61 = .ok (.getfield 330, 3) := by decide +kernel
theorem dX11_takeProcedure_64 : decode cX11_takeProcedure 64 = .ok (.if_icmp .ge 33, 3) := by decide +kernel
theorem dX11_takeProcedure_67 : decode cX11_takeProcedure 67 = .ok (.iload_n 1, 1) := by decide +kernel
theorem dX11_takeProcedure_68 : decode cX11_takeProcedure 68 = .ok (.ifCond .ne 17, 3) := by decide +kernel
theorem dX11_takeProcedure_71 : decode cX11_takeProcedure 71 = .ok (.aload_n 0, 1) := by decide +kernel
theorem dX11_takeProcedure_72 : decode cX11_takeProcedure 72 = .ok (.getfield 69, 3) := by decide +kernel
theorem dX11_takeProcedure_75 : decode cX11_takeProcedure 75 = .ok (.iload_n 2, 1) := by decide +kernel
theorem dX11_takeProcedure_76 : decode cX11_takeProcedure 76 = .ok (.laload, 1) := by decide +kernel
theorem dX11_takeProcedure_77 : decode cX11_takeProcedure 77 = .ok (.aload_n 0, 1) := by decide +kernel
theorem dX11_takeProcedure_78 : decode cX11_takeProcedure 78 = .ok (.getfield 246, 3) := by decide +kernel
theorem dX11_takeProcedure_81 : decode cX11_takeProcedure 81 = .ok (.lcmp, 1) := by decide +kernel
theorem dX11_takeProcedure_82 : decode cX11_takeProcedure 82 = .ok (.ifCond .ne 7, 3) := by decide +kernel
theorem dX11_takeProcedure_85 : decode cX11_takeProcedure 85 = .ok (.iconst 1, 1) := by decide +kernel
theorem dX11_takeProcedure_86 : decode cX11_takeProcedure 86 = .ok (.goto 4, 3) := by decide +kernel
theorem dX11_takeProcedure_89 : decode cX11_takeProcedure 89 = .ok (.iconst 0, 1) := by decide +kernel
theorem dX11_takeProcedure_90 : decode cX11_takeProcedure 90 = .ok (.istore_n 1, 1) := by decide +kernel
theorem dX11_takeProcedure_91 : decode cX11_takeProcedure 91 = .ok (.iinc 2 1, 3) := by decide +kernel
theorem dX11_takeProcedure_94 : decode cX11_takeProcedure 94 = .ok (.goto (-35), 3) := by decide +kernel
theorem dX11_takeProcedure_97 : decode cX11_takeProcedure 97 = .ok (.iload_n 1, 1) := by decide +kernel
theorem dX11_takeProcedure_98 : decode cX11_takeProcedure 98 = .ok (.ifCond .eq 13, 3) := by decide +kernel
theorem dX11_takeProcedure_101 : decode cX11_takeProcedure 101 = .ok (.aload_n 0, 1) := by decide +kernel
theorem dX11_takeProcedure_102 : decode cX11_takeProcedure 102 = .ok (.iconst 3, 1) := by decide +kernel
theorem dX11_takeProcedure_103 : decode cX11_takeProcedure 103 = .ok (.aload_n 0, 1) := by decide +kernel
theorem dX11_takeProcedure_104 : decode cX11_takeProcedure 104 = .ok (.getfield 236, 3) := by decide +kernel
theorem dX11_takeProcedure_107 : decode cX11_takeProcedure 107 = .ok (.invokevirtual 263, 3) := by decide +kernel
theorem dX11_takeProcedure_110 : decode cX11_takeProcedure 110 = .ok (.ireturn, 1) := by decide +kernel
theorem dX11_takeProcedure_111 : decode cX11_takeProcedure 111 = .ok (.aload_n 0, 1) := by decide +kernel
theorem dX11_takeProcedure_112 : decode cX11_takeProcedure 112 = .ok (.getfield 330, 3) := by decide +kernel
theorem dX11_takeProcedure_115 : decode cX11_takeProcedure 115 = .ok (.istore_n 2, 1) := by decide +kernel
theorem dX11_takeProcedure_116 : decode cX11_takeProcedure 116 = .ok (.aload_n 0, 1) := by decide +kernel
theorem dX11_takeProcedure_117 : decode cX11_takeProcedure 117 = .ok (.dup, 1) := by decide +kernel
theorem dX11_takeProcedure_118 : decode cX11_takeProcedure 118 = .ok (.getfield 330, 3) := by decide +kernel
theorem dX11_takeProcedure_121 : decode cX11_takeProcedure 121 = .ok (.iconst 1, 1) := by decide +kernel
theorem dX11_takeProcedure_122 : decode cX11_takeProcedure 122 = .ok (.iadd, 1) := by decide +kernel
theorem dX11_takeProcedure_123 : decode cX11_takeProcedure 123 = .ok (.putfield 330, 3) := by decide +kernel
theorem dX11_takeProcedure_126 : decode cX11_takeProcedure 126 = .ok (.aload_n 0, 1) := by decide +kernel
theorem dX11_takeProcedure_127 : decode cX11_takeProcedure 127 = .ok (.getfield 69, 3) := by decide +kernel
theorem dX11_takeProcedure_130 : decode cX11_takeProcedure 130 = .ok (.iload_n 2, 1) := by decide +kernel
theorem dX11_takeProcedure_131 : decode cX11_takeProcedure 131 = .ok (.aload_n 0, 1) := by decide +kernel
theorem dX11_takeProcedure_132 : decode cX11_takeProcedure 132 = .ok (.getfield 246, 3) := by decide +kernel
theorem dX11_takeProcedure_135 : decode cX11_takeProcedure 135 = .ok (.lastore, 1) := by decide +kernel
theorem dX11_takeProcedure_136 : decode cX11_takeProcedure 136 = .ok (.aload_n 0, 1) := by decide +kernel
theorem dX11_takeProcedure_137 : decode cX11_takeProcedure 137 = .ok (.getfield 66, 3) := by decide +kernel
theorem dX11_takeProcedure_140 : decode cX11_takeProcedure 140 = .ok (.iload_n 2, 1) := by decide +kernel
theorem dX11_takeProcedure_141 : decode cX11_takeProcedure 141 = .ok (.iconst 0, 1) := by decide +kernel
theorem dX11_takeProcedure_142 : decode cX11_takeProcedure 142 = .ok (.iastore, 1) := by decide +kernel
theorem dX11_takeProcedure_143 : decode cX11_takeProcedure 143 = .ok (.aload_n 0, 1) := by decide +kernel
theorem dX11_takeProcedure_144 : decode cX11_takeProcedure 144 = .ok (.getfield 72, 3) := by decide +kernel
theorem dX11_takeProcedure_147 : decode cX11_takeProcedure 147 = .ok (.iload_n 2, 1) := by decide +kernel
theorem dX11_takeProcedure_148 : decode cX11_takeProcedure 148 = .ok (.iconst (-1), 1) := by decide +kernel
theorem dX11_takeProcedure_149 : decode cX11_takeProcedure 149 = .ok (.iastore, 1) := by decide +kernel
theorem dX11_takeProcedure_150 : decode cX11_takeProcedure 150 = .ok (.aload_n 0, 1) := by decide +kernel
theorem dX11_takeProcedure_151 : decode cX11_takeProcedure 151 = .ok (.invokevirtual 274, 3) := by decide +kernel
theorem dX11_takeProcedure_154 : decode cX11_takeProcedure 154 = .ok (.aload_n 0, 1) := by decide +kernel
theorem dX11_takeProcedure_155 : decode cX11_takeProcedure 155 = .ok (.iconst (-1), 1) := by decide +kernel
theorem dX11_takeProcedure_156 : decode cX11_takeProcedure 156 = .ok (.iconst 0, 1) := by decide +kernel
theorem dX11_takeProcedure_157 : decode cX11_takeProcedure 157 = .ok (.invokevirtual 328, 3) := by decide +kernel
theorem dX11_takeProcedure_160 : decode cX11_takeProcedure 160 = .ok (.istore_n 3, 1) := by decide +kernel
theorem dX11_takeProcedure_161 : decode cX11_takeProcedure 161 = .ok (.iload_n 3, 1) := by decide +kernel
theorem dX11_takeProcedure_162 : decode cX11_takeProcedure 162 = .ok (.ifCond .eq 31, 3) := by decide +kernel
theorem dX11_takeProcedure_165 : decode cX11_takeProcedure 165 = .ok (.aload_n 0, 1) := by decide +kernel
theorem dX11_takeProcedure_166 : decode cX11_takeProcedure 166 = .ok (.iconst 1, 1) := by decide +kernel
theorem dX11_takeProcedure_167 : decode cX11_takeProcedure 167 = .ok (.invokevirtual 270, 3) := by decide +kernel
theorem dX11_takeProcedure_170 : decode cX11_takeProcedure 170 = .ok (.ifCond .eq 23, 3) := by decide +kernel
theorem dX11_takeProcedure_173 : decode cX11_takeProcedure 173 = .ok (.aload_n 0, 1) := by decide +kernel
theorem dX11_takeProcedure_174 : decode cX11_takeProcedure 174 = .ok (.ldc2_w 213, 3) := by decide +kernel
theorem dX11_takeProcedure_177 : decode cX11_takeProcedure 177 = .ok (.invokevirtual 315, 3) := by decide +kernel
theorem dX11_takeProcedure_180 : decode cX11_takeProcedure 180 = .ok (.ifCond .eq 13, 3) := by decide +kernel
theorem dX11_takeProcedure_183 : decode cX11_takeProcedure 183 = .ok (.aload_n 0, 1) := by decide +kernel
theorem dX11_takeProcedure_184 : decode cX11_takeProcedure 184 = .ok (.invokevirtual 274, 3) := by decide +kernel
theorem dX11_takeProcedure_187 : decode cX11_takeProcedure 187 = .ok (.aload_n 0, 1) := by decide +kernel
theorem dX11_takeProcedure_188 : decode cX11_takeProcedure 188 = .ok (.iload_n 2, 1) := by decide +kernel
theorem dX11_takeProcedure_189 : decode cX11_takeProcedure 189 = .ok (.invokevirtual 333, 3) := by decide +kernel
theorem dX11_takeProcedure_192 : decode cX11_takeProcedure 192 = .ok (.istore_n 3, 1) := by decide +kernel
theorem dX11_takeProcedure_193 : decode cX11_takeProcedure 193 = .ok (.iload_n 3, 1) := by decide +kernel
theorem dX11_takeProcedure_194 : decode cX11_takeProcedure 194 = .ok (.ifCond .eq 54, 3) := by decide +kernel
theorem dX11_takeProcedure_197 : decode cX11_takeProcedure 197 = .ok (.aload_n 0, 1) := by decide +kernel
theorem dX11_takeProcedure_198 : decode cX11_takeProcedure 198 = .ok (.getfield 306, 3) := by decide +kernel
theorem dX11_takeProcedure_201 : decode cX11_takeProcedure 201 = .ok (.ifCond .le 47, 3) := by decide +kernel
theorem dX11_takeProcedure_204 : decode cX11_takeProcedure 204 = .ok (.aload_n 0, 1) := by decide +kernel
theorem dX11_takeProcedure_205 : decode cX11_takeProcedure 205 = .ok (.iconst 1, 1) := by decide +kernel
theorem dX11_takeProcedure_206 : decode cX11_takeProcedure 206 = .ok (.invokevirtual 270, 3) := by decide +kernel
theorem dX11_takeProcedure_209 : decode cX11_takeProcedure 209 = .ok (.ifCond .eq 34, 3) := by decide +kernel
theorem dX11_takeProcedure_212 : decode cX11_takeProcedure 212 = .ok (.aload_n 0, 1) := by decide +kernel
theorem dX11_takeProcedure_213 : decode cX11_takeProcedure 213 = .ok (.bipush 125, 2) := by decide +kernel
theorem dX11_takeProcedure_215 : decode cX11_takeProcedure 215 = .ok (.invokevirtual 267, 3) := by decide +kernel
theorem dX11_takeProcedure_218 : decode cX11_takeProcedure 218 = .ok (.ifCond .eq 13, 3) := by decide +kernel
theorem dX11_takeProcedure_221 : decode cX11_takeProcedure 221 = .ok (.aload_n 0, 1) := by decide +kernel
theorem dX11_takeProcedure_222 : decode cX11_takeProcedure 222 = .ok (.invokevirtual 336, 3) := by decide +kernel
theorem dX11_takeProcedure_225 : decode cX11_takeProcedure 225 = .ok (.ifCond .eq 18, 3) := by decide +kernel
theorem dX11_takeProcedure_228 : decode cX11_takeProcedure 228 = .ok (.goto 11, 3) := by decide +kernel
theorem dX11_takeProcedure_231 : decode cX11_takeProcedure 231 = .ok (.aload_n 0, 1) := by decide +kernel
theorem dX11_takeProcedure_232 : decode cX11_takeProcedure 232 = .ok (.iload_n 2, 1) := by decide +kernel
theorem dX11_takeProcedure_233 : decode cX11_takeProcedure 233 = .ok (.invokevirtual 339, 3) := by decide +kernel
theorem dX11_takeProcedure_236 : decode cX11_takeProcedure 236 = .ok (.ifCond .eq 7, 3) := by decide +kernel
theorem dX11_takeProcedure_239 : decode cX11_takeProcedure 239 = .ok (.iconst 1, 1) := by decide +kernel
theorem dX11_takeProcedure_240 : decode cX11_takeProcedure 240 = .ok (.goto 4, 3) := by decide +kernel
theorem dX11_takeProcedure_243 : decode cX11_takeProcedure 243 = .ok (.iconst 0, 1) := by decide +kernel
theorem dX11_takeProcedure_244 : decode cX11_takeProcedure 244 = .ok (.istore_n 3, 1) := by decide +kernel
theorem dX11_takeProcedure_245 : decode cX11_takeProcedure 245 = .ok (.goto (-52), 3) := by decide +kernel
theorem dX11_takeProcedure_248 : decode cX11_takeProcedure 248 = .ok (.iload_n 3, 1) := by decide +kernel
theorem dX11_takeProcedure_249 : decode cX11_takeProcedure 249 = .ok (.ireturn, 1) := by decide +kernel
theorem dX11_parse_0 : decode cX11_parse 0 = .ok (.aload_n 0, 1) := by decide +kernel
theorem dX11_parse_1 : decode cX11_parse 1 = .ok (.iconst 0, 1) := by decide +kernel
theorem dX11_parse_2 : decode cX11_parse 2 = .ok (.putfield 277, 3) := by decide +kernel
theorem dX11_parse_5 : decode cX11_parse 5 = .ok (.aload_n 0, 1) := by decide +kernel
theorem dX11_parse_6 : decode cX11_parse 6 = .ok (.iconst 0, 1) := by decide +kernel
theorem dX11_parse_7 : decode cX11_parse 7 = .ok (.putfield 330, 3) := by decide +kernel
theorem dX11_parse_10 : decode cX11_parse 10 = .ok (.aload_n 0, 1) := by decide +kernel
theorem dX11_parse_11 : decode cX11_parse 11 = .ok (.iconst 0, 1) := by decide +kernel
theorem dX11_parse_12 : decode cX11_parse 12 = .ok (.putfield 312, 3) := by decide +kernel
theorem dX11_parse_15 : decode cX11_parse 15 = .ok (.aload_n 0, 1) := by decide +kernel
theorem dX11_parse_16 : decode cX11_parse 16 = .ok (.iconst 0, 1) := by decide +kernel
theorem dX11_parse_17 : decode cX11_parse 17 = .ok (.putfield 283, 3) := by decide +kernel
theorem dX11_parse_20 : decode cX11_parse 20 = .ok (.aload_n 0, 1) := by decide +kernel
theorem dX11_parse_21 : decode cX11_parse 21 = .ok (.iconst 0, 1) := by decide +kernel
theorem dX11_parse_22 : decode cX11_parse 22 = .ok (.putfield 309, 3) := by decide +kernel
theorem dX11_parse_25 : decode cX11_parse 25 = .ok (.aload_n 0, 1) := by decide +kernel
theorem dX11_parse_26 : decode cX11_parse 26 = .ok (.iconst 0, 1) := by decide +kernel
theorem dX11_parse_27 : decode cX11_parse 27 = .ok (.putfield 306, 3) := by decide +kernel
theorem dX11_parse_30 : decode cX11_parse 30 = .ok (.aload_n 0, 1) := by decide +kernel
theorem dX11_parse_31 : decode cX11_parse 31 = .ok (.iconst 1, 1) := by decide +kernel
theorem dX11_parse_32 : decode cX11_parse 32 = .ok (.invokevirtual 270, 3) := by decide +kernel
theorem dX11_parse_35 : decode cX11_parse 35 = .ok (.istore_n 1, 1) := by decide +kernel
theorem dX11_parse_36 : decode cX11_parse 36 = .ok (.iload_n 1, 1) := by decide +kernel
theorem dX11_parse_37 : decode cX11_parse 37 = .ok (.ifCond .eq 23, 3) := by decide +kernel
theorem dX11_parse_40 : decode cX11_parse 40 = .ok (.aload_n 0, 1) := by decide +kernel
theorem dX11_parse_41 : decode cX11_parse 41 = .ok (.ldc2_w 213, 3) := by decide +kernel
theorem dX11_parse_44 : decode cX11_parse 44 = .ok (.invokevirtual 315, 3) := by decide +kernel
theorem dX11_parse_47 : decode cX11_parse 47 = .ok (.ifCond .eq 13, 3) := by decide +kernel
theorem dX11_parse_50 : decode cX11_parse 50 = .ok (.aload_n 0, 1) := by decide +kernel
theorem dX11_parse_51 : decode cX11_parse 51 = .ok (.invokevirtual 274, 3) := by decide +kernel
theorem dX11_parse_54 : decode cX11_parse 54 = .ok (.aload_n 0, 1) := by decide +kernel
theorem dX11_parse_55 : decode cX11_parse 55 = .ok (.iconst (-1), 1) := by decide +kernel
theorem dX11_parse_56 : decode cX11_parse 56 = .ok (.invokevirtual 333, 3) := by decide +kernel
theorem dX11_parse_59 : decode cX11_parse 59 = .ok (.istore_n 1, 1) := by decide +kernel
theorem dX11_parse_60 : decode cX11_parse 60 = .ok (.iload_n 1, 1) := by decide +kernel
theorem dX11_parse_61 : decode cX11_parse 61 = .ok (.istore_n 2, 1) := by decide +kernel
theorem dX11_parse_62 : decode cX11_parse 62 = .ok (.iload_n 2, 1) := by decide +kernel
theorem dX11_parse_63 : decode cX11_parse 63 = .ok (.ifCond .eq 36, 3) := by decide +kernel
theorem dX11_parse_66 : decode cX11_parse 66 = .ok (.aload_n 0, 1) := by decide +kernel
theorem dX11_parse_67 : decode cX11_parse 67 = .ok (.invokevirtual 342, 3) := by decide +kernel
theorem dX11_parse_70 : decode cX11_parse 70 = .ok (.istore_n 1, 1) := by decide +kernel
theorem dX11_parse_71 : decode cX11_parse 71 = .ok (.iload_n 1, 1) := by decide +kernel
theorem dX11_parse_72 : decode cX11_parse 72 = .ok (.ifCond .eq 22, 3) := by decide +kernel
theorem dX11_parse_75 : decode cX11_parse 75 = .ok (.aload_n 0, 1) := by decide +kernel
theorem dX11_parse_76 : decode cX11_parse 76 = .ok (.iconst 1, 1) := by decide +kernel
theorem dX11_parse_77 : decode cX11_parse 77 = .ok (.invokevirtual 270, 3) := by decide +kernel
theorem dX11_parse_80 : decode cX11_parse 80 = .ok (.ifCond .eq 14, 3) := by decide +kernel
theorem dX11_parse_83 : decode cX11_parse 83 = .ok (.aload_n 0, 1) := by decide +kernel
theorem dX11_parse_84 : decode cX11_parse 84 = .ok (.getfield 243, 3) := by decide +kernel
theorem dX11_parse_87 : decode cX11_parse 87 = .ok (.ifCond .eq 7, 3) := by decide +kernel
theorem dX11_parse_90 : decode cX11_parse 90 = .ok (.iconst 1, 1) := by decide +kernel
theorem dX11_parse_91 : decode cX11_parse 91 = .ok (.goto 4, 3) := by decide +kernel
theorem dX11_parse_94 : decode cX11_parse 94 = .ok (.iconst 0, 1) := by decide +kernel
theorem dX11_parse_95 : decode cX11_parse 95 = .ok (.istore_n 2, 1) := by decide +kernel
theorem dX11_parse_96 : decode cX11_parse 96 = .ok (.goto (-34), 3) := by decide +kernel
theorem dX11_parse_99 : decode cX11_parse 99 = .ok (.iload_n 1, 1) := by decide +kernel
theorem dX11_parse_100 : decode cX11_parse 100 = .ok (.ifCond .eq 14, 3) := by decide +kernel
theorem dX11_parse_103 : decode cX11_parse 103 = .ok (.aload_n 0, 1) := by decide +kernel
theorem dX11_parse_104 : decode cX11_parse 104 = .ok (.getfield 260, 3) := by decide +kernel
theorem dX11_parse_107 : decode cX11_parse 107 = .ok (.ifCond .ne 7, 3) := by decide +kernel
theorem dX11_parse_110 : decode cX11_parse 110 = .ok (.iconst 1, 1) := by decide +kernel
theorem dX11_parse_111 : decode cX11_parse 111 = .ok (.goto 4, 3) := by decide +kernel
theorem dX11_parse_114 : decode cX11_parse 114 = .ok (.iconst 0, 1) := by decide +kernel
theorem dX11_parse_115 : decode cX11_parse 115 = .ok (.ireturn, 1) := by decide +kernel
theorem dX11_bind_0 : decode cX11_bind 0 = .ok (.iconst 0, 1) := by decide +kernel
theorem dX11_bind_1 : decode cX11_bind 1 = .ok (.istore_n 1, 1) := by decide +kernel
theorem dX11_bind_2 : decode cX11_bind 2 = .ok (.iload_n 1, 1) := by decide +kernel
theorem dX11_bind_3 : decode cX11_bind 3 = .ok (.aload_n 0, 1) := by decide +kernel
theorem dX11_bind_4 : decode cX11_bind 4 = .ok (.getfield 312, 3) := by decide +kernel
theorem dX11_bind_7 : decode cX11_bind 7 = .ok (.if_icmp .ge 96, 3) := by decide +kernel
theorem dX11_bind_10 : decode cX11_bind 10 = .ok (.aload_n 0, 1) := by decide +kernel
theorem dX11_bind_11 : decode cX11_bind 11 = .ok (.getfield 75, 3) := by decide +kernel
theorem dX11_bind_14 : decode cX11_bind 14 = .ok (.iload_n 1, 1) := by decide +kernel
theorem dX11_bind_15 : decode cX11_bind 15 = .ok (.iaload, 1) := by decide +kernel
theorem dX11_bind_16 : decode cX11_bind 16 = .ok (.iconst 3, 1) := by decide +kernel
theorem dX11_bind_17 : decode cX11_bind 17 = .ok (.if_icmp .ne 80, 3) := by decide +kernel
theorem dX11_bind_20 : decode cX11_bind 20 = .ok (.aload_n 0, 1) := by decide +kernel
theorem dX11_bind_21 : decode cX11_bind 21 = .ok (.getfield 84, 3) := by decide +kernel
theorem dX11_bind_24 : decode cX11_bind 24 = .ok (.iload_n 1, 1) := by decide +kernel
theorem dX11_bind_25 : decode cX11_bind 25 = .ok (.iconst (-1), 1) := by decide +kernel
theorem dX11_bind_26 : decode cX11_bind 26 = .ok (.iastore, 1) := by decide +kernel
theorem dX11_bind_27 : decode cX11_bind 27 = .ok (.iconst 0, 1) := by decide +kernel
theorem dX11_bind_28 : decode cX11_bind 28 = .ok (.istore_n 2, 1) := by decide +kernel
theorem dX11_bind_29 : decode cX11_bind 29 = .ok (.iload_n 2, 1) := by decide +kernel
theorem dX11_bind_30 : decode cX11_bind 30 = .ok (.aload_n 0, 1) := by decide +kernel
theorem dX11_bind_31 : decode cX11_bind 31 = .ok (.getfield 330, 3) := by decide +kernel
theorem dX11_bind_34 : decode cX11_bind 34 = .ok (.if_icmp .ge 41, 3) := by decide +kernel
theorem dX11_bind_37 : decode cX11_bind 37 = .ok (.aload_n 0, 1) := by decide +kernel
theorem dX11_bind_38 : decode cX11_bind 38 = .ok (.getfield 84, 3) := by decide +kernel
theorem dX11_bind_41 : decode cX11_bind 41 = .ok (.iload_n 1, 1) := by decide +kernel
theorem dX11_bind_42 : decode cX11_bind 42 = .ok (.aload_n 0, 1) := by decide +kernel
theorem dX11_bind_43 : decode cX11_bind 43 = .ok (.getfield 69, 3) := by decide +kernel
theorem dX11_bind_46 : decode cX11_bind 46 = .ok (.iload_n 2, 1) := by decide +kernel
theorem dX11_bind_47 : decode cX11_bind 47 = .ok (.laload, 1) := by decide +kernel
theorem dX11_bind_48 : decode cX11_bind 48 = .ok (.aload_n 0, 1) := by decide +kernel
theorem dX11_bind_49 : decode cX11_bind 49 = .ok (.getfield 108, 3) := by decide +kernel
theorem dX11_bind_52 : decode cX11_bind 52 = .ok (.iload_n 1, 1) := by decide +kernel
theorem dX11_bind_53 : decode cX11_bind 53 = .ok (.laload, 1) := by decide +kernel
theorem dX11_bind_54 : decode cX11_bind 54 = .ok (.lcmp, 1) := by decide +kernel
theorem dX11_bind_55 : decode cX11_bind 55 = .ok (.ifCond .ne 7, 3) := by decide +kernel
theorem dX11_bind_58 : decode cX11_bind 58 = .ok (.iload_n 2, 1) := by decide +kernel
theorem dX11_bind_59 : decode cX11_bind 59 = .ok (.goto 9, 3) := by decide +kernel
theorem dX11_bind_62 : decode cX11_bind 62 = .ok (.aload_n 0, 1) := by decide +kernel
theorem dX11_bind_63 : decode cX11_bind 63 = .ok (.getfield 84, 3) := by decide +kernel
theorem dX11_bind_66 : decode cX11_bind 66 = .ok (.iload_n 1, 1) := by decide +kernel
theorem dX11_bind_67 : decode cX11_bind 67 = .ok (.iaload, 1) := by decide +kernel
theorem dX11_bind_68 : decode cX11_bind 68 = .ok (.iastore, 1) := by decide +kernel
theorem dX11_bind_69 : decode cX11_bind 69 = .ok (.iinc 2 1, 3) := by decide +kernel
theorem dX11_bind_72 : decode cX11_bind 72 = .ok (.goto (-43), 3) := by decide +kernel
theorem dX11_bind_75 : decode cX11_bind 75 = .ok (.aload_n 0, 1) := by decide +kernel
theorem dX11_bind_76 : decode cX11_bind 76 = .ok (.getfield 84, 3) := by decide +kernel
theorem dX11_bind_79 : decode cX11_bind 79 = .ok (.iload_n 1, 1) := by decide +kernel
theorem dX11_bind_80 : decode cX11_bind 80 = .ok (.iaload, 1) := by decide +kernel
theorem dX11_bind_81 : decode cX11_bind 81 = .ok (.iconst (-1), 1) := by decide +kernel
theorem dX11_bind_82 : decode cX11_bind 82 = .ok (.if_icmp .ne 15, 3) := by decide +kernel
theorem dX11_bind_85 : decode cX11_bind 85 = .ok (.aload_n 0, 1) := by decide +kernel
theorem dX11_bind_86 : decode cX11_bind 86 = .ok (.iconst 4, 1) := by decide +kernel
theorem dX11_bind_87 : decode cX11_bind 87 = .ok (.aload_n 0, 1) := by decide +kernel
theorem dX11_bind_88 : decode cX11_bind 88 = .ok (.getfield 111, 3) := by decide +kernel
theorem dX11_bind_91 : decode cX11_bind 91 = .ok (.iload_n 1, 1) := by decide +kernel
theorem dX11_bind_92 : decode cX11_bind 92 = .ok (.iaload, 1) := by decide +kernel
theorem dX11_bind_93 : decode cX11_bind 93 = .ok (.invokevirtual 263, 3) := by decide +kernel
theorem dX11_bind_96 : decode cX11_bind 96 = .ok (.ireturn, 1) := by decide +kernel
theorem dX11_bind_97 : decode cX11_bind 97 = .ok (.iinc 1 1, 3) := by decide +kernel
theorem dX11_bind_100 : decode cX11_bind 100 = .ok (.goto (-98), 3) := by decide +kernel
theorem dX11_bind_103 : decode cX11_bind 103 = .ok (.iconst 0, 1) := by decide +kernel
theorem dX11_bind_104 : decode cX11_bind 104 = .ok (.istore_n 1, 1) := by decide +kernel
theorem dX11_bind_105 : decode cX11_bind 105 = .ok (.iload_n 1, 1) := by decide +kernel
theorem dX11_bind_106 : decode cX11_bind 106 = .ok (.aload_n 0, 1) := by decide +kernel
theorem dX11_bind_107 : decode cX11_bind 107 = .ok (.getfield 312, 3) := by decide +kernel
theorem dX11_bind_110 : decode cX11_bind 110 = .ok (.if_icmp .ge 84, 3) := by decide +kernel
theorem dX11_bind_113 : decode cX11_bind 113 = .ok (.aload_n 0, 1) := by decide +kernel
theorem dX11_bind_114 : decode cX11_bind 114 = .ok (.getfield 96, 3) := by decide +kernel
theorem dX11_bind_117 : decode cX11_bind 117 = .ok (.iload_n 1, 1) := by decide +kernel
theorem dX11_bind_118 : decode cX11_bind 118 = .ok (.iaload, 1) := by decide +kernel
theorem dX11_bind_119 : decode cX11_bind 119 = .ok (.istore_n 2, 1) := by decide +kernel
theorem dX11_bind_120 : decode cX11_bind 120 = .ok (.aload_n 0, 1) := by decide +kernel
theorem dX11_bind_121 : decode cX11_bind 121 = .ok (.getfield 90, 3) := by decide +kernel
theorem dX11_bind_124 : decode cX11_bind 124 = .ok (.iload_n 1, 1) := by decide +kernel
theorem dX11_bind_125 : decode cX11_bind 125 = .ok (.aload_n 0, 1) := by decide +kernel
theorem dX11_bind_126 : decode cX11_bind 126 = .ok (.getfield 93, 3) := by decide +kernel
theorem dX11_bind_129 : decode cX11_bind 129 = .ok (.iload_n 1, 1) := by decide +kernel
theorem dX11_bind_130 : decode cX11_bind 130 = .ok (.iaload, 1) := by decide +kernel
theorem dX11_bind_131 : decode cX11_bind 131 = .ok (.iconst (-1), 1) := by decide +kernel
theorem dX11_bind_132 : decode cX11_bind 132 = .ok (.if_icmp .eq 12, 3) := by decide +kernel
theorem dX11_bind_135 : decode cX11_bind 135 = .ok (.aload_n 0, 1) := by decide +kernel
theorem dX11_bind_136 : decode cX11_bind 136 = .ok (.getfield 93, 3) := by decide +kernel
theorem dX11_bind_139 : decode cX11_bind 139 = .ok (.iload_n 1, 1) := by decide +kernel
theorem dX11_bind_140 : decode cX11_bind 140 = .ok (.iaload, 1) := by decide +kernel
theorem dX11_bind_141 : decode cX11_bind 141 = .ok (.goto 46, 3) := by decide +kernel
theorem dX11_bind_144 : decode cX11_bind 144 = .ok (.aload_n 0, 1) := by decide +kernel
theorem dX11_bind_145 : decode cX11_bind 145 = .ok (.getfield 117, 3) := by decide +kernel
theorem dX11_bind_148 : decode cX11_bind 148 = .ok (.iload_n 2, 1) := by decide +kernel
theorem dX11_bind_149 : decode cX11_bind 149 = .ok (.iaload, 1) := by decide +kernel
theorem dX11_bind_150 : decode cX11_bind 150 = .ok (.ifCond .ne 7, 3) := by decide +kernel
theorem dX11_bind_153 : decode cX11_bind 153 = .ok (.iconst (-1), 1) := by decide +kernel
theorem dX11_bind_154 : decode cX11_bind 154 = .ok (.goto 33, 3) := by decide +kernel
theorem dX11_bind_157 : decode cX11_bind 157 = .ok (.aload_n 0, 1) := by decide +kernel
theorem dX11_bind_158 : decode cX11_bind 158 = .ok (.getfield 117, 3) := by decide +kernel
theorem dX11_bind_161 : decode cX11_bind 161 = .ok (.iload_n 2, 1) := by decide +kernel
theorem dX11_bind_162 : decode cX11_bind 162 = .ok (.iaload, 1) := by decide +kernel
theorem dX11_bind_163 : decode cX11_bind 163 = .ok (.iconst 3, 1) := by decide +kernel
theorem dX11_bind_164 : decode cX11_bind 164 = .ok (.if_icmp .ne 12, 3) := by decide +kernel
theorem dX11_bind_167 : decode cX11_bind 167 = .ok (.aload_n 0, 1) := by decide +kernel
theorem dX11_bind_168 : decode cX11_bind 168 = .ok (.getfield 114, 3) := by decide +kernel
theorem dX11_bind_171 : decode cX11_bind 171 = .ok (.iload_n 2, 1) := by decide +kernel
theorem dX11_bind_172 : decode cX11_bind 172 = .ok (.iaload, 1) := by decide +kernel
theorem dX11_bind_173 : decode cX11_bind 173 = .ok (.goto 14, 3) := by decide +kernel
theorem dX11_bind_176 : decode cX11_bind 176 = .ok (.aload_n 0, 1) := by decide +kernel
theorem dX11_bind_177 : decode cX11_bind 177 = .ok (.getfield 90, 3) := by decide +kernel
theorem dX11_bind_180 : decode cX11_bind 180 = .ok (.aload_n 0, 1) := by decide +kernel
theorem dX11_bind_181 : decode cX11_bind 181 = .ok (.getfield 114, 3) := by decide +kernel
theorem dX11_bind_184 : decode cX11_bind 184 = .ok (.iload_n 2, 1) := by decide +kernel
theorem dX11_bind_185 : decode cX11_bind 185 = .ok (.iaload, 1) := by decide +kernel
theorem dX11_bind_186 : decode cX11_bind 186 = .ok (.iaload, 1) := by decide +kernel
theorem dX11_bind_187 : decode cX11_bind 187 = .ok (.iastore, 1) := by decide +kernel
theorem dX11_bind_188 : decode cX11_bind 188 = .ok (.iinc 1 1, 3) := by decide +kernel
theorem dX11_bind_191 : decode cX11_bind 191 = .ok (.goto (-86), 3) := by decide +kernel
theorem dX11_bind_194 : decode cX11_bind 194 = .ok (.iconst 1, 1) := by decide +kernel
theorem dX11_bind_195 : decode cX11_bind 195 = .ok (.ireturn, 1) := by decide +kernel
theorem dX11_type_0 : decode cX11_type 0 = .ok (.aload_n 0, 1) := by decide +kernel
theorem dX11_type_1 : decode cX11_type 1 = .ok (.iconst 0, 1) := by decide +kernel
theorem dX11_type_2 : decode cX11_type 2 = .ok (.putfield 150, 3) := by decide +kernel
theorem dX11_type_5 : decode cX11_type 5 = .ok (.iload_n 3, 1) := by decide +kernel
theorem dX11_type_6 : decode cX11_type 6 = .ok (.iconst 1, 1) := by decide +kernel
theorem dX11_type_7 : decode cX11_type 7 = .ok (.bipush 8, 2) := by decide +kernel
theorem dX11_type_9 : decode cX11_type 9 = .ok (.invokestatic 157, 3) := by decide +kernel
theorem dX11_type_12 : decode cX11_type 12 = .ok (.ifCond .ne 6, 3) := by decide +kernel
theorem dX11_type_15 : decode cX11_type 15 = .ok (.bipush (-2), 2) := by decide +kernel
theorem dX11_type_17 : decode cX11_type 17 = .ok (.ireturn, 1) := by decide +kernel
theorem dX11_type_18 : decode cX11_type 18 = .ok (.aload_n 0, 1) := by decide +kernel
theorem dX11_type_19 : decode cX11_type 19 = .ok (.getfield 210, 3) := by decide +kernel
theorem dX11_type_22 : decode cX11_type 22 = .ok (.iload_n 3, 1) := by decide +kernel
theorem dX11_type_23 : decode cX11_type 23 = .ok (.iadd, 1) := by decide +kernel
theorem dX11_type_24 : decode cX11_type 24 = .ok (.sipush 600, 3) := by decide +kernel
theorem dX11_type_27 : decode cX11_type 27 = .ok (.if_icmp .le 6, 3) := by decide +kernel
theorem dX11_type_30 : decode cX11_type 30 = .ok (.bipush (-3), 2) := by decide +kernel
theorem dX11_type_32 : decode cX11_type 32 = .ok (.ireturn, 1) := by decide +kernel
theorem dX11_type_33 : decode cX11_type 33 = .ok (.iconst 0, 1) := by decide +kernel
theorem dX11_type_34 : decode cX11_type 34 = .ok (.istore 4, 2) := by decide +kernel
theorem dX11_type_36 : decode cX11_type 36 = .ok (.iload 4, 2) := by decide +kernel
theorem dX11_type_38 : decode cX11_type 38 = .ok (.iload_n 3, 1) := by decide +kernel
theorem dX11_type_39 : decode cX11_type 39 = .ok (.if_icmp .ge 40, 3) := by decide +kernel
theorem dX11_type_42 : decode cX11_type 42 = .ok (.aload_n 0, 1) := by decide +kernel
theorem dX11_type_43 : decode cX11_type 43 = .ok (.getfield 53, 3) := by decide +kernel
theorem dX11_type_46 : decode cX11_type 46 = .ok (.aload_n 0, 1) := by decide +kernel
theorem dX11_type_47 : decode cX11_type 47 = .ok (.getfield 210, 3) := by decide +kernel
theorem dX11_type_50 : decode cX11_type 50 = .ok (.lload_n 1, 1) := by decide +kernel
theorem dX11_type_51 : decode cX11_type 51 = .ok (.bipush 8, 2) := by decide +kernel
theorem dX11_type_53 : decode cX11_type 53 = .ok (.iload 4, 2) := by decide +kernel
theorem dX11_type_55 : decode cX11_type 55 = .ok (.imul, 1) := by decide +kernel
theorem dX11_type_56 : decode cX11_type 56 = .ok (.lshr, 1) := by decide +kernel
theorem dX11_type_57 : decode cX11_type 57 = .ok (.ldc2_w 345, 3) := by decide +kernel
theorem dX11_type_60 : decode cX11_type 60 = .ok (.land, 1) := by decide +kernel
theorem dX11_type_61 : decode cX11_type 61 = .ok (.l2i, 1) := by decide +kernel
theorem dX11_type_62 : decode cX11_type 62 = .ok (.iastore, 1) := by decide +kernel
theorem dX11_type_63 : decode cX11_type 63 = .ok (.aload_n 0, 1) := by decide +kernel
theorem dX11_type_64 : decode cX11_type 64 = .ok (.dup, 1) := by decide +kernel
theorem dX11_type_65 : decode cX11_type 65 = .ok (.getfield 210, 3) := by decide +kernel
theorem dX11_type_68 : decode cX11_type 68 = .ok (.iconst 1, 1) := by decide +kernel
theorem dX11_type_69 : decode cX11_type 69 = .ok (.iadd, 1) := by decide +kernel
theorem dX11_type_70 : decode cX11_type 70 = .ok (.putfield 210, 3) := by decide +kernel
theorem dX11_type_73 : decode cX11_type 73 = .ok (.iinc 4 1, 3) := by decide +kernel
theorem dX11_type_76 : decode cX11_type 76 = .ok (.goto (-40), 3) := by decide +kernel
theorem dX11_type_79 : decode cX11_type 79 = .ok (.aload_n 0, 1) := by decide +kernel
theorem dX11_type_80 : decode cX11_type 80 = .ok (.getfield 210, 3) := by decide +kernel
theorem dX11_type_83 : decode cX11_type 83 = .ok (.ireturn, 1) := by decide +kernel
theorem dX11_read_0 : decode cX11_read 0 = .ok (.aload_n 0, 1) := by decide +kernel
theorem dX11_read_1 : decode cX11_read 1 = .ok (.iconst 0, 1) := by decide +kernel
theorem dX11_read_2 : decode cX11_read 2 = .ok (.putfield 150, 3) := by decide +kernel
theorem dX11_read_5 : decode cX11_read 5 = .ok (.aload_n 0, 1) := by decide +kernel
theorem dX11_read_6 : decode cX11_read 6 = .ok (.iconst 0, 1) := by decide +kernel
theorem dX11_read_7 : decode cX11_read 7 = .ok (.putfield 260, 3) := by decide +kernel
theorem dX11_read_10 : decode cX11_read 10 = .ok (.aload_n 0, 1) := by decide +kernel
theorem dX11_read_11 : decode cX11_read 11 = .ok (.iconst (-1), 1) := by decide +kernel
theorem dX11_read_12 : decode cX11_read 12 = .ok (.putfield 56, 3) := by decide +kernel
theorem dX11_read_15 : decode cX11_read 15 = .ok (.aload_n 0, 1) := by decide +kernel
theorem dX11_read_16 : decode cX11_read 16 = .ok (.iconst 0, 1) := by decide +kernel
theorem dX11_read_17 : decode cX11_read 17 = .ok (.putfield 233, 3) := by decide +kernel
theorem dX11_read_20 : decode cX11_read 20 = .ok (.aload_n 0, 1) := by decide +kernel
theorem dX11_read_21 : decode cX11_read 21 = .ok (.invokevirtual 274, 3) := by decide +kernel
theorem dX11_read_24 : decode cX11_read 24 = .ok (.aload_n 0, 1) := by decide +kernel
theorem dX11_read_25 : decode cX11_read 25 = .ok (.aload_n 0, 1) := by decide +kernel
theorem dX11_read_26 : decode cX11_read 26 = .ok (.invokevirtual 347, 3) := by decide +kernel
theorem dX11_read_29 : decode cX11_read 29 = .ok (.ifCond .eq 14, 3) := by decide +kernel
theorem dX11_read_32 : decode cX11_read 32 = .ok (.aload_n 0, 1) := by decide +kernel
theorem dX11_read_33 : decode cX11_read 33 = .ok (.invokevirtual 350, 3) := by decide +kernel
theorem dX11_read_36 : decode cX11_read 36 = .ok (.ifCond .eq 7, 3) := by decide +kernel
theorem dX11_read_39 : decode cX11_read 39 = .ok (.iconst 1, 1) := by decide +kernel
theorem dX11_read_40 : decode cX11_read 40 = .ok (.goto 4, 3) := by decide +kernel
theorem dX11_read_43 : decode cX11_read 43 = .ok (.iconst 0, 1) := by decide +kernel
theorem dX11_read_44 : decode cX11_read 44 = .ok (.putfield 353, 3) := by decide +kernel
theorem dX11_read_47 : decode cX11_read 47 = .ok (.aload_n 0, 1) := by decide +kernel
theorem dX11_read_48 : decode cX11_read 48 = .ok (.iconst 0, 1) := by decide +kernel
theorem dX11_read_49 : decode cX11_read 49 = .ok (.putfield 210, 3) := by decide +kernel
theorem dX11_read_52 : decode cX11_read 52 = .ok (.aload_n 0, 1) := by decide +kernel
theorem dX11_read_53 : decode cX11_read 53 = .ok (.getfield 353, 3) := by decide +kernel
theorem dX11_read_56 : decode cX11_read 56 = .ok (.ifCond .eq 10, 3) := by decide +kernel
theorem dX11_read_59 : decode cX11_read 59 = .ok (.aload_n 0, 1) := by decide +kernel
theorem dX11_read_60 : decode cX11_read 60 = .ok (.getfield 312, 3) := by decide +kernel
theorem dX11_read_63 : decode cX11_read 63 = .ok (.goto 10, 3) := by decide +kernel
theorem dX11_read_66 : decode cX11_read 66 = .ok (.bipush (-10), 2) := by decide +kernel
theorem dX11_read_68 : decode cX11_read 68 = .ok (.aload_n 0, 1) := by decide +kernel
theorem dX11_read_69 : decode cX11_read 69 = .ok (.getfield 260, 3) := by decide +kernel
theorem dX11_read_72 : decode cX11_read 72 = .ok (.isub, 1) := by decide +kernel
theorem dX11_read_73 : decode cX11_read 73 = .ok (.ireturn, 1) := by decide +kernel
theorem dX11_place_0 : decode cX11_place 0 = .ok (.aload_n 0, 1) := by decide +kernel
theorem dX11_place_1 : decode cX11_place 1 = .ok (.iconst 0, 1) := by decide +kernel
theorem dX11_place_2 : decode cX11_place 2 = .ok (.putfield 150, 3) := by decide +kernel
theorem dX11_place_5 : decode cX11_place 5 = .ok (.aload_n 0, 1) := by decide +kernel
theorem dX11_place_6 : decode cX11_place 6 = .ok (.getfield 56, 3) := by decide +kernel
theorem dX11_place_9 : decode cX11_place 9 = .ok (.ireturn, 1) := by decide +kernel
theorem dX11_told_0 : decode cX11_told 0 = .ok (.aload_n 0, 1) := by decide +kernel
theorem dX11_told_1 : decode cX11_told 1 = .ok (.iconst 0, 1) := by decide +kernel
theorem dX11_told_2 : decode cX11_told 2 = .ok (.putfield 150, 3) := by decide +kernel
theorem dX11_told_5 : decode cX11_told 5 = .ok (.iload_n 1, 1) := by decide +kernel
theorem dX11_told_6 : decode cX11_told 6 = .ok (.iconst 0, 1) := by decide +kernel
theorem dX11_told_7 : decode cX11_told 7 = .ok (.iconst 2, 1) := by decide +kernel
theorem dX11_told_8 : decode cX11_told 8 = .ok (.invokestatic 157, 3) := by decide +kernel
theorem dX11_told_11 : decode cX11_told 11 = .ok (.ifCond .eq 42, 3) := by decide +kernel
theorem dX11_told_14 : decode cX11_told 14 = .ok (.aload_n 0, 1) := by decide +kernel
theorem dX11_told_15 : decode cX11_told 15 = .ok (.getfield 353, 3) := by decide +kernel
theorem dX11_told_18 : decode cX11_told 18 = .ok (.ifCond .ne 7, 3) := by decide +kernel
theorem dX11_told_21 : decode cX11_told 21 = .ok (.iconst 0, 1) := by decide +kernel
theorem dX11_told_22 : decode cX11_told 22 = .ok (.goto 30, 3) := by decide +kernel
theorem dX11_told_25 : decode cX11_told 25 = .ok (.iload_n 1, 1) := by decide +kernel
theorem dX11_told_26 : decode cX11_told 26 = .ok (.ifCond .ne 10, 3) := by decide +kernel
theorem dX11_told_29 : decode cX11_told 29 = .ok (.aload_n 0, 1) := by decide +kernel
theorem dX11_told_30 : decode cX11_told 30 = .ok (.getfield 277, 3) := by decide +kernel
theorem dX11_told_33 : decode cX11_told 33 = .ok (.goto 19, 3) := by decide +kernel
theorem dX11_told_36 : decode cX11_told 36 = .ok (.iload_n 1, 1) := by decide +kernel
theorem dX11_told_37 : decode cX11_told 37 = .ok (.iconst 1, 1) := by decide +kernel
theorem dX11_told_38 : decode cX11_told 38 = .ok (.if_icmp .ne 10, 3) := by decide +kernel
theorem dX11_told_41 : decode cX11_told 41 = .ok (.aload_n 0, 1) := by decide +kernel
theorem dX11_told_42 : decode cX11_told 42 = .ok (.getfield 330, 3) := by decide +kernel
theorem dX11_told_45 : decode cX11_told 45 = .ok (.goto 7, 3) := by decide +kernel
theorem dX11_told_48 : decode cX11_told 48 = .ok (.aload_n 0, 1) := by decide +kernel
theorem dX11_told_49 : decode cX11_told 49 = .ok (.getfield 312, 3) := by decide +kernel
theorem dX11_told_52 : decode cX11_told 52 = .ok (.ireturn, 1) := by decide +kernel
theorem dX11_told_53 : decode cX11_told 53 = .ok (.iload_n 1, 1) := by decide +kernel
theorem dX11_told_54 : decode cX11_told 54 = .ok (.iconst 3, 1) := by decide +kernel
theorem dX11_told_55 : decode cX11_told 55 = .ok (.iconst 5, 1) := by decide +kernel
theorem dX11_told_56 : decode cX11_told 56 = .ok (.invokestatic 157, 3) := by decide +kernel
theorem dX11_told_59 : decode cX11_told 59 = .ok (.ifCond .eq 24, 3) := by decide +kernel
theorem dX11_told_62 : decode cX11_told 62 = .ok (.aload_n 0, 1) := by decide +kernel
theorem dX11_told_63 : decode cX11_told 63 = .ok (.getfield 353, 3) := by decide +kernel
theorem dX11_told_66 : decode cX11_told 66 = .ok (.ifCond .eq 17, 3) := by decide +kernel
theorem dX11_told_69 : decode cX11_told 69 = .ok (.iload_n 2, 1) := by decide +kernel
theorem dX11_told_70 : decode cX11_told 70 = .ok (.iconst 0, 1) := by decide +kernel
theorem dX11_told_71 : decode cX11_told 71 = .ok (.aload_n 0, 1) := by decide +kernel
theorem dX11_told_72 : decode cX11_told 72 = .ok (.getfield 312, 3) := by decide +kernel
theorem dX11_told_75 : decode cX11_told 75 = .ok (.iconst 1, 1) := by decide +kernel
theorem dX11_told_76 : decode cX11_told 76 = .ok (.isub, 1) := by decide +kernel
theorem dX11_told_77 : decode cX11_told 77 = .ok (.invokestatic 157, 3) := by decide +kernel
theorem dX11_told_80 : decode cX11_told 80 = .ok (.ifCond .ne 6, 3) := by decide +kernel
theorem dX11_told_83 : decode cX11_told 83 = .ok (.bipush (-2), 2) := by decide +kernel
theorem dX11_told_85 : decode cX11_told 85 = .ok (.ireturn, 1) := by decide +kernel
theorem dX11_told_86 : decode cX11_told 86 = .ok (.iload_n 1, 1) := by decide +kernel
theorem dX11_told_87 : decode cX11_told 87 = .ok (.iconst 3, 1) := by decide +kernel
theorem dX11_told_88 : decode cX11_told 88 = .ok (.if_icmp .ne 12, 3) := by decide +kernel
theorem dX11_told_91 : decode cX11_told 91 = .ok (.aload_n 0, 1) := by decide +kernel
theorem dX11_told_92 : decode cX11_told 92 = .ok (.getfield 78, 3) := by decide +kernel
theorem dX11_told_95 : decode cX11_told 95 = .ok (.iload_n 2, 1) := by decide +kernel
theorem dX11_told_96 : decode cX11_told 96 = .ok (.iaload, 1) := by decide +kernel
theorem dX11_told_97 : decode cX11_told 97 = .ok (.goto 23, 3) := by decide +kernel
theorem dX11_told_100 : decode cX11_told 100 = .ok (.iload_n 1, 1) := by decide +kernel
theorem dX11_told_101 : decode cX11_told 101 = .ok (.iconst 4, 1) := by decide +kernel
theorem dX11_told_102 : decode cX11_told 102 = .ok (.if_icmp .ne 12, 3) := by decide +kernel
theorem dX11_told_105 : decode cX11_told 105 = .ok (.aload_n 0, 1) := by decide +kernel
theorem dX11_told_106 : decode cX11_told 106 = .ok (.getfield 81, 3) := by decide +kernel
theorem dX11_told_109 : decode cX11_told 109 = .ok (.iload_n 2, 1) := by decide +kernel
theorem dX11_told_110 : decode cX11_told 110 = .ok (.iaload, 1) := by decide +kernel
theorem dX11_told_111 : decode cX11_told 111 = .ok (.goto 9, 3) := by decide +kernel
theorem dX11_told_114 : decode cX11_told 114 = .ok (.aload_n 0, 1) := by decide +kernel
theorem dX11_told_115 : decode cX11_told 115 = .ok (.getfield 75, 3) := by decide +kernel
theorem dX11_told_118 : decode cX11_told 118 = .ok (.iload_n 2, 1) := by decide +kernel
theorem dX11_told_119 : decode cX11_told 119 = .ok (.iaload, 1) := by decide +kernel
theorem dX11_told_120 : decode cX11_told 120 = .ok (.ireturn, 1) := by decide +kernel
theorem dX11_can_0 : decode cX11_can 0 = .ok (.iconst 0, 1) := by decide +kernel
theorem dX11_can_1 : decode cX11_can 1 = .ok (.istore 4, 2) := by decide +kernel
theorem dX11_can_3 : decode cX11_can 3 = .ok (.aload_n 0, 1) := by decide +kernel
theorem dX11_can_4 : decode cX11_can 4 = .ok (.getfield 99, 3) := by decide +kernel
theorem dX11_can_7 : decode cX11_can 7 = .ok (.iload_n 1, 1) := by decide +kernel
theorem dX11_can_8 : decode cX11_can 8 = .ok (.iaload, 1) := by decide +kernel
theorem dX11_can_9 : decode cX11_can 9 = .ok (.istore 5, 2) := by decide +kernel
theorem dX11_can_11 : decode cX11_can 11 = .ok (.iload 5, 2) := by decide +kernel
theorem dX11_can_13 : decode cX11_can 13 = .ok (.aload_n 0, 1) := by decide +kernel
theorem dX11_can_14 : decode cX11_can 14 = .ok (.getfield 102, 3) := by decide +kernel
theorem dX11_can_17 : decode cX11_can 17 = .ok (.iload_n 1, 1) := by decide +kernel
theorem dX11_can_18 : decode cX11_can 18 = .ok (.iaload, 1) := by decide +kernel
theorem dX11_can_19 : decode cX11_can 19 = .ok (.if_icmp .ge 226, 3) := by decide +kernel
theorem dX11_can_22 : decode cX11_can 22 = .ok (.aload_n 0, 1) := by decide +kernel
theorem dX11_can_23 : decode cX11_can 23 = .ok (.getfield 105, 3) := by decide +kernel
theorem dX11_can_26 : decode cX11_can 26 = .ok (.iload 5, 2) := by decide +kernel
theorem dX11_can_28 : decode cX11_can 28 = .ok (.iaload, 1) := by decide +kernel
theorem dX11_can_29 : decode cX11_can 29 = .ok (.istore 6, 2) := by decide +kernel
theorem dX11_can_31 : decode cX11_can 31 = .ok (.iload 6, 2) := by decide +kernel
theorem dX11_can_33 : decode cX11_can 33 = .ok (.iconst 3, 1) := by decide +kernel
theorem dX11_can_34 : decode cX11_can 34 = .ok (.if_icmp .ne 40, 3) := by decide +kernel
theorem dX11_can_37 : decode cX11_can 37 = .ok (.aload_n 0, 1) := by decide +kernel
theorem dX11_can_38 : decode cX11_can 38 = .ok (.getfield 129, 3) := by decide +kernel
theorem dX11_can_41 : decode cX11_can 41 = .ok (.iload 4, 2) := by decide +kernel
theorem dX11_can_43 : decode cX11_can 43 = .ok (.iconst 1, 1) := by decide +kernel
theorem dX11_can_44 : decode cX11_can 44 = .ok (.isub, 1) := by decide +kernel
theorem dX11_can_45 : decode cX11_can 45 = .ok (.aload_n 0, 1) := by decide +kernel
theorem dX11_can_46 : decode cX11_can 46 = .ok (.getfield 129, 3) := by decide +kernel
theorem dX11_can_49 : decode cX11_can 49 = .ok (.iload 4, 2) := by decide +kernel
theorem dX11_can_51 : decode cX11_can 51 = .ok (.iconst 1, 1) := by decide +kernel
theorem dX11_can_52 : decode cX11_can 52 = .ok (.isub, 1) := by decide +kernel
theorem dX11_can_53 : decode cX11_can 53 = .ok (.iaload, 1) := by decide +kernel
theorem dX11_can_54 : decode cX11_can 54 = .ok (.iconst 1, 1) := by decide +kernel
theorem dX11_can_55 : decode cX11_can 55 = .ok (.iand, 1) := by decide +kernel
theorem dX11_can_56 : decode cX11_can 56 = .ok (.iconst 1, 1) := by decide +kernel
theorem dX11_can_57 : decode cX11_can 57 = .ok (.ishl, 1) := by decide +kernel
theorem dX11_can_58 : decode cX11_can 58 = .ok (.aload_n 0, 1) := by decide +kernel
theorem dX11_can_59 : decode cX11_can 59 = .ok (.getfield 129, 3) := by decide +kernel
theorem dX11_can_62 : decode cX11_can 62 = .ok (.iload 4, 2) := by decide +kernel
theorem dX11_can_64 : decode cX11_can 64 = .ok (.iconst 1, 1) := by decide +kernel
theorem dX11_can_65 : decode cX11_can 65 = .ok (.isub, 1) := by decide +kernel
theorem dX11_can_66 : decode cX11_can 66 = .ok (.iaload, 1) := by decide +kernel
theorem dX11_can_67 : decode cX11_can 67 = .ok (.iconst 1, 1) := by decide +kernel
theorem dX11_can_68 : decode cX11_can 68 = .ok (.ishr, 1) := by decide +kernel
theorem dX11_can_69 : decode cX11_can 69 = .ok (.ior, 1) := by decide +kernel
theorem dX11_can_70 : decode cX11_can 70 = .ok (.iastore, 1) := by decide +kernel
theorem dX11_can_71 : decode cX11_can 71 = .ok (.goto 168, 3) := by decide +kernel
theorem dX11_can_74 : decode cX11_can 74 = .ok (.iload 6, 2) := by decide +kernel
theorem dX11_can_76 : decode cX11_can 76 = .ok (.iconst 4, 1) := by decide +kernel
theorem dX11_can_77 : decode cX11_can 77 = .ok (.if_icmp .eq 9, 3) := by decide +kernel
theorem dX11_can_80 : decode cX11_can 80 = .ok (.iload 6, 2) := by decide +kernel
theorem dX11_can_82 : decode cX11_can 82 = .ok (.iconst 5, 1) := by decide +kernel
theorem dX11_can_83 : decode cX11_can 83 = .ok (.if_icmp .ne 91, 3) := by decide +kernel
theorem dX11_can_86 : decode cX11_can 86 = .ok (.aload_n 0, 1) := by decide +kernel
theorem dX11_can_87 : decode cX11_can 87 = .ok (.getfield 129, 3) := by decide +kernel
theorem dX11_can_90 : decode cX11_can 90 = .ok (.iload 4, 2) := by decide +kernel
theorem dX11_can_92 : decode cX11_can 92 = .ok (.iconst 2, 1) := by decide +kernel
theorem dX11_can_93 : decode cX11_can 93 = .ok (.isub, 1) := by decide +kernel
theorem dX11_can_94 : decode cX11_can 94 = .ok (.iaload, 1) := by decide +kernel
theorem dX11_can_95 : decode cX11_can 95 = .ok (.istore 7, 2) := by decide +kernel
theorem dX11_can_97 : decode cX11_can 97 = .ok (.aload_n 0, 1) := by decide +kernel
theorem dX11_can_98 : decode cX11_can 98 = .ok (.getfield 129, 3) := by decide +kernel
theorem dX11_can_101 : decode cX11_can 101 = .ok (.iload 4, 2) := by decide +kernel
theorem dX11_can_103 : decode cX11_can 103 = .ok (.iconst 1, 1) := by decide +kernel
theorem dX11_can_104 : decode cX11_can 104 = .ok (.isub, 1) := by decide +kernel
theorem dX11_can_105 : decode cX11_can 105 = .ok (.iaload, 1) := by decide +kernel
theorem dX11_can_106 : decode cX11_can 106 = .ok (.istore 8, 2) := by decide +kernel
theorem dX11_can_108 : decode cX11_can 108 = .ok (.iinc 4 (-1), 3) := by decide +kernel
theorem dX11_can_111 : decode cX11_can 111 = .ok (.iload 7, 2) := by decide +kernel
theorem dX11_can_113 : decode cX11_can 113 = .ok (.iconst 1, 1) := by decide +kernel
theorem dX11_can_114 : decode cX11_can 114 = .ok (.ishr, 1) := by decide +kernel
theorem dX11_can_115 : decode cX11_can 115 = .ok (.iload 8, 2) := by decide +kernel
theorem dX11_can_117 : decode cX11_can 117 = .ok (.iconst 1, 1) := by decide +kernel
theorem dX11_can_118 : decode cX11_can 118 = .ok (.ishr, 1) := by decide +kernel
theorem dX11_can_119 : decode cX11_can 119 = .ok (.iand, 1) := by decide +kernel
theorem dX11_can_120 : decode cX11_can 120 = .ok (.istore 9, 2) := by decide +kernel
theorem dX11_can_122 : decode cX11_can 122 = .ok (.iload 7, 2) := by decide +kernel
theorem dX11_can_124 : decode cX11_can 124 = .ok (.iload 8, 2) := by decide +kernel
theorem dX11_can_126 : decode cX11_can 126 = .ok (.iand, 1) := by decide +kernel
theorem dX11_can_127 : decode cX11_can 127 = .ok (.iconst 1, 1) := by decide +kernel
theorem dX11_can_128 : decode cX11_can 128 = .ok (.iand, 1) := by decide +kernel
theorem dX11_can_129 : decode cX11_can 129 = .ok (.istore 10, 2) := by decide +kernel
theorem dX11_can_131 : decode cX11_can 131 = .ok (.aload_n 0, 1) := by decide +kernel
theorem dX11_can_132 : decode cX11_can 132 = .ok (.getfield 129, 3) := by decide +kernel
theorem dX11_can_135 : decode cX11_can 135 = .ok (.iload 4, 2) := by decide +kernel
theorem dX11_can_137 : decode cX11_can 137 = .ok (.iconst 1, 1) := by decide +kernel
theorem dX11_can_138 : decode cX11_can 138 = .ok (.isub, 1) := by decide +kernel
theorem dX11_can_139 : decode cX11_can 139 = .ok (.iload 6, 2) := by decide +kernel
theorem dX11_can_141 : decode cX11_can 141 = .ok (.iconst 4, 1) := by decide +kernel
theorem dX11_can_142 : decode cX11_can 142 = .ok (.if_icmp .ne 18, 3) := by decide +kernel
theorem dX11_can_145 : decode cX11_can 145 = .ok (.iload 7, 2) := by decide +kernel
theorem dX11_can_147 : decode cX11_can 147 = .ok (.iload 8, 2) := by decide +kernel
theorem dX11_can_149 : decode cX11_can 149 = .ok (.ior, 1) := by decide +kernel
theorem dX11_can_150 : decode cX11_can 150 = .ok (.iconst 1, 1) := by decide +kernel
theorem dX11_can_151 : decode cX11_can 151 = .ok (.iand, 1) := by decide +kernel
theorem dX11_can_152 : decode cX11_can 152 = .ok (.iload 9, 2) := by decide +kernel
theorem dX11_can_154 : decode cX11_can 154 = .ok (.iconst 1, 1) := by decide +kernel
theorem dX11_can_155 : decode cX11_can 155 = .ok (.ishl, 1) := by decide +kernel
theorem dX11_can_156 : decode cX11_can 156 = .ok (.ior, 1) := by decide +kernel
theorem dX11_can_157 : decode cX11_can 157 = .ok (.goto 13, 3) := by decide +kernel
theorem dX11_can_160 : decode cX11_can 160 = .ok (.iload 7, 2) := by decide +kernel
theorem dX11_can_162 : decode cX11_can 162 = .ok (.iload 8, 2) := by decide +kernel
theorem dX11_can_164 : decode cX11_can 164 = .ok (.ior, 1) := by decide +kernel
theorem dX11_can_165 : decode cX11_can 165 = .ok (.iconst 2, 1) := by decide +kernel
theorem dX11_can_166 : decode cX11_can 166 = .ok (.iand, 1) := by decide +kernel
theorem dX11_can_167 : decode cX11_can 167 = .ok (.iload 10, 2) := by decide +kernel
theorem dX11_can_169 : decode cX11_can 169 = .ok (.ior, 1) := by decide +kernel
theorem dX11_can_170 : decode cX11_can 170 = .ok (.iastore, 1) := by decide +kernel
theorem dX11_can_171 : decode cX11_can 171 = .ok (.goto 68, 3) := by decide +kernel
theorem dX11_can_174 : decode cX11_can 174 = .ok (.aload_n 0, 1) := by decide +kernel
theorem dX11_can_175 : decode cX11_can 175 = .ok (.getfield 129, 3) := by decide +kernel
theorem dX11_can_178 : decode cX11_can 178 = .ok (.iload 4, 2) := by decide +kernel
theorem dX11_can_180 : decode cX11_can 180 = .ok (.iload 6, 2) := by decide +kernel
theorem dX11_can_182 : decode cX11_can 182 = .ok (.iconst 2, 1) := by decide +kernel
theorem dX11_can_183 : decode cX11_can 183 = .ok (.if_icmp .ge 10, 3) := by decide +kernel
theorem dX11_can_186 : decode cX11_can 186 = .ok (.iconst 1, 1) := by decide +kernel
theorem dX11_can_187 : decode cX11_can 187 = .ok (.iload 6, 2) := by decide +kernel
theorem dX11_can_189 : decode cX11_can 189 = .ok (.ishl, 1) := by decide +kernel
theorem dX11_can_190 : decode cX11_can 190 = .ok (.goto 45, 3) := by decide +kernel
theorem dX11_can_193 : decode cX11_can 193 = .ok (.iload 6, 2) := by decide +kernel
theorem dX11_can_195 : decode cX11_can 195 = .ok (.iconst 2, 1) := by decide +kernel
theorem dX11_can_196 : decode cX11_can 196 = .ok (.if_icmp .ne 7, 3) := by decide +kernel
theorem dX11_can_199 : decode cX11_can 199 = .ok (.iconst 3, 1) := by decide +kernel
theorem dX11_can_200 : decode cX11_can 200 = .ok (.goto 35, 3) := by decide +kernel
theorem dX11_can_203 : decode cX11_can 203 = .ok (.iload 6, 2) := by decide +kernel
theorem dX11_can_205 : decode cX11_can 205 = .ok (.bipush 24, 2) := by decide +kernel
theorem dX11_can_207 : decode cX11_can 207 = .ok (.if_icmp .ge 17, 3) := by decide +kernel
theorem dX11_can_210 : decode cX11_can 210 = .ok (.iconst 1, 1) := by decide +kernel
theorem dX11_can_211 : decode cX11_can 211 = .ok (.iload_n 2, 1) := by decide +kernel
theorem dX11_can_212 : decode cX11_can 212 = .ok (.iload 6, 2) := by decide +kernel
theorem dX11_can_214 : decode cX11_can 214 = .ok (.bipush 16, 2) := by decide +kernel
theorem dX11_can_216 : decode cX11_can 216 = .ok (.isub, 1) := by decide +kernel
theorem dX11_can_217 : decode cX11_can 217 = .ok (.ishr, 1) := by decide +kernel
theorem dX11_can_218 : decode cX11_can 218 = .ok (.iconst 1, 1) := by decide +kernel
theorem dX11_can_219 : decode cX11_can 219 = .ok (.iand, 1) := by decide +kernel
theorem dX11_can_220 : decode cX11_can 220 = .ok (.ishl, 1) := by decide +kernel
theorem dX11_can_221 : decode cX11_can 221 = .ok (.goto 14, 3) := by decide +kernel
theorem dX11_can_224 : decode cX11_can 224 = .ok (.iconst 1, 1) := by decide +kernel
theorem dX11_can_225 : decode cX11_can 225 = .ok (.iload_n 3, 1) := by decide +kernel
theorem dX11_can_226 : decode cX11_can 226 = .ok (.iload 6, 2) := by decide +kernel
theorem dX11_can_228 : decode cX11_can 228 = .ok (.bipush 24, 2) := by decide +kernel
theorem dX11_can_230 : decode cX11_can 230 = .ok (.isub, 1) := by decide +kernel
theorem dX11_can_231 : decode cX11_can 231 = .ok (.ishr, 1) := by decide +kernel
theorem dX11_can_232 : decode cX11_can 232 = .ok (.iconst 1, 1) := by decide +kernel
theorem dX11_can_233 : decode cX11_can 233 = .ok (.iand, 1) := by decide +kernel
theorem dX11_can_234 : decode cX11_can 234 = .ok (.ishl, 1) := by decide +kernel
theorem dX11_can_235 : decode cX11_can 235 = .ok (.iastore, 1) := by decide +kernel
theorem dX11_can_236 : decode cX11_can 236 = .ok (.iinc 4 1, 3) := by decide +kernel
theorem dX11_can_239 : decode cX11_can 239 = .ok (.iinc 5 1, 3) := by decide +kernel
theorem dX11_can_242 : decode cX11_can 242 = .ok (.goto (-231), 3) := by decide +kernel
theorem dX11_can_245 : decode cX11_can 245 = .ok (.aload_n 0, 1) := by decide +kernel
theorem dX11_can_246 : decode cX11_can 246 = .ok (.getfield 129, 3) := by decide +kernel
theorem dX11_can_249 : decode cX11_can 249 = .ok (.iconst 0, 1) := by decide +kernel
theorem dX11_can_250 : decode cX11_can 250 = .ok (.iaload, 1) := by decide +kernel
theorem dX11_can_251 : decode cX11_can 251 = .ok (.ireturn, 1) := by decide +kernel
theorem dX11_at_0 : decode cX11_at 0 = .ok (.sipush 160, 3) := by decide +kernel
theorem dX11_at_3 : decode cX11_at 3 = .ok (.iload_n 0, 1) := by decide +kernel
theorem dX11_at_4 : decode cX11_at 4 = .ok (.imul, 1) := by decide +kernel
theorem dX11_at_5 : decode cX11_at 5 = .ok (.iconst 4, 1) := by decide +kernel
theorem dX11_at_6 : decode cX11_at 6 = .ok (.iload_n 1, 1) := by decide +kernel
theorem dX11_at_7 : decode cX11_at 7 = .ok (.imul, 1) := by decide +kernel
theorem dX11_at_8 : decode cX11_at 8 = .ok (.iadd, 1) := by decide +kernel
theorem dX11_at_9 : decode cX11_at 9 = .ok (.iload_n 2, 1) := by decide +kernel
theorem dX11_at_10 : decode cX11_at 10 = .ok (.iadd, 1) := by decide +kernel
theorem dX11_at_11 : decode cX11_at 11 = .ok (.ireturn, 1) := by decide +kernel
theorem dX11_toEnd_0 : decode cX11_toEnd 0 = .ok (.iload_n 2, 1) := by decide +kernel
theorem dX11_toEnd_1 : decode cX11_toEnd 1 = .ok (.iconst (-1), 1) := by decide +kernel
theorem dX11_toEnd_2 : decode cX11_toEnd 2 = .ok (.if_icmp .ne 18, 3) := by decide +kernel
theorem dX11_toEnd_5 : decode cX11_toEnd 5 = .ok (.iload_n 1, 1) := by decide +kernel
theorem dX11_toEnd_6 : decode cX11_toEnd 6 = .ok (.iload 4, 2) := by decide +kernel
theorem dX11_toEnd_8 : decode cX11_toEnd 8 = .ok (.if_icmp .ne 7, 3) := by decide +kernel
theorem dX11_toEnd_11 : decode cX11_toEnd 11 = .ok (.iconst 0, 1) := by decide +kernel
theorem dX11_toEnd_12 : decode cX11_toEnd 12 = .ok (.goto 25, 3) := by decide +kernel
theorem dX11_toEnd_15 : decode cX11_toEnd 15 = .ok (.ldc 177, 2) := by decide +kernel
theorem dX11_toEnd_17 : decode cX11_toEnd 17 = .ok (.goto 20, 3) := by decide +kernel
theorem dX11_toEnd_20 : decode cX11_toEnd 20 = .ok (.aload_n 0, 1) := by decide +kernel
theorem dX11_toEnd_21 : decode cX11_toEnd 21 = .ok (.getfield 132, 3) := by decide +kernel
theorem dX11_toEnd_24 : decode cX11_toEnd 24 = .ok (.bipush 8, 2) := by decide +kernel
theorem dX11_toEnd_26 : decode cX11_toEnd 26 = .ok (.iload_n 1, 1) := by decide +kernel
theorem dX11_toEnd_27 : decode cX11_toEnd 27 = .ok (.iload_n 2, 1) := by decide +kernel
theorem dX11_toEnd_28 : decode cX11_toEnd 28 = .ok (.iload_n 3, 1) := by decide +kernel
theorem dX11_toEnd_29 : decode cX11_toEnd 29 = .ok (.invokestatic 356, 3) := by decide +kernel
theorem dX11_toEnd_32 : decode cX11_toEnd 32 = .ok (.imul, 1) := by decide +kernel
theorem dX11_toEnd_33 : decode cX11_toEnd 33 = .ok (.iload 4, 2) := by decide +kernel
theorem dX11_toEnd_35 : decode cX11_toEnd 35 = .ok (.iadd, 1) := by decide +kernel
theorem dX11_toEnd_36 : decode cX11_toEnd 36 = .ok (.iaload, 1) := by decide +kernel
theorem dX11_toEnd_37 : decode cX11_toEnd 37 = .ok (.ireturn, 1) := by decide +kernel
theorem dX11_toFail_0 : decode cX11_toFail 0 = .ok (.iload_n 2, 1) := by decide +kernel
theorem dX11_toFail_1 : decode cX11_toFail 1 = .ok (.iconst (-1), 1) := by decide +kernel
theorem dX11_toFail_2 : decode cX11_toFail 2 = .ok (.if_icmp .ne 8, 3) := by decide +kernel
theorem dX11_toFail_5 : decode cX11_toFail 5 = .ok (.ldc 177, 2) := by decide +kernel
theorem dX11_toFail_7 : decode cX11_toFail 7 = .ok (.goto 14, 3) := by decide +kernel
theorem dX11_toFail_10 : decode cX11_toFail 10 = .ok (.aload_n 0, 1) := by decide +kernel
theorem dX11_toFail_11 : decode cX11_toFail 11 = .ok (.getfield 135, 3) := by decide +kernel
theorem dX11_toFail_14 : decode cX11_toFail 14 = .ok (.iload_n 1, 1) := by decide +kernel
theorem dX11_toFail_15 : decode cX11_toFail 15 = .ok (.iload_n 2, 1) := by decide +kernel
theorem dX11_toFail_16 : decode cX11_toFail 16 = .ok (.iload_n 3, 1) := by decide +kernel
theorem dX11_toFail_17 : decode cX11_toFail 17 = .ok (.invokestatic 356, 3) := by decide +kernel
theorem dX11_toFail_20 : decode cX11_toFail 20 = .ok (.iaload, 1) := by decide +kernel
theorem dX11_toFail_21 : decode cX11_toFail 21 = .ok (.ireturn, 1) := by decide +kernel
theorem dX11_go_0 : decode cX11_go 0 = .ok (.aload_n 0, 1) := by decide +kernel
theorem dX11_go_1 : decode cX11_go 1 = .ok (.iload_n 2, 1) := by decide +kernel
theorem dX11_go_2 : decode cX11_go 2 = .ok (.putfield 360, 3) := by decide +kernel
theorem dX11_go_5 : decode cX11_go 5 = .ok (.aload_n 0, 1) := by decide +kernel
theorem dX11_go_6 : decode cX11_go 6 = .ok (.iload_n 3, 1) := by decide +kernel
theorem dX11_go_7 : decode cX11_go 7 = .ok (.putfield 363, 3) := by decide +kernel
theorem dX11_go_10 : decode cX11_go 10 = .ok (.aload_n 0, 1) := by decide +kernel
theorem dX11_go_11 : decode cX11_go 11 = .ok (.aload_n 0, 1) := by decide +kernel
theorem dX11_go_12 : decode cX11_go 12 = .ok (.getfield 90, 3) := by decide +kernel
theorem dX11_go_15 : decode cX11_go 15 = .ok (.iload_n 1, 1) := by decide +kernel
theorem dX11_go_16 : decode cX11_go 16 = .ok (.iaload, 1) := by decide +kernel
theorem dX11_go_17 : decode cX11_go 17 = .ok (.putfield 366, 3) := by decide +kernel
theorem dX11_go_20 : decode cX11_go 20 = .ok (.aload_n 0, 1) := by decide +kernel
theorem dX11_go_21 : decode cX11_go 21 = .ok (.getfield 75, 3) := by decide +kernel
theorem dX11_go_24 : decode cX11_go 24 = .ok (.iload_n 1, 1) := by decide +kernel
theorem dX11_go_25 : decode cX11_go 25 = .ok (.iaload, 1) := by decide +kernel
theorem dX11_go_26 : decode cX11_go 26 = .ok (.ifCond .ne 84, 3) := by decide +kernel
theorem dX11_go_29 : decode cX11_go 29 = .ok (.aload_n 0, 1) := by decide +kernel
theorem dX11_go_30 : decode cX11_go 30 = .ok (.getfield 84, 3) := by decide +kernel
theorem dX11_go_33 : decode cX11_go 33 = .ok (.iload_n 1, 1) := by decide +kernel
theorem dX11_go_34 : decode cX11_go 34 = .ok (.iaload, 1) := by decide +kernel
theorem dX11_go_35 : decode cX11_go 35 = .ok (.istore 5, 2) := by decide +kernel
theorem dX11_go_37 : decode cX11_go 37 = .ok (.aload_n 0, 1) := by decide +kernel
theorem dX11_go_38 : decode cX11_go 38 = .ok (.iload 5, 2) := by decide +kernel
theorem dX11_go_40 : decode cX11_go 40 = .ok (.bipush 24, 2) := by decide +kernel
theorem dX11_go_42 : decode cX11_go 42 = .ok (.if_icmp .ge 26, 3) := by decide +kernel
theorem dX11_go_45 : decode cX11_go 45 = .ok (.iload_n 2, 1) := by decide +kernel
theorem dX11_go_46 : decode cX11_go 46 = .ok (.iconst 1, 1) := by decide +kernel
theorem dX11_go_47 : decode cX11_go 47 = .ok (.iload 5, 2) := by decide +kernel
theorem dX11_go_49 : decode cX11_go 49 = .ok (.bipush 16, 2) := by decide +kernel
theorem dX11_go_51 : decode cX11_go 51 = .ok (.isub, 1) := by decide +kernel
theorem dX11_go_52 : decode cX11_go 52 = .ok (.ishl, 1) := by decide +kernel
theorem dX11_go_53 : decode cX11_go 53 = .ok (.iconst (-1), 1) := by decide +kernel
theorem dX11_go_54 : decode cX11_go 54 = .ok (.ixor, 1) := by decide +kernel
theorem dX11_go_55 : decode cX11_go 55 = .ok (.iand, 1) := by decide +kernel
theorem dX11_go_56 : decode cX11_go 56 = .ok (.iload 4, 2) := by decide +kernel
theorem dX11_go_58 : decode cX11_go 58 = .ok (.iload 5, 2) := by decide +kernel
theorem dX11_go_60 : decode cX11_go 60 = .ok (.bipush 16, 2) := by decide +kernel
theorem dX11_go_62 : decode cX11_go 62 = .ok (.isub, 1) := by decide +kernel
theorem dX11_go_63 : decode cX11_go 63 = .ok (.ishl, 1) := by decide +kernel
theorem dX11_go_64 : decode cX11_go 64 = .ok (.ior, 1) := by decide +kernel
theorem dX11_go_65 : decode cX11_go 65 = .ok (.goto 4, 3) := by decide +kernel
theorem dX11_go_68 : decode cX11_go 68 = .ok (.iload_n 2, 1) := by decide +kernel
theorem dX11_go_69 : decode cX11_go 69 = .ok (.putfield 360, 3) := by decide +kernel
theorem dX11_go_72 : decode cX11_go 72 = .ok (.aload_n 0, 1) := by decide +kernel
theorem dX11_go_73 : decode cX11_go 73 = .ok (.iload 5, 2) := by decide +kernel
theorem dX11_go_75 : decode cX11_go 75 = .ok (.bipush 24, 2) := by decide +kernel
theorem dX11_go_77 : decode cX11_go 77 = .ok (.if_icmp .ge 7, 3) := by decide +kernel
theorem dX11_go_80 : decode cX11_go 80 = .ok (.iload_n 3, 1) := by decide +kernel
theorem dX11_go_81 : decode cX11_go 81 = .ok (.goto 23, 3) := by decide +kernel
theorem dX11_go_84 : decode cX11_go 84 = .ok (.iload_n 3, 1) := by decide +kernel
theorem dX11_go_85 : decode cX11_go 85 = .ok (.iconst 1, 1) := by decide +kernel
theorem dX11_go_86 : decode cX11_go 86 = .ok (.iload 5, 2) := by decide +kernel
theorem dX11_go_88 : decode cX11_go 88 = .ok (.bipush 24, 2) := by decide +kernel
theorem dX11_go_90 : decode cX11_go 90 = .ok (.isub, 1) := by decide +kernel
theorem dX11_go_91 : decode cX11_go 91 = .ok (.ishl, 1) := by decide +kernel
theorem dX11_go_92 : decode cX11_go 92 = .ok (.iconst (-1), 1) := by decide +kernel
theorem dX11_go_93 : decode cX11_go 93 = .ok (.ixor, 1) := by decide +kernel
theorem dX11_go_94 : decode cX11_go 94 = .ok (.iand, 1) := by decide +kernel
theorem dX11_go_95 : decode cX11_go 95 = .ok (.iload 4, 2) := by decide +kernel
theorem dX11_go_97 : decode cX11_go 97 = .ok (.iload 5, 2) := by decide +kernel
theorem dX11_go_99 : decode cX11_go 99 = .ok (.bipush 24, 2) := by decide +kernel
theorem dX11_go_101 : decode cX11_go 101 = .ok (.isub, 1) := by decide +kernel
theorem dX11_go_102 : decode cX11_go 102 = .ok (.ishl, 1) := by decide +kernel
theorem dX11_go_103 : decode cX11_go 103 = .ok (.ior, 1) := by decide +kernel
theorem dX11_go_104 : decode cX11_go 104 = .ok (.putfield 363, 3) := by decide +kernel
theorem dX11_go_107 : decode cX11_go 107 = .ok (.goto 77, 3) := by decide +kernel
theorem dX11_go_110 : decode cX11_go 110 = .ok (.aload_n 0, 1) := by decide +kernel
theorem dX11_go_111 : decode cX11_go 111 = .ok (.getfield 75, 3) := by decide +kernel
theorem dX11_go_114 : decode cX11_go 114 = .ok (.iload_n 1, 1) := by decide +kernel
theorem dX11_go_115 : decode cX11_go 115 = .ok (.iaload, 1) := by decide +kernel
theorem dX11_go_116 : decode cX11_go 116 = .ok (.iconst 1, 1) := by decide +kernel
theorem dX11_go_117 : decode cX11_go 117 = .ok (.if_icmp .eq 13, 3) := by decide +kernel
theorem dX11_go_120 : decode cX11_go 120 = .ok (.aload_n 0, 1) := by decide +kernel
theorem dX11_go_121 : decode cX11_go 121 = .ok (.getfield 75, 3) := by decide +kernel
theorem dX11_go_124 : decode cX11_go 124 = .ok (.iload_n 1, 1) := by decide +kernel
theorem dX11_go_125 : decode cX11_go 125 = .ok (.iaload, 1) := by decide +kernel
theorem dX11_go_126 : decode cX11_go 126 = .ok (.iconst 2, 1) := by decide +kernel
theorem dX11_go_127 : decode cX11_go 127 = .ok (.if_icmp .ne 57, 3) := by decide +kernel
theorem dX11_go_130 : decode cX11_go 130 = .ok (.aload_n 0, 1) := by decide +kernel
theorem dX11_go_131 : decode cX11_go 131 = .ok (.getfield 87, 3) := by decide +kernel
theorem dX11_go_134 : decode cX11_go 134 = .ok (.iconst 2, 1) := by decide +kernel
theorem dX11_go_135 : decode cX11_go 135 = .ok (.iload_n 1, 1) := by decide +kernel
theorem dX11_go_136 : decode cX11_go 136 = .ok (.imul, 1) := by decide +kernel
theorem dX11_go_137 : decode cX11_go 137 = .ok (.iload 4, 2) := by decide +kernel
theorem dX11_go_139 : decode cX11_go 139 = .ok (.iadd, 1) := by decide +kernel
theorem dX11_go_140 : decode cX11_go 140 = .ok (.iaload, 1) := by decide +kernel
theorem dX11_go_141 : decode cX11_go 141 = .ok (.istore 5, 2) := by decide +kernel
theorem dX11_go_143 : decode cX11_go 143 = .ok (.aload_n 0, 1) := by decide +kernel
theorem dX11_go_144 : decode cX11_go 144 = .ok (.iload 5, 2) := by decide +kernel
theorem dX11_go_146 : decode cX11_go 146 = .ok (.iconst (-1), 1) := by decide +kernel
theorem dX11_go_147 : decode cX11_go 147 = .ok (.if_icmp .eq 8, 3) := by decide +kernel
theorem dX11_go_150 : decode cX11_go 150 = .ok (.iload 5, 2) := by decide +kernel
theorem dX11_go_152 : decode cX11_go 152 = .ok (.goto 29, 3) := by decide +kernel
theorem dX11_go_155 : decode cX11_go 155 = .ok (.aload_n 0, 1) := by decide +kernel
theorem dX11_go_156 : decode cX11_go 156 = .ok (.getfield 75, 3) := by decide +kernel
theorem dX11_go_159 : decode cX11_go 159 = .ok (.iload_n 1, 1) := by decide +kernel
theorem dX11_go_160 : decode cX11_go 160 = .ok (.iaload, 1) := by decide +kernel
theorem dX11_go_161 : decode cX11_go 161 = .ok (.iconst 2, 1) := by decide +kernel
theorem dX11_go_162 : decode cX11_go 162 = .ok (.if_icmp .ne 13, 3) := by decide +kernel
theorem dX11_go_165 : decode cX11_go 165 = .ok (.iload 4, 2) := by decide +kernel
theorem dX11_go_167 : decode cX11_go 167 = .ok (.iconst 1, 1) := by decide +kernel
theorem dX11_go_168 : decode cX11_go 168 = .ok (.if_icmp .ne 7, 3) := by decide +kernel
theorem dX11_go_171 : decode cX11_go 171 = .ok (.iload_n 1, 1) := by decide +kernel
theorem dX11_go_172 : decode cX11_go 172 = .ok (.goto 9, 3) := by decide +kernel
theorem dX11_go_175 : decode cX11_go 175 = .ok (.aload_n 0, 1) := by decide +kernel
theorem dX11_go_176 : decode cX11_go 176 = .ok (.getfield 90, 3) := by decide +kernel
theorem dX11_go_179 : decode cX11_go 179 = .ok (.iload_n 1, 1) := by decide +kernel
theorem dX11_go_180 : decode cX11_go 180 = .ok (.iaload, 1) := by decide +kernel
theorem dX11_go_181 : decode cX11_go 181 = .ok (.putfield 366, 3) := by decide +kernel
theorem dX11_go_184 : decode cX11_go 184 = .ok (.return_, 1) := by decide +kernel
theorem dX11_chooses_0 : decode cX11_chooses 0 = .ok (.aload_n 0, 1) := by decide +kernel
theorem dX11_chooses_1 : decode cX11_chooses 1 = .ok (.getfield 75, 3) := by decide +kernel
theorem dX11_chooses_4 : decode cX11_chooses 4 = .ok (.iload_n 1, 1) := by decide +kernel
theorem dX11_chooses_5 : decode cX11_chooses 5 = .ok (.iaload, 1) := by decide +kernel
theorem dX11_chooses_6 : decode cX11_chooses 6 = .ok (.iconst 3, 1) := by decide +kernel
theorem dX11_chooses_7 : decode cX11_chooses 7 = .ok (.if_icmp .lt 23, 3) := by decide +kernel
theorem dX11_chooses_10 : decode cX11_chooses 10 = .ok (.aload_n 0, 1) := by decide +kernel
theorem dX11_chooses_11 : decode cX11_chooses 11 = .ok (.getfield 75, 3) := by decide +kernel
theorem dX11_chooses_14 : decode cX11_chooses 14 = .ok (.iload_n 1, 1) := by decide +kernel
theorem dX11_chooses_15 : decode cX11_chooses 15 = .ok (.iaload, 1) := by decide +kernel
theorem dX11_chooses_16 : decode cX11_chooses 16 = .ok (.iconst 4, 1) := by decide +kernel
theorem dX11_chooses_17 : decode cX11_chooses 17 = .ok (.if_icmp .eq 13, 3) := by decide +kernel
theorem dX11_chooses_20 : decode cX11_chooses 20 = .ok (.aload_n 0, 1) := by decide +kernel
theorem dX11_chooses_21 : decode cX11_chooses 21 = .ok (.getfield 75, 3) := by decide +kernel
theorem dX11_chooses_24 : decode cX11_chooses 24 = .ok (.iload_n 1, 1) := by decide +kernel
theorem dX11_chooses_25 : decode cX11_chooses 25 = .ok (.iaload, 1) := by decide +kernel
theorem dX11_chooses_26 : decode cX11_chooses 26 = .ok (.iconst 5, 1) := by decide +kernel
theorem dX11_chooses_27 : decode cX11_chooses 27 = .ok (.if_icmp .ne 7, 3) := by decide +kernel
theorem dX11_chooses_30 : decode cX11_chooses 30 = .ok (.iconst 1, 1) := by decide +kernel
theorem dX11_chooses_31 : decode cX11_chooses 31 = .ok (.goto 4, 3) := by decide +kernel
theorem dX11_chooses_34 : decode cX11_chooses 34 = .ok (.iconst 0, 1) := by decide +kernel
theorem dX11_chooses_35 : decode cX11_chooses 35 = .ok (.ireturn, 1) := by decide +kernel
theorem dX11_endCost_0 : decode cX11_endCost 0 = .ok (.aload_n 0, 1) := by decide +kernel
theorem dX11_endCost_1 : decode cX11_endCost 1 = .ok (.getfield 75, 3) := by decide +kernel
theorem dX11_endCost_4 : decode cX11_endCost 4 = .ok (.iload_n 2, 1) := by decide +kernel
theorem dX11_endCost_5 : decode cX11_endCost 5 = .ok (.iaload, 1) := by decide +kernel
theorem dX11_endCost_6 : decode cX11_endCost 6 = .ok (.bipush 6, 2) := by decide +kernel
theorem dX11_endCost_8 : decode cX11_endCost 8 = .ok (.if_icmp .ne 16, 3) := by decide +kernel
theorem dX11_endCost_11 : decode cX11_endCost 11 = .ok (.iload_n 1, 1) := by decide +kernel
theorem dX11_endCost_12 : decode cX11_endCost 12 = .ok (.iload 4, 2) := by decide +kernel
theorem dX11_endCost_14 : decode cX11_endCost 14 = .ok (.if_icmp .ne 7, 3) := by decide +kernel
theorem dX11_endCost_17 : decode cX11_endCost 17 = .ok (.iconst 1, 1) := by decide +kernel
theorem dX11_endCost_18 : decode cX11_endCost 18 = .ok (.goto 5, 3) := by decide +kernel
theorem dX11_endCost_21 : decode cX11_endCost 21 = .ok (.ldc 177, 2) := by decide +kernel
theorem dX11_endCost_23 : decode cX11_endCost 23 = .ok (.ireturn, 1) := by decide +kernel
theorem dX11_endCost_24 : decode cX11_endCost 24 = .ok (.aload_n 0, 1) := by decide +kernel
theorem dX11_endCost_25 : decode cX11_endCost 25 = .ok (.getfield 75, 3) := by decide +kernel
theorem dX11_endCost_28 : decode cX11_endCost 28 = .ok (.iload_n 2, 1) := by decide +kernel
theorem dX11_endCost_29 : decode cX11_endCost 29 = .ok (.iaload, 1) := by decide +kernel
theorem dX11_endCost_30 : decode cX11_endCost 30 = .ok (.bipush 7, 2) := by decide +kernel
theorem dX11_endCost_32 : decode cX11_endCost 32 = .ok (.if_icmp .ne 22, 3) := by decide +kernel
theorem dX11_endCost_35 : decode cX11_endCost 35 = .ok (.iconst 1, 1) := by decide +kernel
theorem dX11_endCost_36 : decode cX11_endCost 36 = .ok (.aload_n 0, 1) := by decide +kernel
theorem dX11_endCost_37 : decode cX11_endCost 37 = .ok (.iload_n 1, 1) := by decide +kernel
theorem dX11_endCost_38 : decode cX11_endCost 38 = .ok (.aload_n 0, 1) := by decide +kernel
theorem dX11_endCost_39 : decode cX11_endCost 39 = .ok (.getfield 90, 3) := by decide +kernel
theorem dX11_endCost_42 : decode cX11_endCost 42 = .ok (.iload_n 2, 1) := by decide +kernel
theorem dX11_endCost_43 : decode cX11_endCost 43 = .ok (.iaload, 1) := by decide +kernel
theorem dX11_endCost_44 : decode cX11_endCost 44 = .ok (.iload_n 3, 1) := by decide +kernel
theorem dX11_endCost_45 : decode cX11_endCost 45 = .ok (.iload 4, 2) := by decide +kernel
theorem dX11_endCost_47 : decode cX11_endCost 47 = .ok (.invokevirtual 369, 3) := by decide +kernel
theorem dX11_endCost_50 : decode cX11_endCost 50 = .ok (.invokestatic 179, 3) := by decide +kernel
theorem dX11_endCost_53 : decode cX11_endCost 53 = .ok (.ireturn, 1) := by decide +kernel
theorem dX11_endCost_54 : decode cX11_endCost 54 = .ok (.ldc 177, 2) := by decide +kernel
theorem dX11_endCost_56 : decode cX11_endCost 56 = .ok (.istore 5, 2) := by decide +kernel
theorem dX11_endCost_58 : decode cX11_endCost 58 = .ok (.aload_n 0, 1) := by decide +kernel
theorem dX11_endCost_59 : decode cX11_endCost 59 = .ok (.getfield 75, 3) := by decide +kernel
theorem dX11_endCost_62 : decode cX11_endCost 62 = .ok (.iload_n 2, 1) := by decide +kernel
theorem dX11_endCost_63 : decode cX11_endCost 63 = .ok (.iaload, 1) := by decide +kernel
theorem dX11_endCost_64 : decode cX11_endCost 64 = .ok (.iconst 3, 1) := by decide +kernel
theorem dX11_endCost_65 : decode cX11_endCost 65 = .ok (.if_icmp .ne 81, 3) := by decide +kernel
theorem dX11_endCost_68 : decode cX11_endCost 68 = .ok (.iconst 0, 1) := by decide +kernel
theorem dX11_endCost_69 : decode cX11_endCost 69 = .ok (.istore 6, 2) := by decide +kernel
theorem dX11_endCost_71 : decode cX11_endCost 71 = .ok (.iload 6, 2) := by decide +kernel
theorem dX11_endCost_73 : decode cX11_endCost 73 = .ok (.bipush 8, 2) := by decide +kernel
theorem dX11_endCost_75 : decode cX11_endCost 75 = .ok (.if_icmp .ge 64, 3) := by decide +kernel
theorem dX11_endCost_78 : decode cX11_endCost 78 = .ok (.aload_n 0, 1) := by decide +kernel
theorem dX11_endCost_79 : decode cX11_endCost 79 = .ok (.iload_n 1, 1) := by decide +kernel
theorem dX11_endCost_80 : decode cX11_endCost 80 = .ok (.aload_n 0, 1) := by decide +kernel
theorem dX11_endCost_81 : decode cX11_endCost 81 = .ok (.getfield 72, 3) := by decide +kernel
theorem dX11_endCost_84 : decode cX11_endCost 84 = .ok (.aload_n 0, 1) := by decide +kernel
theorem dX11_endCost_85 : decode cX11_endCost 85 = .ok (.getfield 84, 3) := by decide +kernel
theorem dX11_endCost_88 : decode cX11_endCost 88 = .ok (.iload_n 2, 1) := by decide +kernel
theorem dX11_endCost_89 : decode cX11_endCost 89 = .ok (.iaload, 1) := by decide +kernel
theorem dX11_endCost_90 : decode cX11_endCost 90 = .ok (.iaload, 1) := by decide +kernel
theorem dX11_endCost_91 : decode cX11_endCost 91 = .ok (.iconst 0, 1) := by decide +kernel
theorem dX11_endCost_92 : decode cX11_endCost 92 = .ok (.iload 6, 2) := by decide +kernel
theorem dX11_endCost_94 : decode cX11_endCost 94 = .ok (.invokevirtual 369, 3) := by decide +kernel
theorem dX11_endCost_97 : decode cX11_endCost 97 = .ok (.aload_n 0, 1) := by decide +kernel
theorem dX11_endCost_98 : decode cX11_endCost 98 = .ok (.iload 6, 2) := by decide +kernel
theorem dX11_endCost_100 : decode cX11_endCost 100 = .ok (.aload_n 0, 1) := by decide +kernel
theorem dX11_endCost_101 : decode cX11_endCost 101 = .ok (.getfield 90, 3) := by decide +kernel
theorem dX11_endCost_104 : decode cX11_endCost 104 = .ok (.iload_n 2, 1) := by decide +kernel
theorem dX11_endCost_105 : decode cX11_endCost 105 = .ok (.iaload, 1) := by decide +kernel
theorem dX11_endCost_106 : decode cX11_endCost 106 = .ok (.iload_n 3, 1) := by decide +kernel
theorem dX11_endCost_107 : decode cX11_endCost 107 = .ok (.iload 4, 2) := by decide +kernel
theorem dX11_endCost_109 : decode cX11_endCost 109 = .ok (.invokevirtual 369, 3) := by decide +kernel
theorem dX11_endCost_112 : decode cX11_endCost 112 = .ok (.invokestatic 179, 3) := by decide +kernel
theorem dX11_endCost_115 : decode cX11_endCost 115 = .ok (.istore 7, 2) := by decide +kernel
theorem dX11_endCost_117 : decode cX11_endCost 117 = .ok (.iload 7, 2) := by decide +kernel
theorem dX11_endCost_119 : decode cX11_endCost 119 = .ok (.iload 5, 2) := by decide +kernel
theorem dX11_endCost_121 : decode cX11_endCost 121 = .ok (.if_icmp .ge 8, 3) := by decide +kernel
theorem dX11_endCost_124 : decode cX11_endCost 124 = .ok (.iload 7, 2) := by decide +kernel
theorem dX11_endCost_126 : decode cX11_endCost 126 = .ok (.goto 5, 3) := by decide +kernel
theorem dX11_endCost_129 : decode cX11_endCost 129 = .ok (.iload 5, 2) := by decide +kernel
theorem dX11_endCost_131 : decode cX11_endCost 131 = .ok (.istore 5, 2) := by decide +kernel
theorem dX11_endCost_133 : decode cX11_endCost 133 = .ok (.iinc 6 1, 3) := by decide +kernel
theorem dX11_endCost_136 : decode cX11_endCost 136 = .ok (.goto (-65), 3) := by decide +kernel
theorem dX11_endCost_139 : decode cX11_endCost 139 = .ok (.iconst 1, 1) := by decide +kernel
theorem dX11_endCost_140 : decode cX11_endCost 140 = .ok (.iload 5, 2) := by decide +kernel
theorem dX11_endCost_142 : decode cX11_endCost 142 = .ok (.invokestatic 179, 3) := by decide +kernel
theorem dX11_endCost_145 : decode cX11_endCost 145 = .ok (.ireturn, 1) := by decide +kernel
theorem dX11_endCost_146 : decode cX11_endCost 146 = .ok (.aload_n 0, 1) := by decide +kernel
theorem dX11_endCost_147 : decode cX11_endCost 147 = .ok (.iload_n 2, 1) := by decide +kernel
theorem dX11_endCost_148 : decode cX11_endCost 148 = .ok (.iload_n 1, 1) := by decide +kernel
theorem dX11_endCost_149 : decode cX11_endCost 149 = .ok (.iload_n 3, 1) := by decide +kernel
theorem dX11_endCost_150 : decode cX11_endCost 150 = .ok (.invokevirtual 373, 3) := by decide +kernel
theorem dX11_endCost_153 : decode cX11_endCost 153 = .ok (.istore 6, 2) := by decide +kernel
theorem dX11_endCost_155 : decode cX11_endCost 155 = .ok (.aload_n 0, 1) := by decide +kernel
theorem dX11_endCost_156 : decode cX11_endCost 156 = .ok (.getfield 75, 3) := by decide +kernel
theorem dX11_endCost_159 : decode cX11_endCost 159 = .ok (.iload_n 2, 1) := by decide +kernel
theorem dX11_endCost_160 : decode cX11_endCost 160 = .ok (.iaload, 1) := by decide +kernel
theorem dX11_endCost_161 : decode cX11_endCost 161 = .ok (.iconst 3, 1) := by decide +kernel
theorem dX11_endCost_162 : decode cX11_endCost 162 = .ok (.if_icmp .le 7, 3) := by decide +kernel
theorem dX11_endCost_165 : decode cX11_endCost 165 = .ok (.iconst 1, 1) := by decide +kernel
theorem dX11_endCost_166 : decode cX11_endCost 166 = .ok (.goto 4, 3) := by decide +kernel
theorem dX11_endCost_169 : decode cX11_endCost 169 = .ok (.iconst 0, 1) := by decide +kernel
theorem dX11_endCost_170 : decode cX11_endCost 170 = .ok (.istore 7, 2) := by decide +kernel
theorem dX11_endCost_172 : decode cX11_endCost 172 = .ok (.iload 7, 2) := by decide +kernel
theorem dX11_endCost_174 : decode cX11_endCost 174 = .ok (.iconst 2, 1) := by decide +kernel
theorem dX11_endCost_175 : decode cX11_endCost 175 = .ok (.if_icmp .ge 65, 3) := by decide +kernel
theorem dX11_endCost_178 : decode cX11_endCost 178 = .ok (.iload 6, 2) := by decide +kernel
theorem dX11_endCost_180 : decode cX11_endCost 180 = .ok (.iload 7, 2) := by decide +kernel
theorem dX11_endCost_182 : decode cX11_endCost 182 = .ok (.ishr, 1) := by decide +kernel
theorem dX11_endCost_183 : decode cX11_endCost 183 = .ok (.iconst 1, 1) := by decide +kernel
theorem dX11_endCost_184 : decode cX11_endCost 184 = .ok (.iand, 1) := by decide +kernel
theorem dX11_endCost_185 : decode cX11_endCost 185 = .ok (.iconst 1, 1) := by decide +kernel
theorem dX11_endCost_186 : decode cX11_endCost 186 = .ok (.if_icmp .ne 48, 3) := by decide +kernel
theorem dX11_endCost_189 : decode cX11_endCost 189 = .ok (.aload_n 0, 1) := by decide +kernel
theorem dX11_endCost_190 : decode cX11_endCost 190 = .ok (.iload_n 2, 1) := by decide +kernel
theorem dX11_endCost_191 : decode cX11_endCost 191 = .ok (.iload_n 1, 1) := by decide +kernel
theorem dX11_endCost_192 : decode cX11_endCost 192 = .ok (.iload_n 3, 1) := by decide +kernel
theorem dX11_endCost_193 : decode cX11_endCost 193 = .ok (.iload 7, 2) := by decide +kernel
theorem dX11_endCost_195 : decode cX11_endCost 195 = .ok (.invokevirtual 376, 3) := by decide +kernel
theorem dX11_endCost_198 : decode cX11_endCost 198 = .ok (.aload_n 0, 1) := by decide +kernel
theorem dX11_endCost_199 : decode cX11_endCost 199 = .ok (.aload_n 0, 1) := by decide +kernel
theorem dX11_endCost_200 : decode cX11_endCost 200 = .ok (.getfield 360, 3) := by decide +kernel
theorem dX11_endCost_203 : decode cX11_endCost 203 = .ok (.aload_n 0, 1) := by decide +kernel
theorem dX11_endCost_204 : decode cX11_endCost 204 = .ok (.getfield 366, 3) := by decide +kernel
theorem dX11_endCost_207 : decode cX11_endCost 207 = .ok (.aload_n 0, 1) := by decide +kernel
theorem dX11_endCost_208 : decode cX11_endCost 208 = .ok (.getfield 363, 3) := by decide +kernel
theorem dX11_endCost_211 : decode cX11_endCost 211 = .ok (.iload 4, 2) := by decide +kernel
theorem dX11_endCost_213 : decode cX11_endCost 213 = .ok (.invokevirtual 369, 3) := by decide +kernel
theorem dX11_endCost_216 : decode cX11_endCost 216 = .ok (.istore 8, 2) := by decide +kernel
theorem dX11_endCost_218 : decode cX11_endCost 218 = .ok (.iload 8, 2) := by decide +kernel
theorem dX11_endCost_220 : decode cX11_endCost 220 = .ok (.iload 5, 2) := by decide +kernel
theorem dX11_endCost_222 : decode cX11_endCost 222 = .ok (.if_icmp .ge 8, 3) := by decide +kernel
theorem dX11_endCost_225 : decode cX11_endCost 225 = .ok (.iload 8, 2) := by decide +kernel
theorem dX11_endCost_227 : decode cX11_endCost 227 = .ok (.goto 5, 3) := by decide +kernel
theorem dX11_endCost_230 : decode cX11_endCost 230 = .ok (.iload 5, 2) := by decide +kernel
theorem dX11_endCost_232 : decode cX11_endCost 232 = .ok (.istore 5, 2) := by decide +kernel
theorem dX11_endCost_234 : decode cX11_endCost 234 = .ok (.iinc 7 1, 3) := by decide +kernel
theorem dX11_endCost_237 : decode cX11_endCost 237 = .ok (.goto (-65), 3) := by decide +kernel
theorem dX11_endCost_240 : decode cX11_endCost 240 = .ok (.iconst 1, 1) := by decide +kernel
theorem dX11_endCost_241 : decode cX11_endCost 241 = .ok (.iload 5, 2) := by decide +kernel
theorem dX11_endCost_243 : decode cX11_endCost 243 = .ok (.invokestatic 179, 3) := by decide +kernel
theorem dX11_endCost_246 : decode cX11_endCost 246 = .ok (.ireturn, 1) := by decide +kernel
theorem dX11_failCost_0 : decode cX11_failCost 0 = .ok (.aload_n 0, 1) := by decide +kernel
theorem dX11_failCost_1 : decode cX11_failCost 1 = .ok (.getfield 75, 3) := by decide +kernel
theorem dX11_failCost_4 : decode cX11_failCost 4 = .ok (.iload_n 2, 1) := by decide +kernel
theorem dX11_failCost_5 : decode cX11_failCost 5 = .ok (.iaload, 1) := by decide +kernel
theorem dX11_failCost_6 : decode cX11_failCost 6 = .ok (.bipush 6, 2) := by decide +kernel
theorem dX11_failCost_8 : decode cX11_failCost 8 = .ok (.if_icmp .ne 6, 3) := by decide +kernel
theorem dX11_failCost_11 : decode cX11_failCost 11 = .ok (.ldc 177, 2) := by decide +kernel
theorem dX11_failCost_13 : decode cX11_failCost 13 = .ok (.ireturn, 1) := by decide +kernel
theorem dX11_failCost_14 : decode cX11_failCost 14 = .ok (.aload_n 0, 1) := by decide +kernel
theorem dX11_failCost_15 : decode cX11_failCost 15 = .ok (.getfield 75, 3) := by decide +kernel
theorem dX11_failCost_18 : decode cX11_failCost 18 = .ok (.iload_n 2, 1) := by decide +kernel
theorem dX11_failCost_19 : decode cX11_failCost 19 = .ok (.iaload, 1) := by decide +kernel
theorem dX11_failCost_20 : decode cX11_failCost 20 = .ok (.bipush 7, 2) := by decide +kernel
theorem dX11_failCost_22 : decode cX11_failCost 22 = .ok (.if_icmp .ne 20, 3) := by decide +kernel
theorem dX11_failCost_25 : decode cX11_failCost 25 = .ok (.iconst 1, 1) := by decide +kernel
theorem dX11_failCost_26 : decode cX11_failCost 26 = .ok (.aload_n 0, 1) := by decide +kernel
theorem dX11_failCost_27 : decode cX11_failCost 27 = .ok (.iload_n 1, 1) := by decide +kernel
theorem dX11_failCost_28 : decode cX11_failCost 28 = .ok (.aload_n 0, 1) := by decide +kernel
theorem dX11_failCost_29 : decode cX11_failCost 29 = .ok (.getfield 90, 3) := by decide +kernel
theorem dX11_failCost_32 : decode cX11_failCost 32 = .ok (.iload_n 2, 1) := by decide +kernel
theorem dX11_failCost_33 : decode cX11_failCost 33 = .ok (.iaload, 1) := by decide +kernel
theorem dX11_failCost_34 : decode cX11_failCost 34 = .ok (.iload_n 3, 1) := by decide +kernel
theorem dX11_failCost_35 : decode cX11_failCost 35 = .ok (.invokevirtual 380, 3) := by decide +kernel
theorem dX11_failCost_38 : decode cX11_failCost 38 = .ok (.invokestatic 179, 3) := by decide +kernel
theorem dX11_failCost_41 : decode cX11_failCost 41 = .ok (.ireturn, 1) := by decide +kernel
theorem dX11_failCost_42 : decode cX11_failCost 42 = .ok (.aload_n 0, 1) := by decide +kernel
theorem dX11_failCost_43 : decode cX11_failCost 43 = .ok (.getfield 75, 3) := by decide +kernel
theorem dX11_failCost_46 : decode cX11_failCost 46 = .ok (.iload_n 2, 1) := by decide +kernel
theorem dX11_failCost_47 : decode cX11_failCost 47 = .ok (.iaload, 1) := by decide +kernel
theorem dX11_failCost_48 : decode cX11_failCost 48 = .ok (.iconst 3, 1) := by decide +kernel
theorem dX11_failCost_49 : decode cX11_failCost 49 = .ok (.if_icmp .ne 98, 3) := by decide +kernel
theorem dX11_failCost_52 : decode cX11_failCost 52 = .ok (.aload_n 0, 1) := by decide +kernel
theorem dX11_failCost_53 : decode cX11_failCost 53 = .ok (.iload_n 1, 1) := by decide +kernel
theorem dX11_failCost_54 : decode cX11_failCost 54 = .ok (.aload_n 0, 1) := by decide +kernel
theorem dX11_failCost_55 : decode cX11_failCost 55 = .ok (.getfield 72, 3) := by decide +kernel
theorem dX11_failCost_58 : decode cX11_failCost 58 = .ok (.aload_n 0, 1) := by decide +kernel
theorem dX11_failCost_59 : decode cX11_failCost 59 = .ok (.getfield 84, 3) := by decide +kernel
theorem dX11_failCost_62 : decode cX11_failCost 62 = .ok (.iload_n 2, 1) := by decide +kernel
theorem dX11_failCost_63 : decode cX11_failCost 63 = .ok (.iaload, 1) := by decide +kernel
theorem dX11_failCost_64 : decode cX11_failCost 64 = .ok (.iaload, 1) := by decide +kernel
theorem dX11_failCost_65 : decode cX11_failCost 65 = .ok (.iconst 0, 1) := by decide +kernel
theorem dX11_failCost_66 : decode cX11_failCost 66 = .ok (.invokevirtual 380, 3) := by decide +kernel
theorem dX11_failCost_69 : decode cX11_failCost 69 = .ok (.istore 4, 2) := by decide +kernel
theorem dX11_failCost_71 : decode cX11_failCost 71 = .ok (.iconst 0, 1) := by decide +kernel
theorem dX11_failCost_72 : decode cX11_failCost 72 = .ok (.istore 5, 2) := by decide +kernel
theorem dX11_failCost_74 : decode cX11_failCost 74 = .ok (.iload 5, 2) := by decide +kernel
theorem dX11_failCost_76 : decode cX11_failCost 76 = .ok (.bipush 8, 2) := by decide +kernel
theorem dX11_failCost_78 : decode cX11_failCost 78 = .ok (.if_icmp .ge 62, 3) := by decide +kernel
theorem dX11_failCost_81 : decode cX11_failCost 81 = .ok (.aload_n 0, 1) := by decide +kernel
theorem dX11_failCost_82 : decode cX11_failCost 82 = .ok (.iload_n 1, 1) := by decide +kernel
theorem dX11_failCost_83 : decode cX11_failCost 83 = .ok (.aload_n 0, 1) := by decide +kernel
theorem dX11_failCost_84 : decode cX11_failCost 84 = .ok (.getfield 72, 3) := by decide +kernel
theorem dX11_failCost_87 : decode cX11_failCost 87 = .ok (.aload_n 0, 1) := by decide +kernel
theorem dX11_failCost_88 : decode cX11_failCost 88 = .ok (.getfield 84, 3) := by decide +kernel
theorem dX11_failCost_91 : decode cX11_failCost 91 = .ok (.iload_n 2, 1) := by decide +kernel
theorem dX11_failCost_92 : decode cX11_failCost 92 = .ok (.iaload, 1) := by decide +kernel
theorem dX11_failCost_93 : decode cX11_failCost 93 = .ok (.iaload, 1) := by decide +kernel
theorem dX11_failCost_94 : decode cX11_failCost 94 = .ok (.iconst 0, 1) := by decide +kernel
theorem dX11_failCost_95 : decode cX11_failCost 95 = .ok (.iload 5, 2) := by decide +kernel
theorem dX11_failCost_97 : decode cX11_failCost 97 = .ok (.invokevirtual 369, 3) := by decide +kernel
theorem dX11_failCost_100 : decode cX11_failCost 100 = .ok (.aload_n 0, 1) := by decide +kernel
theorem dX11_failCost_101 : decode cX11_failCost 101 = .ok (.iload 5, 2) := by decide +kernel
theorem dX11_failCost_103 : decode cX11_failCost 103 = .ok (.aload_n 0, 1) := by decide +kernel
theorem dX11_failCost_104 : decode cX11_failCost 104 = .ok (.getfield 90, 3) := by decide +kernel
theorem dX11_failCost_107 : decode cX11_failCost 107 = .ok (.iload_n 2, 1) := by decide +kernel
theorem dX11_failCost_108 : decode cX11_failCost 108 = .ok (.iaload, 1) := by decide +kernel
theorem dX11_failCost_109 : decode cX11_failCost 109 = .ok (.iload_n 3, 1) := by decide +kernel
theorem dX11_failCost_110 : decode cX11_failCost 110 = .ok (.invokevirtual 380, 3) := by decide +kernel
theorem dX11_failCost_113 : decode cX11_failCost 113 = .ok (.invokestatic 179, 3) := by decide +kernel
theorem dX11_failCost_116 : decode cX11_failCost 116 = .ok (.istore 6, 2) := by decide +kernel
theorem dX11_failCost_118 : decode cX11_failCost 118 = .ok (.iload 6, 2) := by decide +kernel
theorem dX11_failCost_120 : decode cX11_failCost 120 = .ok (.iload 4, 2) := by decide +kernel
theorem dX11_failCost_122 : decode cX11_failCost 122 = .ok (.if_icmp .ge 8, 3) := by decide +kernel
theorem dX11_failCost_125 : decode cX11_failCost 125 = .ok (.iload 6, 2) := by decide +kernel
theorem dX11_failCost_127 : decode cX11_failCost 127 = .ok (.goto 5, 3) := by decide +kernel
theorem dX11_failCost_130 : decode cX11_failCost 130 = .ok (.iload 4, 2) := by decide +kernel
theorem dX11_failCost_132 : decode cX11_failCost 132 = .ok (.istore 4, 2) := by decide +kernel
theorem dX11_failCost_134 : decode cX11_failCost 134 = .ok (.iinc 5 1, 3) := by decide +kernel
theorem dX11_failCost_137 : decode cX11_failCost 137 = .ok (.goto (-63), 3) := by decide +kernel
theorem dX11_failCost_140 : decode cX11_failCost 140 = .ok (.iconst 1, 1) := by decide +kernel
theorem dX11_failCost_141 : decode cX11_failCost 141 = .ok (.iload 4, 2) := by decide +kernel
theorem dX11_failCost_143 : decode cX11_failCost 143 = .ok (.invokestatic 179, 3) := by decide +kernel
theorem dX11_failCost_146 : decode cX11_failCost 146 = .ok (.ireturn, 1) := by decide +kernel
theorem dX11_failCost_147 : decode cX11_failCost 147 = .ok (.aload_n 0, 1) := by decide +kernel
theorem dX11_failCost_148 : decode cX11_failCost 148 = .ok (.iload_n 2, 1) := by decide +kernel
theorem dX11_failCost_149 : decode cX11_failCost 149 = .ok (.iload_n 1, 1) := by decide +kernel
theorem dX11_failCost_150 : decode cX11_failCost 150 = .ok (.iload_n 3, 1) := by decide +kernel
theorem dX11_failCost_151 : decode cX11_failCost 151 = .ok (.invokevirtual 373, 3) := by decide +kernel
theorem dX11_failCost_154 : decode cX11_failCost 154 = .ok (.istore 4, 2) := by decide +kernel
theorem dX11_failCost_156 : decode cX11_failCost 156 = .ok (.aload_n 0, 1) := by decide +kernel
theorem dX11_failCost_157 : decode cX11_failCost 157 = .ok (.getfield 75, 3) := by decide +kernel
theorem dX11_failCost_160 : decode cX11_failCost 160 = .ok (.iload_n 2, 1) := by decide +kernel
theorem dX11_failCost_161 : decode cX11_failCost 161 = .ok (.iaload, 1) := by decide +kernel
theorem dX11_failCost_162 : decode cX11_failCost 162 = .ok (.iconst 4, 1) := by decide +kernel
theorem dX11_failCost_163 : decode cX11_failCost 163 = .ok (.if_icmp .ne 13, 3) := by decide +kernel
theorem dX11_failCost_166 : decode cX11_failCost 166 = .ok (.iload 4, 2) := by decide +kernel
theorem dX11_failCost_168 : decode cX11_failCost 168 = .ok (.iconst 1, 1) := by decide +kernel
theorem dX11_failCost_169 : decode cX11_failCost 169 = .ok (.iand, 1) := by decide +kernel
theorem dX11_failCost_170 : decode cX11_failCost 170 = .ok (.iconst 1, 1) := by decide +kernel
theorem dX11_failCost_171 : decode cX11_failCost 171 = .ok (.if_icmp .ne 5, 3) := by decide +kernel
theorem dX11_failCost_174 : decode cX11_failCost 174 = .ok (.iconst 1, 1) := by decide +kernel
theorem dX11_failCost_175 : decode cX11_failCost 175 = .ok (.ireturn, 1) := by decide +kernel
theorem dX11_failCost_176 : decode cX11_failCost 176 = .ok (.ldc 177, 2) := by decide +kernel
theorem dX11_failCost_178 : decode cX11_failCost 178 = .ok (.istore 5, 2) := by decide +kernel
theorem dX11_failCost_180 : decode cX11_failCost 180 = .ok (.aload_n 0, 1) := by decide +kernel
theorem dX11_failCost_181 : decode cX11_failCost 181 = .ok (.getfield 75, 3) := by decide +kernel
theorem dX11_failCost_184 : decode cX11_failCost 184 = .ok (.iload_n 2, 1) := by decide +kernel
theorem dX11_failCost_185 : decode cX11_failCost 185 = .ok (.iaload, 1) := by decide +kernel
theorem dX11_failCost_186 : decode cX11_failCost 186 = .ok (.iconst 3, 1) := by decide +kernel
theorem dX11_failCost_187 : decode cX11_failCost 187 = .ok (.if_icmp .le 7, 3) := by decide +kernel
theorem dX11_failCost_190 : decode cX11_failCost 190 = .ok (.iconst 1, 1) := by decide +kernel
theorem dX11_failCost_191 : decode cX11_failCost 191 = .ok (.goto 4, 3) := by decide +kernel
theorem dX11_failCost_194 : decode cX11_failCost 194 = .ok (.iconst 0, 1) := by decide +kernel
theorem dX11_failCost_195 : decode cX11_failCost 195 = .ok (.istore 6, 2) := by decide +kernel
theorem dX11_failCost_197 : decode cX11_failCost 197 = .ok (.iload 6, 2) := by decide +kernel
theorem dX11_failCost_199 : decode cX11_failCost 199 = .ok (.iconst 2, 1) := by decide +kernel
theorem dX11_failCost_200 : decode cX11_failCost 200 = .ok (.if_icmp .ge 63, 3) := by decide +kernel
theorem dX11_failCost_203 : decode cX11_failCost 203 = .ok (.iload 4, 2) := by decide +kernel
theorem dX11_failCost_205 : decode cX11_failCost 205 = .ok (.iload 6, 2) := by decide +kernel
theorem dX11_failCost_207 : decode cX11_failCost 207 = .ok (.ishr, 1) := by decide +kernel
theorem dX11_failCost_208 : decode cX11_failCost 208 = .ok (.iconst 1, 1) := by decide +kernel
theorem dX11_failCost_209 : decode cX11_failCost 209 = .ok (.iand, 1) := by decide +kernel
theorem dX11_failCost_210 : decode cX11_failCost 210 = .ok (.iconst 1, 1) := by decide +kernel
theorem dX11_failCost_211 : decode cX11_failCost 211 = .ok (.if_icmp .ne 46, 3) := by decide +kernel
theorem dX11_failCost_214 : decode cX11_failCost 214 = .ok (.aload_n 0, 1) := by decide +kernel
theorem dX11_failCost_215 : decode cX11_failCost 215 = .ok (.iload_n 2, 1) := by decide +kernel
theorem dX11_failCost_216 : decode cX11_failCost 216 = .ok (.iload_n 1, 1) := by decide +kernel
theorem dX11_failCost_217 : decode cX11_failCost 217 = .ok (.iload_n 3, 1) := by decide +kernel
theorem dX11_failCost_218 : decode cX11_failCost 218 = .ok (.iload 6, 2) := by decide +kernel
theorem dX11_failCost_220 : decode cX11_failCost 220 = .ok (.invokevirtual 376, 3) := by decide +kernel
theorem dX11_failCost_223 : decode cX11_failCost 223 = .ok (.aload_n 0, 1) := by decide +kernel
theorem dX11_failCost_224 : decode cX11_failCost 224 = .ok (.aload_n 0, 1) := by decide +kernel
theorem dX11_failCost_225 : decode cX11_failCost 225 = .ok (.getfield 360, 3) := by decide +kernel
theorem dX11_failCost_228 : decode cX11_failCost 228 = .ok (.aload_n 0, 1) := by decide +kernel
theorem dX11_failCost_229 : decode cX11_failCost 229 = .ok (.getfield 366, 3) := by decide +kernel
theorem dX11_failCost_232 : decode cX11_failCost 232 = .ok (.aload_n 0, 1) := by decide +kernel
theorem dX11_failCost_233 : decode cX11_failCost 233 = .ok (.getfield 363, 3) := by decide +kernel
theorem dX11_failCost_236 : decode cX11_failCost 236 = .ok (.invokevirtual 380, 3) := by decide +kernel
theorem dX11_failCost_239 : decode cX11_failCost 239 = .ok (.istore 7, 2) := by decide +kernel
theorem dX11_failCost_241 : decode cX11_failCost 241 = .ok (.iload 7, 2) := by decide +kernel
theorem dX11_failCost_243 : decode cX11_failCost 243 = .ok (.iload 5, 2) := by decide +kernel
theorem dX11_failCost_245 : decode cX11_failCost 245 = .ok (.if_icmp .ge 8, 3) := by decide +kernel
theorem dX11_failCost_248 : decode cX11_failCost 248 = .ok (.iload 7, 2) := by decide +kernel
theorem dX11_failCost_250 : decode cX11_failCost 250 = .ok (.goto 5, 3) := by decide +kernel
theorem dX11_failCost_253 : decode cX11_failCost 253 = .ok (.iload 5, 2) := by decide +kernel
theorem dX11_failCost_255 : decode cX11_failCost 255 = .ok (.istore 5, 2) := by decide +kernel
theorem dX11_failCost_257 : decode cX11_failCost 257 = .ok (.iinc 6 1, 3) := by decide +kernel
theorem dX11_failCost_260 : decode cX11_failCost 260 = .ok (.goto (-63), 3) := by decide +kernel
theorem dX11_failCost_263 : decode cX11_failCost 263 = .ok (.iconst 1, 1) := by decide +kernel
theorem dX11_failCost_264 : decode cX11_failCost 264 = .ok (.iload 5, 2) := by decide +kernel
theorem dX11_failCost_266 : decode cX11_failCost 266 = .ok (.invokestatic 179, 3) := by decide +kernel
theorem dX11_failCost_269 : decode cX11_failCost 269 = .ok (.ireturn, 1) := by decide +kernel
theorem dX11_solve_0 : decode cX11_solve 0 = .ok (.iconst 0, 1) := by decide +kernel
theorem dX11_solve_1 : decode cX11_solve 1 = .ok (.istore_n 1, 1) := by decide +kernel
theorem dX11_solve_2 : decode cX11_solve 2 = .ok (.iload_n 1, 1) := by decide +kernel
theorem dX11_solve_3 : decode cX11_solve 3 = .ok (.sipush 10240, 3) := by decide +kernel
theorem dX11_solve_6 : decode cX11_solve 6 = .ok (.if_icmp .ge 17, 3) := by decide +kernel
theorem dX11_solve_9 : decode cX11_solve 9 = .ok (.aload_n 0, 1) := by decide +kernel
theorem dX11_solve_10 : decode cX11_solve 10 = .ok (.getfield 132, 3) := by decide +kernel
theorem dX11_solve_13 : decode cX11_solve 13 = .ok (.iload_n 1, 1) := by decide +kernel
theorem dX11_solve_14 : decode cX11_solve 14 = .ok (.ldc 177, 2) := by decide +kernel
theorem dX11_solve_16 : decode cX11_solve 16 = .ok (.iastore, 1) := by decide +kernel
theorem dX11_solve_17 : decode cX11_solve 17 = .ok (.iinc 1 1, 3) := by decide +kernel
theorem dX11_solve_20 : decode cX11_solve 20 = .ok (.goto (-18), 3) := by decide +kernel
theorem dX11_solve_23 : decode cX11_solve 23 = .ok (.iconst 0, 1) := by decide +kernel
theorem dX11_solve_24 : decode cX11_solve 24 = .ok (.istore_n 1, 1) := by decide +kernel
theorem dX11_solve_25 : decode cX11_solve 25 = .ok (.iload_n 1, 1) := by decide +kernel
theorem dX11_solve_26 : decode cX11_solve 26 = .ok (.sipush 1280, 3) := by decide +kernel
theorem dX11_solve_29 : decode cX11_solve 29 = .ok (.if_icmp .ge 17, 3) := by decide +kernel
theorem dX11_solve_32 : decode cX11_solve 32 = .ok (.aload_n 0, 1) := by decide +kernel
theorem dX11_solve_33 : decode cX11_solve 33 = .ok (.getfield 135, 3) := by decide +kernel
theorem dX11_solve_36 : decode cX11_solve 36 = .ok (.iload_n 1, 1) := by decide +kernel
theorem dX11_solve_37 : decode cX11_solve 37 = .ok (.ldc 177, 2) := by decide +kernel
theorem dX11_solve_39 : decode cX11_solve 39 = .ok (.iastore, 1) := by decide +kernel
theorem dX11_solve_40 : decode cX11_solve 40 = .ok (.iinc 1 1, 3) := by decide +kernel
theorem dX11_solve_43 : decode cX11_solve 43 = .ok (.goto (-18), 3) := by decide +kernel
theorem dX11_solve_46 : decode cX11_solve 46 = .ok (.iconst 1, 1) := by decide +kernel
theorem dX11_solve_47 : decode cX11_solve 47 = .ok (.istore_n 1, 1) := by decide +kernel
theorem dX11_solve_48 : decode cX11_solve 48 = .ok (.iload_n 1, 1) := by decide +kernel
theorem dX11_solve_49 : decode cX11_solve 49 = .ok (.ifCond .eq 141, 3) := by decide +kernel
theorem dX11_solve_52 : decode cX11_solve 52 = .ok (.iconst 0, 1) := by decide +kernel
theorem dX11_solve_53 : decode cX11_solve 53 = .ok (.istore_n 1, 1) := by decide +kernel
theorem dX11_solve_54 : decode cX11_solve 54 = .ok (.aload_n 0, 1) := by decide +kernel
theorem dX11_solve_55 : decode cX11_solve 55 = .ok (.getfield 312, 3) := by decide +kernel
theorem dX11_solve_58 : decode cX11_solve 58 = .ok (.iconst 1, 1) := by decide +kernel
theorem dX11_solve_59 : decode cX11_solve 59 = .ok (.isub, 1) := by decide +kernel
theorem dX11_solve_60 : decode cX11_solve 60 = .ok (.istore_n 2, 1) := by decide +kernel
theorem dX11_solve_61 : decode cX11_solve 61 = .ok (.iload_n 2, 1) := by decide +kernel
theorem dX11_solve_62 : decode cX11_solve 62 = .ok (.ifCond .lt 125, 3) := by decide +kernel
theorem dX11_solve_65 : decode cX11_solve 65 = .ok (.iconst 0, 1) := by decide +kernel
theorem dX11_solve_66 : decode cX11_solve 66 = .ok (.istore_n 3, 1) := by decide +kernel
theorem dX11_solve_67 : decode cX11_solve 67 = .ok (.iload_n 3, 1) := by decide +kernel
theorem dX11_solve_68 : decode cX11_solve 68 = .ok (.bipush 32, 2) := by decide +kernel
theorem dX11_solve_70 : decode cX11_solve 70 = .ok (.if_icmp .ge 111, 3) := by decide +kernel
theorem dX11_solve_73 : decode cX11_solve 73 = .ok (.iconst 0, 1) := by decide +kernel
theorem dX11_solve_74 : decode cX11_solve 74 = .ok (.istore 4, 2) := by decide +kernel
theorem dX11_solve_76 : decode cX11_solve 76 = .ok (.iload 4, 2) := by decide +kernel
theorem dX11_solve_78 : decode cX11_solve 78 = .ok (.bipush 8, 2) := by decide +kernel
theorem dX11_solve_80 : decode cX11_solve 80 = .ok (.if_icmp .ge 95, 3) := by decide +kernel
theorem dX11_solve_83 : decode cX11_solve 83 = .ok (.bipush 8, 2) := by decide +kernel
theorem dX11_solve_85 : decode cX11_solve 85 = .ok (.iload_n 3, 1) := by decide +kernel
theorem dX11_solve_86 : decode cX11_solve 86 = .ok (.iconst 2, 1) := by decide +kernel
theorem dX11_solve_87 : decode cX11_solve 87 = .ok (.ishr, 1) := by decide +kernel
theorem dX11_solve_88 : decode cX11_solve 88 = .ok (.iload_n 2, 1) := by decide +kernel
theorem dX11_solve_89 : decode cX11_solve 89 = .ok (.iload_n 3, 1) := by decide +kernel
theorem dX11_solve_90 : decode cX11_solve 90 = .ok (.iconst 3, 1) := by decide +kernel
theorem dX11_solve_91 : decode cX11_solve 91 = .ok (.iand, 1) := by decide +kernel
theorem dX11_solve_92 : decode cX11_solve 92 = .ok (.invokestatic 356, 3) := by decide +kernel
theorem dX11_solve_95 : decode cX11_solve 95 = .ok (.imul, 1) := by decide +kernel
theorem dX11_solve_96 : decode cX11_solve 96 = .ok (.iload 4, 2) := by decide +kernel
theorem dX11_solve_98 : decode cX11_solve 98 = .ok (.iadd, 1) := by decide +kernel
theorem dX11_solve_99 : decode cX11_solve 99 = .ok (.istore 5, 2) := by decide +kernel
theorem dX11_solve_101 : decode cX11_solve 101 = .ok (.aload_n 0, 1) := by decide +kernel
theorem dX11_solve_102 : decode cX11_solve 102 = .ok (.iload_n 3, 1) := by decide +kernel
theorem dX11_solve_103 : decode cX11_solve 103 = .ok (.iconst 2, 1) := by decide +kernel
theorem dX11_solve_104 : decode cX11_solve 104 = .ok (.ishr, 1) := by decide +kernel
theorem dX11_solve_105 : decode cX11_solve 105 = .ok (.iload_n 2, 1) := by decide +kernel
theorem dX11_solve_106 : decode cX11_solve 106 = .ok (.iload_n 3, 1) := by decide +kernel
theorem dX11_solve_107 : decode cX11_solve 107 = .ok (.iconst 3, 1) := by decide +kernel
theorem dX11_solve_108 : decode cX11_solve 108 = .ok (.iand, 1) := by decide +kernel
theorem dX11_solve_109 : decode cX11_solve 109 = .ok (.iload 4, 2) := by decide +kernel
theorem dX11_solve_111 : decode cX11_solve 111 = .ok (.invokevirtual 383, 3) := by decide +kernel
theorem dX11_solve_114 : decode cX11_solve 114 = .ok (.istore 6, 2) := by decide +kernel
theorem dX11_solve_116 : decode cX11_solve 116 = .ok (.iload_n 1, 1) := by decide +kernel
theorem dX11_solve_117 : decode cX11_solve 117 = .ok (.ifCond .ne 15, 3) := by decide +kernel
theorem dX11_solve_120 : decode cX11_solve 120 = .ok (.iload 6, 2) := by decide +kernel
theorem dX11_solve_122 : decode cX11_solve 122 = .ok (.aload_n 0, 1) := by decide +kernel
theorem dX11_solve_123 : decode cX11_solve 123 = .ok (.getfield 132, 3) := by decide +kernel
theorem dX11_solve_126 : decode cX11_solve 126 = .ok (.iload 5, 2) := by decide +kernel
theorem dX11_solve_128 : decode cX11_solve 128 = .ok (.iaload, 1) := by decide +kernel
theorem dX11_solve_129 : decode cX11_solve 129 = .ok (.if_icmp .ge 7, 3) := by decide +kernel
theorem dX11_solve_132 : decode cX11_solve 132 = .ok (.iconst 1, 1) := by decide +kernel
theorem dX11_solve_133 : decode cX11_solve 133 = .ok (.goto 4, 3) := by decide +kernel
theorem dX11_solve_136 : decode cX11_solve 136 = .ok (.iconst 0, 1) := by decide +kernel
theorem dX11_solve_137 : decode cX11_solve 137 = .ok (.istore_n 1, 1) := by decide +kernel
theorem dX11_solve_138 : decode cX11_solve 138 = .ok (.aload_n 0, 1) := by decide +kernel
theorem dX11_solve_139 : decode cX11_solve 139 = .ok (.getfield 132, 3) := by decide +kernel
theorem dX11_solve_142 : decode cX11_solve 142 = .ok (.iload 5, 2) := by decide +kernel
theorem dX11_solve_144 : decode cX11_solve 144 = .ok (.iload 6, 2) := by decide +kernel
theorem dX11_solve_146 : decode cX11_solve 146 = .ok (.aload_n 0, 1) := by decide +kernel
theorem dX11_solve_147 : decode cX11_solve 147 = .ok (.getfield 132, 3) := by decide +kernel
theorem dX11_solve_150 : decode cX11_solve 150 = .ok (.iload 5, 2) := by decide +kernel
theorem dX11_solve_152 : decode cX11_solve 152 = .ok (.iaload, 1) := by decide +kernel
theorem dX11_solve_153 : decode cX11_solve 153 = .ok (.if_icmp .ge 8, 3) := by decide +kernel
theorem dX11_solve_156 : decode cX11_solve 156 = .ok (.iload 6, 2) := by decide +kernel
theorem dX11_solve_158 : decode cX11_solve 158 = .ok (.goto 10, 3) := by decide +kernel
theorem dX11_solve_161 : decode cX11_solve 161 = .ok (.aload_n 0, 1) := by decide +kernel
theorem dX11_solve_162 : decode cX11_solve 162 = .ok (.getfield 132, 3) := by decide +kernel
theorem dX11_solve_165 : decode cX11_solve 165 = .ok (.iload 5, 2) := by decide +kernel
theorem dX11_solve_167 : decode cX11_solve 167 = .ok (.iaload, 1) := by decide +kernel
theorem dX11_solve_168 : decode cX11_solve 168 = .ok (.iastore, 1) := by decide +kernel
theorem dX11_solve_169 : decode cX11_solve 169 = .ok (.iinc 4 1, 3) := by decide +kernel
theorem dX11_solve_172 : decode cX11_solve 172 = .ok (.goto (-96), 3) := by decide +kernel
theorem dX11_solve_175 : decode cX11_solve 175 = .ok (.iinc 3 1, 3) := by decide +kernel
theorem dX11_solve_178 : decode cX11_solve 178 = .ok (.goto (-111), 3) := by decide +kernel
theorem dX11_solve_181 : decode cX11_solve 181 = .ok (.iinc 2 (-1), 3) := by decide +kernel
theorem dX11_solve_184 : decode cX11_solve 184 = .ok (.goto (-123), 3) := by decide +kernel
theorem dX11_solve_187 : decode cX11_solve 187 = .ok (.goto (-139), 3) := by decide +kernel
theorem dX11_solve_190 : decode cX11_solve 190 = .ok (.iconst 1, 1) := by decide +kernel
theorem dX11_solve_191 : decode cX11_solve 191 = .ok (.istore_n 1, 1) := by decide +kernel
theorem dX11_solve_192 : decode cX11_solve 192 = .ok (.iload_n 1, 1) := by decide +kernel
theorem dX11_solve_193 : decode cX11_solve 193 = .ok (.ifCond .eq 117, 3) := by decide +kernel
theorem dX11_solve_196 : decode cX11_solve 196 = .ok (.iconst 0, 1) := by decide +kernel
theorem dX11_solve_197 : decode cX11_solve 197 = .ok (.istore_n 1, 1) := by decide +kernel
theorem dX11_solve_198 : decode cX11_solve 198 = .ok (.aload_n 0, 1) := by decide +kernel
theorem dX11_solve_199 : decode cX11_solve 199 = .ok (.getfield 312, 3) := by decide +kernel
theorem dX11_solve_202 : decode cX11_solve 202 = .ok (.iconst 1, 1) := by decide +kernel
theorem dX11_solve_203 : decode cX11_solve 203 = .ok (.isub, 1) := by decide +kernel
theorem dX11_solve_204 : decode cX11_solve 204 = .ok (.istore_n 2, 1) := by decide +kernel
theorem dX11_solve_205 : decode cX11_solve 205 = .ok (.iload_n 2, 1) := by decide +kernel
theorem dX11_solve_206 : decode cX11_solve 206 = .ok (.ifCond .lt 101, 3) := by decide +kernel
theorem dX11_solve_209 : decode cX11_solve 209 = .ok (.iconst 0, 1) := by decide +kernel
theorem dX11_solve_210 : decode cX11_solve 210 = .ok (.istore_n 3, 1) := by decide +kernel
theorem dX11_solve_211 : decode cX11_solve 211 = .ok (.iload_n 3, 1) := by decide +kernel
theorem dX11_solve_212 : decode cX11_solve 212 = .ok (.bipush 32, 2) := by decide +kernel
theorem dX11_solve_214 : decode cX11_solve 214 = .ok (.if_icmp .ge 87, 3) := by decide +kernel
theorem dX11_solve_217 : decode cX11_solve 217 = .ok (.iload_n 3, 1) := by decide +kernel
theorem dX11_solve_218 : decode cX11_solve 218 = .ok (.iconst 2, 1) := by decide +kernel
theorem dX11_solve_219 : decode cX11_solve 219 = .ok (.ishr, 1) := by decide +kernel
theorem dX11_solve_220 : decode cX11_solve 220 = .ok (.iload_n 2, 1) := by decide +kernel
theorem dX11_solve_221 : decode cX11_solve 221 = .ok (.iload_n 3, 1) := by decide +kernel
theorem dX11_solve_222 : decode cX11_solve 222 = .ok (.iconst 3, 1) := by decide +kernel
theorem dX11_solve_223 : decode cX11_solve 223 = .ok (.iand, 1) := by decide +kernel
theorem dX11_solve_224 : decode cX11_solve 224 = .ok (.invokestatic 356, 3) := by decide +kernel
theorem dX11_solve_227 : decode cX11_solve 227 = .ok (.istore 4, 2) := by decide +kernel
theorem dX11_solve_229 : decode cX11_solve 229 = .ok (.aload_n 0, 1) := by decide +kernel
theorem dX11_solve_230 : decode cX11_solve 230 = .ok (.iload_n 3, 1) := by decide +kernel
theorem dX11_solve_231 : decode cX11_solve 231 = .ok (.iconst 2, 1) := by decide +kernel
theorem dX11_solve_232 : decode cX11_solve 232 = .ok (.ishr, 1) := by decide +kernel
theorem dX11_solve_233 : decode cX11_solve 233 = .ok (.iload_n 2, 1) := by decide +kernel
theorem dX11_solve_234 : decode cX11_solve 234 = .ok (.iload_n 3, 1) := by decide +kernel
theorem dX11_solve_235 : decode cX11_solve 235 = .ok (.iconst 3, 1) := by decide +kernel
theorem dX11_solve_236 : decode cX11_solve 236 = .ok (.iand, 1) := by decide +kernel
theorem dX11_solve_237 : decode cX11_solve 237 = .ok (.invokevirtual 386, 3) := by decide +kernel
theorem dX11_solve_240 : decode cX11_solve 240 = .ok (.istore 5, 2) := by decide +kernel
theorem dX11_solve_242 : decode cX11_solve 242 = .ok (.iload_n 1, 1) := by decide +kernel
theorem dX11_solve_243 : decode cX11_solve 243 = .ok (.ifCond .ne 15, 3) := by decide +kernel
theorem dX11_solve_246 : decode cX11_solve 246 = .ok (.iload 5, 2) := by decide +kernel
theorem dX11_solve_248 : decode cX11_solve 248 = .ok (.aload_n 0, 1) := by decide +kernel
theorem dX11_solve_249 : decode cX11_solve 249 = .ok (.getfield 135, 3) := by decide +kernel
theorem dX11_solve_252 : decode cX11_solve 252 = .ok (.iload 4, 2) := by decide +kernel
theorem dX11_solve_254 : decode cX11_solve 254 = .ok (.iaload, 1) := by decide +kernel
theorem dX11_solve_255 : decode cX11_solve 255 = .ok (.if_icmp .ge 7, 3) := by decide +kernel
theorem dX11_solve_258 : decode cX11_solve 258 = .ok (.iconst 1, 1) := by decide +kernel
theorem dX11_solve_259 : decode cX11_solve 259 = .ok (.goto 4, 3) := by decide +kernel
theorem dX11_solve_262 : decode cX11_solve 262 = .ok (.iconst 0, 1) := by decide +kernel
theorem dX11_solve_263 : decode cX11_solve 263 = .ok (.istore_n 1, 1) := by decide +kernel
theorem dX11_solve_264 : decode cX11_solve 264 = .ok (.aload_n 0, 1) := by decide +kernel
theorem dX11_solve_265 : decode cX11_solve 265 = .ok (.getfield 135, 3) := by decide +kernel
theorem dX11_solve_268 : decode cX11_solve 268 = .ok (.iload 4, 2) := by decide +kernel
theorem dX11_solve_270 : decode cX11_solve 270 = .ok (.iload 5, 2) := by decide +kernel
theorem dX11_solve_272 : decode cX11_solve 272 = .ok (.aload_n 0, 1) := by decide +kernel
theorem dX11_solve_273 : decode cX11_solve 273 = .ok (.getfield 135, 3) := by decide +kernel
theorem dX11_solve_276 : decode cX11_solve 276 = .ok (.iload 4, 2) := by decide +kernel
theorem dX11_solve_278 : decode cX11_solve 278 = .ok (.iaload, 1) := by decide +kernel
theorem dX11_solve_279 : decode cX11_solve 279 = .ok (.if_icmp .ge 8, 3) := by decide +kernel
theorem dX11_solve_282 : decode cX11_solve 282 = .ok (.iload 5, 2) := by decide +kernel
theorem dX11_solve_284 : decode cX11_solve 284 = .ok (.goto 10, 3) := by decide +kernel
theorem dX11_solve_287 : decode cX11_solve 287 = .ok (.aload_n 0, 1) := by decide +kernel
theorem dX11_solve_288 : decode cX11_solve 288 = .ok (.getfield 135, 3) := by decide +kernel
theorem dX11_solve_291 : decode cX11_solve 291 = .ok (.iload 4, 2) := by decide +kernel
theorem dX11_solve_293 : decode cX11_solve 293 = .ok (.iaload, 1) := by decide +kernel
theorem dX11_solve_294 : decode cX11_solve 294 = .ok (.iastore, 1) := by decide +kernel
theorem dX11_solve_295 : decode cX11_solve 295 = .ok (.iinc 3 1, 3) := by decide +kernel
theorem dX11_solve_298 : decode cX11_solve 298 = .ok (.goto (-87), 3) := by decide +kernel
theorem dX11_solve_301 : decode cX11_solve 301 = .ok (.iinc 2 (-1), 3) := by decide +kernel
theorem dX11_solve_304 : decode cX11_solve 304 = .ok (.goto (-99), 3) := by decide +kernel
theorem dX11_solve_307 : decode cX11_solve 307 = .ok (.goto (-115), 3) := by decide +kernel
theorem dX11_solve_310 : decode cX11_solve 310 = .ok (.return_, 1) := by decide +kernel
theorem dX11_costOf_0 : decode cX11_costOf 0 = .ok (.iload_n 2, 1) := by decide +kernel
theorem dX11_costOf_1 : decode cX11_costOf 1 = .ok (.iconst (-1), 1) := by decide +kernel
theorem dX11_costOf_2 : decode cX11_costOf 2 = .ok (.if_icmp .ne 32, 3) := by decide +kernel
theorem dX11_costOf_5 : decode cX11_costOf 5 = .ok (.aload_n 0, 1) := by decide +kernel
theorem dX11_costOf_6 : decode cX11_costOf 6 = .ok (.getfield 389, 3) := by decide +kernel
theorem dX11_costOf_9 : decode cX11_costOf 9 = .ok (.ifCond .ne 8, 3) := by decide +kernel
theorem dX11_costOf_12 : decode cX11_costOf 12 = .ok (.ldc 177, 2) := by decide +kernel
theorem dX11_costOf_14 : decode cX11_costOf 14 = .ok (.goto 19, 3) := by decide +kernel
theorem dX11_costOf_17 : decode cX11_costOf 17 = .ok (.aload_n 0, 1) := by decide +kernel
theorem dX11_costOf_18 : decode cX11_costOf 18 = .ok (.getfield 147, 3) := by decide +kernel
theorem dX11_costOf_21 : decode cX11_costOf 21 = .ok (.bipush 8, 2) := by decide +kernel
theorem dX11_costOf_23 : decode cX11_costOf 23 = .ok (.aload_n 0, 1) := by decide +kernel
theorem dX11_costOf_24 : decode cX11_costOf 24 = .ok (.getfield 389, 3) := by decide +kernel
theorem dX11_costOf_27 : decode cX11_costOf 27 = .ok (.iconst 1, 1) := by decide +kernel
theorem dX11_costOf_28 : decode cX11_costOf 28 = .ok (.isub, 1) := by decide +kernel
theorem dX11_costOf_29 : decode cX11_costOf 29 = .ok (.imul, 1) := by decide +kernel
theorem dX11_costOf_30 : decode cX11_costOf 30 = .ok (.iload_n 1, 1) := by decide +kernel
theorem dX11_costOf_31 : decode cX11_costOf 31 = .ok (.iadd, 1) := by decide +kernel
theorem dX11_costOf_32 : decode cX11_costOf 32 = .ok (.iaload, 1) := by decide +kernel
theorem dX11_costOf_33 : decode cX11_costOf 33 = .ok (.ireturn, 1) := by decide +kernel
theorem dX11_costOf_34 : decode cX11_costOf 34 = .ok (.aload_n 0, 1) := by decide +kernel
theorem dX11_costOf_35 : decode cX11_costOf 35 = .ok (.getfield 135, 3) := by decide +kernel
theorem dX11_costOf_38 : decode cX11_costOf 38 = .ok (.iload_n 1, 1) := by decide +kernel
theorem dX11_costOf_39 : decode cX11_costOf 39 = .ok (.iload_n 2, 1) := by decide +kernel
theorem dX11_costOf_40 : decode cX11_costOf 40 = .ok (.iload_n 3, 1) := by decide +kernel
theorem dX11_costOf_41 : decode cX11_costOf 41 = .ok (.invokestatic 356, 3) := by decide +kernel
theorem dX11_costOf_44 : decode cX11_costOf 44 = .ok (.iaload, 1) := by decide +kernel
theorem dX11_costOf_45 : decode cX11_costOf 45 = .ok (.istore 4, 2) := by decide +kernel
theorem dX11_costOf_47 : decode cX11_costOf 47 = .ok (.iconst 0, 1) := by decide +kernel
theorem dX11_costOf_48 : decode cX11_costOf 48 = .ok (.istore 5, 2) := by decide +kernel
theorem dX11_costOf_50 : decode cX11_costOf 50 = .ok (.iload 5, 2) := by decide +kernel
theorem dX11_costOf_52 : decode cX11_costOf 52 = .ok (.bipush 8, 2) := by decide +kernel
theorem dX11_costOf_54 : decode cX11_costOf 54 = .ok (.if_icmp .ge 71, 3) := by decide +kernel
theorem dX11_costOf_57 : decode cX11_costOf 57 = .ok (.aload_n 0, 1) := by decide +kernel
theorem dX11_costOf_58 : decode cX11_costOf 58 = .ok (.getfield 389, 3) := by decide +kernel
theorem dX11_costOf_61 : decode cX11_costOf 61 = .ok (.ifCond .le 64, 3) := by decide +kernel
theorem dX11_costOf_64 : decode cX11_costOf 64 = .ok (.aload_n 0, 1) := by decide +kernel
theorem dX11_costOf_65 : decode cX11_costOf 65 = .ok (.getfield 132, 3) := by decide +kernel
theorem dX11_costOf_68 : decode cX11_costOf 68 = .ok (.bipush 8, 2) := by decide +kernel
theorem dX11_costOf_70 : decode cX11_costOf 70 = .ok (.iload_n 1, 1) := by decide +kernel
theorem dX11_costOf_71 : decode cX11_costOf 71 = .ok (.iload_n 2, 1) := by decide +kernel
theorem dX11_costOf_72 : decode cX11_costOf 72 = .ok (.iload_n 3, 1) := by decide +kernel
theorem dX11_costOf_73 : decode cX11_costOf 73 = .ok (.invokestatic 356, 3) := by decide +kernel
theorem dX11_costOf_76 : decode cX11_costOf 76 = .ok (.imul, 1) := by decide +kernel
theorem dX11_costOf_77 : decode cX11_costOf 77 = .ok (.iload 5, 2) := by decide +kernel
theorem dX11_costOf_79 : decode cX11_costOf 79 = .ok (.iadd, 1) := by decide +kernel
theorem dX11_costOf_80 : decode cX11_costOf 80 = .ok (.iaload, 1) := by decide +kernel
theorem dX11_costOf_81 : decode cX11_costOf 81 = .ok (.aload_n 0, 1) := by decide +kernel
theorem dX11_costOf_82 : decode cX11_costOf 82 = .ok (.getfield 147, 3) := by decide +kernel
theorem dX11_costOf_85 : decode cX11_costOf 85 = .ok (.bipush 8, 2) := by decide +kernel
theorem dX11_costOf_87 : decode cX11_costOf 87 = .ok (.aload_n 0, 1) := by decide +kernel
theorem dX11_costOf_88 : decode cX11_costOf 88 = .ok (.getfield 389, 3) := by decide +kernel
theorem dX11_costOf_91 : decode cX11_costOf 91 = .ok (.iconst 1, 1) := by decide +kernel
theorem dX11_costOf_92 : decode cX11_costOf 92 = .ok (.isub, 1) := by decide +kernel
theorem dX11_costOf_93 : decode cX11_costOf 93 = .ok (.imul, 1) := by decide +kernel
theorem dX11_costOf_94 : decode cX11_costOf 94 = .ok (.iload 5, 2) := by decide +kernel
theorem dX11_costOf_96 : decode cX11_costOf 96 = .ok (.iadd, 1) := by decide +kernel
theorem dX11_costOf_97 : decode cX11_costOf 97 = .ok (.iaload, 1) := by decide +kernel
theorem dX11_costOf_98 : decode cX11_costOf 98 = .ok (.invokestatic 179, 3) := by decide +kernel
theorem dX11_costOf_101 : decode cX11_costOf 101 = .ok (.istore 6, 2) := by decide +kernel
theorem dX11_costOf_103 : decode cX11_costOf 103 = .ok (.iload 6, 2) := by decide +kernel
theorem dX11_costOf_105 : decode cX11_costOf 105 = .ok (.iload 4, 2) := by decide +kernel
theorem dX11_costOf_107 : decode cX11_costOf 107 = .ok (.if_icmp .ge 8, 3) := by decide +kernel
theorem dX11_costOf_110 : decode cX11_costOf 110 = .ok (.iload 6, 2) := by decide +kernel
theorem dX11_costOf_112 : decode cX11_costOf 112 = .ok (.goto 5, 3) := by decide +kernel
theorem dX11_costOf_115 : decode cX11_costOf 115 = .ok (.iload 4, 2) := by decide +kernel
theorem dX11_costOf_117 : decode cX11_costOf 117 = .ok (.istore 4, 2) := by decide +kernel
theorem dX11_costOf_119 : decode cX11_costOf 119 = .ok (.iinc 5 1, 3) := by decide +kernel
theorem dX11_costOf_122 : decode cX11_costOf 122 = .ok (.goto (-72), 3) := by decide +kernel
theorem dX11_costOf_125 : decode cX11_costOf 125 = .ok (.iload 4, 2) := by decide +kernel
theorem dX11_costOf_127 : decode cX11_costOf 127 = .ok (.ireturn, 1) := by decide +kernel
theorem dX11_follow_0 : decode cX11_follow 0 = .ok (.aload_n 0, 1) := by decide +kernel
theorem dX11_follow_1 : decode cX11_follow 1 = .ok (.getfield 72, 3) := by decide +kernel
theorem dX11_follow_4 : decode cX11_follow 4 = .ok (.iconst 0, 1) := by decide +kernel
theorem dX11_follow_5 : decode cX11_follow 5 = .ok (.iaload, 1) := by decide +kernel
theorem dX11_follow_6 : decode cX11_follow 6 = .ok (.istore_n 2, 1) := by decide +kernel
theorem dX11_follow_7 : decode cX11_follow 7 = .ok (.iconst 0, 1) := by decide +kernel
theorem dX11_follow_8 : decode cX11_follow 8 = .ok (.istore_n 3, 1) := by decide +kernel
theorem dX11_follow_9 : decode cX11_follow 9 = .ok (.iconst 0, 1) := by decide +kernel
theorem dX11_follow_10 : decode cX11_follow 10 = .ok (.istore 4, 2) := by decide +kernel
theorem dX11_follow_12 : decode cX11_follow 12 = .ok (.aload_n 0, 1) := by decide +kernel
theorem dX11_follow_13 : decode cX11_follow 13 = .ok (.iconst 0, 1) := by decide +kernel
theorem dX11_follow_14 : decode cX11_follow 14 = .ok (.putfield 389, 3) := by decide +kernel
theorem dX11_follow_17 : decode cX11_follow 17 = .ok (.aload_n 0, 1) := by decide +kernel
theorem dX11_follow_18 : decode cX11_follow 18 = .ok (.iload_n 1, 1) := by decide +kernel
theorem dX11_follow_19 : decode cX11_follow 19 = .ok (.putfield 392, 3) := by decide +kernel
theorem dX11_follow_22 : decode cX11_follow 22 = .ok (.iconst 0, 1) := by decide +kernel
theorem dX11_follow_23 : decode cX11_follow 23 = .ok (.istore 5, 2) := by decide +kernel
theorem dX11_follow_25 : decode cX11_follow 25 = .ok (.iload 5, 2) := by decide +kernel
theorem dX11_follow_27 : decode cX11_follow 27 = .ok (.iload_n 1, 1) := by decide +kernel
theorem dX11_follow_28 : decode cX11_follow 28 = .ok (.if_icmp .ge 338, 3) := by decide +kernel
theorem dX11_follow_31 : decode cX11_follow 31 = .ok (.iload_n 1, 1) := by decide +kernel
theorem dX11_follow_32 : decode cX11_follow 32 = .ok (.iload 5, 2) := by decide +kernel
theorem dX11_follow_34 : decode cX11_follow 34 = .ok (.isub, 1) := by decide +kernel
theorem dX11_follow_35 : decode cX11_follow 35 = .ok (.istore 6, 2) := by decide +kernel
theorem dX11_follow_37 : decode cX11_follow 37 = .ok (.aload_n 0, 1) := by decide +kernel
theorem dX11_follow_38 : decode cX11_follow 38 = .ok (.getfield 138, 3) := by decide +kernel
theorem dX11_follow_41 : decode cX11_follow 41 = .ok (.iconst 5, 1) := by decide +kernel
theorem dX11_follow_42 : decode cX11_follow 42 = .ok (.iload 5, 2) := by decide +kernel
theorem dX11_follow_44 : decode cX11_follow 44 = .ok (.imul, 1) := by decide +kernel
theorem dX11_follow_45 : decode cX11_follow 45 = .ok (.iload_n 2, 1) := by decide +kernel
theorem dX11_follow_46 : decode cX11_follow 46 = .ok (.iastore, 1) := by decide +kernel
theorem dX11_follow_47 : decode cX11_follow 47 = .ok (.aload_n 0, 1) := by decide +kernel
theorem dX11_follow_48 : decode cX11_follow 48 = .ok (.getfield 138, 3) := by decide +kernel
theorem dX11_follow_51 : decode cX11_follow 51 = .ok (.iconst 5, 1) := by decide +kernel
theorem dX11_follow_52 : decode cX11_follow 52 = .ok (.iload 5, 2) := by decide +kernel
theorem dX11_follow_54 : decode cX11_follow 54 = .ok (.imul, 1) := by decide +kernel
theorem dX11_follow_55 : decode cX11_follow 55 = .ok (.iconst 1, 1) := by decide +kernel
theorem dX11_follow_56 : decode cX11_follow 56 = .ok (.iadd, 1) := by decide +kernel
theorem dX11_follow_57 : decode cX11_follow 57 = .ok (.aload_n 0, 1) := by decide +kernel
theorem dX11_follow_58 : decode cX11_follow 58 = .ok (.getfield 389, 3) := by decide +kernel
theorem dX11_follow_61 : decode cX11_follow 61 = .ok (.iconst 1, 1) := by decide +kernel
theorem dX11_follow_62 : decode cX11_follow 62 = .ok (.iadd, 1) := by decide +kernel
theorem dX11_follow_63 : decode cX11_follow 63 = .ok (.iastore, 1) := by decide +kernel
theorem dX11_follow_64 : decode cX11_follow 64 = .ok (.aload_n 0, 1) := by decide +kernel
theorem dX11_follow_65 : decode cX11_follow 65 = .ok (.getfield 138, 3) := by decide +kernel
theorem dX11_follow_68 : decode cX11_follow 68 = .ok (.iconst 5, 1) := by decide +kernel
theorem dX11_follow_69 : decode cX11_follow 69 = .ok (.iload 5, 2) := by decide +kernel
theorem dX11_follow_71 : decode cX11_follow 71 = .ok (.imul, 1) := by decide +kernel
theorem dX11_follow_72 : decode cX11_follow 72 = .ok (.iconst 2, 1) := by decide +kernel
theorem dX11_follow_73 : decode cX11_follow 73 = .ok (.iadd, 1) := by decide +kernel
theorem dX11_follow_74 : decode cX11_follow 74 = .ok (.iload_n 3, 1) := by decide +kernel
theorem dX11_follow_75 : decode cX11_follow 75 = .ok (.iastore, 1) := by decide +kernel
theorem dX11_follow_76 : decode cX11_follow 76 = .ok (.aload_n 0, 1) := by decide +kernel
theorem dX11_follow_77 : decode cX11_follow 77 = .ok (.getfield 138, 3) := by decide +kernel
theorem dX11_follow_80 : decode cX11_follow 80 = .ok (.iconst 5, 1) := by decide +kernel
theorem dX11_follow_81 : decode cX11_follow 81 = .ok (.iload 5, 2) := by decide +kernel
theorem dX11_follow_83 : decode cX11_follow 83 = .ok (.imul, 1) := by decide +kernel
theorem dX11_follow_84 : decode cX11_follow 84 = .ok (.iconst 3, 1) := by decide +kernel
theorem dX11_follow_85 : decode cX11_follow 85 = .ok (.iadd, 1) := by decide +kernel
theorem dX11_follow_86 : decode cX11_follow 86 = .ok (.iload 4, 2) := by decide +kernel
theorem dX11_follow_88 : decode cX11_follow 88 = .ok (.iastore, 1) := by decide +kernel
theorem dX11_follow_89 : decode cX11_follow 89 = .ok (.aload_n 0, 1) := by decide +kernel
theorem dX11_follow_90 : decode cX11_follow 90 = .ok (.getfield 138, 3) := by decide +kernel
theorem dX11_follow_93 : decode cX11_follow 93 = .ok (.iconst 5, 1) := by decide +kernel
theorem dX11_follow_94 : decode cX11_follow 94 = .ok (.iload 5, 2) := by decide +kernel
theorem dX11_follow_96 : decode cX11_follow 96 = .ok (.imul, 1) := by decide +kernel
theorem dX11_follow_97 : decode cX11_follow 97 = .ok (.iconst 4, 1) := by decide +kernel
theorem dX11_follow_98 : decode cX11_follow 98 = .ok (.iadd, 1) := by decide +kernel
theorem dX11_follow_99 : decode cX11_follow 99 = .ok (.iconst (-1), 1) := by decide +kernel
theorem dX11_follow_100 : decode cX11_follow 100 = .ok (.iastore, 1) := by decide +kernel
theorem dX11_follow_101 : decode cX11_follow 101 = .ok (.aload_n 0, 1) := by decide +kernel
theorem dX11_follow_102 : decode cX11_follow 102 = .ok (.iload_n 3, 1) := by decide +kernel
theorem dX11_follow_103 : decode cX11_follow 103 = .ok (.putfield 360, 3) := by decide +kernel
theorem dX11_follow_106 : decode cX11_follow 106 = .ok (.aload_n 0, 1) := by decide +kernel
theorem dX11_follow_107 : decode cX11_follow 107 = .ok (.iload 4, 2) := by decide +kernel
theorem dX11_follow_109 : decode cX11_follow 109 = .ok (.putfield 363, 3) := by decide +kernel
theorem dX11_follow_112 : decode cX11_follow 112 = .ok (.aload_n 0, 1) := by decide +kernel
theorem dX11_follow_113 : decode cX11_follow 113 = .ok (.aload_n 0, 1) := by decide +kernel
theorem dX11_follow_114 : decode cX11_follow 114 = .ok (.getfield 90, 3) := by decide +kernel
theorem dX11_follow_117 : decode cX11_follow 117 = .ok (.iload_n 2, 1) := by decide +kernel
theorem dX11_follow_118 : decode cX11_follow 118 = .ok (.iaload, 1) := by decide +kernel
theorem dX11_follow_119 : decode cX11_follow 119 = .ok (.putfield 366, 3) := by decide +kernel
theorem dX11_follow_122 : decode cX11_follow 122 = .ok (.aload_n 0, 1) := by decide +kernel
theorem dX11_follow_123 : decode cX11_follow 123 = .ok (.getfield 75, 3) := by decide +kernel
theorem dX11_follow_126 : decode cX11_follow 126 = .ok (.iload_n 2, 1) := by decide +kernel
theorem dX11_follow_127 : decode cX11_follow 127 = .ok (.iaload, 1) := by decide +kernel
theorem dX11_follow_128 : decode cX11_follow 128 = .ok (.iconst 3, 1) := by decide +kernel
theorem dX11_follow_129 : decode cX11_follow 129 = .ok (.if_icmp .ne 107, 3) := by decide +kernel
theorem dX11_follow_132 : decode cX11_follow 132 = .ok (.iconst 0, 1) := by decide +kernel
theorem dX11_follow_133 : decode cX11_follow 133 = .ok (.istore 7, 2) := by decide +kernel
theorem dX11_follow_135 : decode cX11_follow 135 = .ok (.iload 7, 2) := by decide +kernel
theorem dX11_follow_137 : decode cX11_follow 137 = .ok (.bipush 8, 2) := by decide +kernel
theorem dX11_follow_139 : decode cX11_follow 139 = .ok (.if_icmp .ge 38, 3) := by decide +kernel
theorem dX11_follow_142 : decode cX11_follow 142 = .ok (.aload_n 0, 1) := by decide +kernel
theorem dX11_follow_143 : decode cX11_follow 143 = .ok (.getfield 147, 3) := by decide +kernel
theorem dX11_follow_146 : decode cX11_follow 146 = .ok (.bipush 8, 2) := by decide +kernel
theorem dX11_follow_148 : decode cX11_follow 148 = .ok (.aload_n 0, 1) := by decide +kernel
theorem dX11_follow_149 : decode cX11_follow 149 = .ok (.getfield 389, 3) := by decide +kernel
theorem dX11_follow_152 : decode cX11_follow 152 = .ok (.imul, 1) := by decide +kernel
theorem dX11_follow_153 : decode cX11_follow 153 = .ok (.iload 7, 2) := by decide +kernel
theorem dX11_follow_155 : decode cX11_follow 155 = .ok (.iadd, 1) := by decide +kernel
theorem dX11_follow_156 : decode cX11_follow 156 = .ok (.aload_n 0, 1) := by decide +kernel
theorem dX11_follow_157 : decode cX11_follow 157 = .ok (.iload 7, 2) := by decide +kernel
theorem dX11_follow_159 : decode cX11_follow 159 = .ok (.aload_n 0, 1) := by decide +kernel
theorem dX11_follow_160 : decode cX11_follow 160 = .ok (.getfield 90, 3) := by decide +kernel
theorem dX11_follow_163 : decode cX11_follow 163 = .ok (.iload_n 2, 1) := by decide +kernel
theorem dX11_follow_164 : decode cX11_follow 164 = .ok (.iaload, 1) := by decide +kernel
theorem dX11_follow_165 : decode cX11_follow 165 = .ok (.iload 4, 2) := by decide +kernel
theorem dX11_follow_167 : decode cX11_follow 167 = .ok (.invokevirtual 395, 3) := by decide +kernel
theorem dX11_follow_170 : decode cX11_follow 170 = .ok (.iastore, 1) := by decide +kernel
theorem dX11_follow_171 : decode cX11_follow 171 = .ok (.iinc 7 1, 3) := by decide +kernel
theorem dX11_follow_174 : decode cX11_follow 174 = .ok (.goto (-39), 3) := by decide +kernel
theorem dX11_follow_177 : decode cX11_follow 177 = .ok (.aload_n 0, 1) := by decide +kernel
theorem dX11_follow_178 : decode cX11_follow 178 = .ok (.getfield 141, 3) := by decide +kernel
theorem dX11_follow_181 : decode cX11_follow 181 = .ok (.aload_n 0, 1) := by decide +kernel
theorem dX11_follow_182 : decode cX11_follow 182 = .ok (.getfield 389, 3) := by decide +kernel
theorem dX11_follow_185 : decode cX11_follow 185 = .ok (.aload_n 0, 1) := by decide +kernel
theorem dX11_follow_186 : decode cX11_follow 186 = .ok (.getfield 90, 3) := by decide +kernel
theorem dX11_follow_189 : decode cX11_follow 189 = .ok (.iload_n 2, 1) := by decide +kernel
theorem dX11_follow_190 : decode cX11_follow 190 = .ok (.iaload, 1) := by decide +kernel
theorem dX11_follow_191 : decode cX11_follow 191 = .ok (.iastore, 1) := by decide +kernel
theorem dX11_follow_192 : decode cX11_follow 192 = .ok (.aload_n 0, 1) := by decide +kernel
theorem dX11_follow_193 : decode cX11_follow 193 = .ok (.getfield 144, 3) := by decide +kernel
theorem dX11_follow_196 : decode cX11_follow 196 = .ok (.aload_n 0, 1) := by decide +kernel
theorem dX11_follow_197 : decode cX11_follow 197 = .ok (.getfield 389, 3) := by decide +kernel
theorem dX11_follow_200 : decode cX11_follow 200 = .ok (.iload 4, 2) := by decide +kernel
theorem dX11_follow_202 : decode cX11_follow 202 = .ok (.iastore, 1) := by decide +kernel
theorem dX11_follow_203 : decode cX11_follow 203 = .ok (.aload_n 0, 1) := by decide +kernel
theorem dX11_follow_204 : decode cX11_follow 204 = .ok (.dup, 1) := by decide +kernel
theorem dX11_follow_205 : decode cX11_follow 205 = .ok (.getfield 389, 3) := by decide +kernel
theorem dX11_follow_208 : decode cX11_follow 208 = .ok (.iconst 1, 1) := by decide +kernel
theorem dX11_follow_209 : decode cX11_follow 209 = .ok (.iadd, 1) := by decide +kernel
theorem dX11_follow_210 : decode cX11_follow 210 = .ok (.putfield 389, 3) := by decide +kernel
theorem dX11_follow_213 : decode cX11_follow 213 = .ok (.aload_n 0, 1) := by decide +kernel
theorem dX11_follow_214 : decode cX11_follow 214 = .ok (.aload_n 0, 1) := by decide +kernel
theorem dX11_follow_215 : decode cX11_follow 215 = .ok (.getfield 72, 3) := by decide +kernel
theorem dX11_follow_218 : decode cX11_follow 218 = .ok (.aload_n 0, 1) := by decide +kernel
theorem dX11_follow_219 : decode cX11_follow 219 = .ok (.getfield 84, 3) := by decide +kernel
theorem dX11_follow_222 : decode cX11_follow 222 = .ok (.iload_n 2, 1) := by decide +kernel
theorem dX11_follow_223 : decode cX11_follow 223 = .ok (.iaload, 1) := by decide +kernel
theorem dX11_follow_224 : decode cX11_follow 224 = .ok (.iaload, 1) := by decide +kernel
theorem dX11_follow_225 : decode cX11_follow 225 = .ok (.putfield 366, 3) := by decide +kernel
theorem dX11_follow_228 : decode cX11_follow 228 = .ok (.aload_n 0, 1) := by decide +kernel
theorem dX11_follow_229 : decode cX11_follow 229 = .ok (.iconst 0, 1) := by decide +kernel
theorem dX11_follow_230 : decode cX11_follow 230 = .ok (.putfield 363, 3) := by decide +kernel
theorem dX11_follow_233 : decode cX11_follow 233 = .ok (.goto 65, 3) := by decide +kernel
theorem dX11_follow_236 : decode cX11_follow 236 = .ok (.aload_n 0, 1) := by decide +kernel
theorem dX11_follow_237 : decode cX11_follow 237 = .ok (.getfield 75, 3) := by decide +kernel
theorem dX11_follow_240 : decode cX11_follow 240 = .ok (.iload_n 2, 1) := by decide +kernel
theorem dX11_follow_241 : decode cX11_follow 241 = .ok (.iaload, 1) := by decide +kernel
theorem dX11_follow_242 : decode cX11_follow 242 = .ok (.bipush 6, 2) := by decide +kernel
theorem dX11_follow_244 : decode cX11_follow 244 = .ok (.if_icmp .ne 11, 3) := by decide +kernel
theorem dX11_follow_247 : decode cX11_follow 247 = .ok (.aload_n 0, 1) := by decide +kernel
theorem dX11_follow_248 : decode cX11_follow 248 = .ok (.iconst (-1), 1) := by decide +kernel
theorem dX11_follow_249 : decode cX11_follow 249 = .ok (.putfield 366, 3) := by decide +kernel
theorem dX11_follow_252 : decode cX11_follow 252 = .ok (.goto 46, 3) := by decide +kernel
theorem dX11_follow_255 : decode cX11_follow 255 = .ok (.aload_n 0, 1) := by decide +kernel
theorem dX11_follow_256 : decode cX11_follow 256 = .ok (.iload_n 2, 1) := by decide +kernel
theorem dX11_follow_257 : decode cX11_follow 257 = .ok (.invokevirtual 398, 3) := by decide +kernel
theorem dX11_follow_260 : decode cX11_follow 260 = .ok (.ifCond .eq 38, 3) := by decide +kernel
theorem dX11_follow_263 : decode cX11_follow 263 = .ok (.aload_n 0, 1) := by decide +kernel
theorem dX11_follow_264 : decode cX11_follow 264 = .ok (.iload_n 2, 1) := by decide +kernel
theorem dX11_follow_265 : decode cX11_follow 265 = .ok (.iload_n 3, 1) := by decide +kernel
theorem dX11_follow_266 : decode cX11_follow 266 = .ok (.iload 4, 2) := by decide +kernel
theorem dX11_follow_268 : decode cX11_follow 268 = .ok (.iload 6, 2) := by decide +kernel
theorem dX11_follow_270 : decode cX11_follow 270 = .ok (.invokevirtual 401, 3) := by decide +kernel
theorem dX11_follow_273 : decode cX11_follow 273 = .ok (.istore 7, 2) := by decide +kernel
theorem dX11_follow_275 : decode cX11_follow 275 = .ok (.aload_n 0, 1) := by decide +kernel
theorem dX11_follow_276 : decode cX11_follow 276 = .ok (.getfield 138, 3) := by decide +kernel
theorem dX11_follow_279 : decode cX11_follow 279 = .ok (.iconst 5, 1) := by decide +kernel
theorem dX11_follow_280 : decode cX11_follow 280 = .ok (.iload 5, 2) := by decide +kernel
theorem dX11_follow_282 : decode cX11_follow 282 = .ok (.imul, 1) := by decide +kernel
theorem dX11_follow_283 : decode cX11_follow 283 = .ok (.iconst 4, 1) := by decide +kernel
theorem dX11_follow_284 : decode cX11_follow 284 = .ok (.iadd, 1) := by decide +kernel
theorem dX11_follow_285 : decode cX11_follow 285 = .ok (.iload 7, 2) := by decide +kernel
theorem dX11_follow_287 : decode cX11_follow 287 = .ok (.iastore, 1) := by decide +kernel
theorem dX11_follow_288 : decode cX11_follow 288 = .ok (.aload_n 0, 1) := by decide +kernel
theorem dX11_follow_289 : decode cX11_follow 289 = .ok (.iload_n 2, 1) := by decide +kernel
theorem dX11_follow_290 : decode cX11_follow 290 = .ok (.iload_n 3, 1) := by decide +kernel
theorem dX11_follow_291 : decode cX11_follow 291 = .ok (.iload 4, 2) := by decide +kernel
theorem dX11_follow_293 : decode cX11_follow 293 = .ok (.iload 7, 2) := by decide +kernel
theorem dX11_follow_295 : decode cX11_follow 295 = .ok (.invokevirtual 376, 3) := by decide +kernel
theorem dX11_follow_298 : decode cX11_follow 298 = .ok (.aload_n 0, 1) := by decide +kernel
theorem dX11_follow_299 : decode cX11_follow 299 = .ok (.getfield 366, 3) := by decide +kernel
theorem dX11_follow_302 : decode cX11_follow 302 = .ok (.istore_n 2, 1) := by decide +kernel
theorem dX11_follow_303 : decode cX11_follow 303 = .ok (.aload_n 0, 1) := by decide +kernel
theorem dX11_follow_304 : decode cX11_follow 304 = .ok (.getfield 360, 3) := by decide +kernel
theorem dX11_follow_307 : decode cX11_follow 307 = .ok (.istore_n 3, 1) := by decide +kernel
theorem dX11_follow_308 : decode cX11_follow 308 = .ok (.aload_n 0, 1) := by decide +kernel
theorem dX11_follow_309 : decode cX11_follow 309 = .ok (.getfield 363, 3) := by decide +kernel
theorem dX11_follow_312 : decode cX11_follow 312 = .ok (.istore 4, 2) := by decide +kernel
theorem dX11_follow_314 : decode cX11_follow 314 = .ok (.iload_n 2, 1) := by decide +kernel
theorem dX11_follow_315 : decode cX11_follow 315 = .ok (.iconst (-1), 1) := by decide +kernel
theorem dX11_follow_316 : decode cX11_follow 316 = .ok (.if_icmp .ne 44, 3) := by decide +kernel
theorem dX11_follow_319 : decode cX11_follow 319 = .ok (.aload_n 0, 1) := by decide +kernel
theorem dX11_follow_320 : decode cX11_follow 320 = .ok (.getfield 389, 3) := by decide +kernel
theorem dX11_follow_323 : decode cX11_follow 323 = .ok (.ifCond .le 37, 3) := by decide +kernel
theorem dX11_follow_326 : decode cX11_follow 326 = .ok (.aload_n 0, 1) := by decide +kernel
theorem dX11_follow_327 : decode cX11_follow 327 = .ok (.dup, 1) := by decide +kernel
theorem dX11_follow_328 : decode cX11_follow 328 = .ok (.getfield 389, 3) := by decide +kernel
theorem dX11_follow_331 : decode cX11_follow 331 = .ok (.iconst 1, 1) := by decide +kernel
theorem dX11_follow_332 : decode cX11_follow 332 = .ok (.isub, 1) := by decide +kernel
theorem dX11_follow_333 : decode cX11_follow 333 = .ok (.putfield 389, 3) := by decide +kernel
theorem dX11_follow_336 : decode cX11_follow 336 = .ok (.aload_n 0, 1) := by decide +kernel
theorem dX11_follow_337 : decode cX11_follow 337 = .ok (.getfield 141, 3) := by decide +kernel
theorem dX11_follow_340 : decode cX11_follow 340 = .ok (.aload_n 0, 1) := by decide +kernel
theorem dX11_follow_341 : decode cX11_follow 341 = .ok (.getfield 389, 3) := by decide +kernel
theorem dX11_follow_344 : decode cX11_follow 344 = .ok (.iaload, 1) := by decide +kernel
theorem dX11_follow_345 : decode cX11_follow 345 = .ok (.istore_n 2, 1) := by decide +kernel
theorem dX11_follow_346 : decode cX11_follow 346 = .ok (.aload_n 0, 1) := by decide +kernel
theorem dX11_follow_347 : decode cX11_follow 347 = .ok (.getfield 144, 3) := by decide +kernel
theorem dX11_follow_350 : decode cX11_follow 350 = .ok (.aload_n 0, 1) := by decide +kernel
theorem dX11_follow_351 : decode cX11_follow 351 = .ok (.getfield 389, 3) := by decide +kernel
theorem dX11_follow_354 : decode cX11_follow 354 = .ok (.iaload, 1) := by decide +kernel
theorem dX11_follow_355 : decode cX11_follow 355 = .ok (.istore 4, 2) := by decide +kernel
theorem dX11_follow_357 : decode cX11_follow 357 = .ok (.goto (-43), 3) := by decide +kernel
theorem dX11_follow_360 : decode cX11_follow 360 = .ok (.iinc 5 1, 3) := by decide +kernel
theorem dX11_follow_363 : decode cX11_follow 363 = .ok (.goto (-338), 3) := by decide +kernel
theorem dX11_follow_366 : decode cX11_follow 366 = .ok (.return_, 1) := by decide +kernel
theorem dX11_takes_0 : decode cX11_takes 0 = .ok (.aload_n 0, 1) := by decide +kernel
theorem dX11_takes_1 : decode cX11_takes 1 = .ok (.iload_n 1, 1) := by decide +kernel
theorem dX11_takes_2 : decode cX11_takes 2 = .ok (.iload_n 2, 1) := by decide +kernel
theorem dX11_takes_3 : decode cX11_takes 3 = .ok (.iload_n 3, 1) := by decide +kernel
theorem dX11_takes_4 : decode cX11_takes 4 = .ok (.invokevirtual 373, 3) := by decide +kernel
theorem dX11_takes_7 : decode cX11_takes 7 = .ok (.istore 5, 2) := by decide +kernel
theorem dX11_takes_9 : decode cX11_takes 9 = .ok (.iload 5, 2) := by decide +kernel
theorem dX11_takes_11 : decode cX11_takes 11 = .ok (.iconst 1, 1) := by decide +kernel
theorem dX11_takes_12 : decode cX11_takes 12 = .ok (.iand, 1) := by decide +kernel
theorem dX11_takes_13 : decode cX11_takes 13 = .ok (.ifCond .ne 5, 3) := by decide +kernel
theorem dX11_takes_16 : decode cX11_takes 16 = .ok (.iconst 1, 1) := by decide +kernel
theorem dX11_takes_17 : decode cX11_takes 17 = .ok (.ireturn, 1) := by decide +kernel
theorem dX11_takes_18 : decode cX11_takes 18 = .ok (.aload_n 0, 1) := by decide +kernel
theorem dX11_takes_19 : decode cX11_takes 19 = .ok (.getfield 75, 3) := by decide +kernel
theorem dX11_takes_22 : decode cX11_takes 22 = .ok (.iload_n 1, 1) := by decide +kernel
theorem dX11_takes_23 : decode cX11_takes 23 = .ok (.iaload, 1) := by decide +kernel
theorem dX11_takes_24 : decode cX11_takes 24 = .ok (.iconst 4, 1) := by decide +kernel
theorem dX11_takes_25 : decode cX11_takes 25 = .ok (.if_icmp .ne 15, 3) := by decide +kernel
theorem dX11_takes_28 : decode cX11_takes 28 = .ok (.iload 4, 2) := by decide +kernel
theorem dX11_takes_30 : decode cX11_takes 30 = .ok (.iconst 1, 1) := by decide +kernel
theorem dX11_takes_31 : decode cX11_takes 31 = .ok (.if_icmp .ne 7, 3) := by decide +kernel
theorem dX11_takes_34 : decode cX11_takes 34 = .ok (.iconst 0, 1) := by decide +kernel
theorem dX11_takes_35 : decode cX11_takes 35 = .ok (.goto 4, 3) := by decide +kernel
theorem dX11_takes_38 : decode cX11_takes 38 = .ok (.iconst 1, 1) := by decide +kernel
theorem dX11_takes_39 : decode cX11_takes 39 = .ok (.ireturn, 1) := by decide +kernel
theorem dX11_takes_40 : decode cX11_takes 40 = .ok (.aload_n 0, 1) := by decide +kernel
theorem dX11_takes_41 : decode cX11_takes 41 = .ok (.getfield 75, 3) := by decide +kernel
theorem dX11_takes_44 : decode cX11_takes 44 = .ok (.iload_n 1, 1) := by decide +kernel
theorem dX11_takes_45 : decode cX11_takes 45 = .ok (.iaload, 1) := by decide +kernel
theorem dX11_takes_46 : decode cX11_takes 46 = .ok (.iconst 5, 1) := by decide +kernel
theorem dX11_takes_47 : decode cX11_takes 47 = .ok (.if_icmp .ne 5, 3) := by decide +kernel
theorem dX11_takes_50 : decode cX11_takes 50 = .ok (.iconst 1, 1) := by decide +kernel
theorem dX11_takes_51 : decode cX11_takes 51 = .ok (.ireturn, 1) := by decide +kernel
theorem dX11_takes_52 : decode cX11_takes 52 = .ok (.aload_n 0, 1) := by decide +kernel
theorem dX11_takes_53 : decode cX11_takes 53 = .ok (.iload_n 1, 1) := by decide +kernel
theorem dX11_takes_54 : decode cX11_takes 54 = .ok (.iload_n 2, 1) := by decide +kernel
theorem dX11_takes_55 : decode cX11_takes 55 = .ok (.iload_n 3, 1) := by decide +kernel
theorem dX11_takes_56 : decode cX11_takes 56 = .ok (.iconst 0, 1) := by decide +kernel
theorem dX11_takes_57 : decode cX11_takes 57 = .ok (.invokevirtual 376, 3) := by decide +kernel
theorem dX11_takes_60 : decode cX11_takes 60 = .ok (.aload_n 0, 1) := by decide +kernel
theorem dX11_takes_61 : decode cX11_takes 61 = .ok (.aload_n 0, 1) := by decide +kernel
theorem dX11_takes_62 : decode cX11_takes 62 = .ok (.getfield 360, 3) := by decide +kernel
theorem dX11_takes_65 : decode cX11_takes 65 = .ok (.aload_n 0, 1) := by decide +kernel
theorem dX11_takes_66 : decode cX11_takes 66 = .ok (.getfield 366, 3) := by decide +kernel
theorem dX11_takes_69 : decode cX11_takes 69 = .ok (.aload_n 0, 1) := by decide +kernel
theorem dX11_takes_70 : decode cX11_takes 70 = .ok (.getfield 363, 3) := by decide +kernel
theorem dX11_takes_73 : decode cX11_takes 73 = .ok (.invokevirtual 395, 3) := by decide +kernel
theorem dX11_takes_76 : decode cX11_takes 76 = .ok (.iload 4, 2) := by decide +kernel
theorem dX11_takes_78 : decode cX11_takes 78 = .ok (.iconst 1, 1) := by decide +kernel
theorem dX11_takes_79 : decode cX11_takes 79 = .ok (.isub, 1) := by decide +kernel
theorem dX11_takes_80 : decode cX11_takes 80 = .ok (.if_icmp .ne 7, 3) := by decide +kernel
theorem dX11_takes_83 : decode cX11_takes 83 = .ok (.iconst 0, 1) := by decide +kernel
theorem dX11_takes_84 : decode cX11_takes 84 = .ok (.goto 4, 3) := by decide +kernel
theorem dX11_takes_87 : decode cX11_takes 87 = .ok (.iconst 1, 1) := by decide +kernel
theorem dX11_takes_88 : decode cX11_takes 88 = .ok (.ireturn, 1) := by decide +kernel
theorem dX11_check_0 : decode cX11_check 0 = .ok (.aload_n 0, 1) := by decide +kernel
theorem dX11_check_1 : decode cX11_check 1 = .ok (.iconst 0, 1) := by decide +kernel
theorem dX11_check_2 : decode cX11_check 2 = .ok (.putfield 150, 3) := by decide +kernel
theorem dX11_check_5 : decode cX11_check 5 = .ok (.aload_n 0, 1) := by decide +kernel
theorem dX11_check_6 : decode cX11_check 6 = .ok (.getfield 353, 3) := by decide +kernel
theorem dX11_check_9 : decode cX11_check 9 = .ok (.ifCond .ne 6, 3) := by decide +kernel
theorem dX11_check_12 : decode cX11_check 12 = .ok (.bipush (-2), 2) := by decide +kernel
theorem dX11_check_14 : decode cX11_check 14 = .ok (.ireturn, 1) := by decide +kernel
theorem dX11_check_15 : decode cX11_check 15 = .ok (.aload_n 0, 1) := by decide +kernel
theorem dX11_check_16 : decode cX11_check 16 = .ok (.invokevirtual 404, 3) := by decide +kernel
theorem dX11_check_19 : decode cX11_check 19 = .ok (.aload_n 0, 1) := by decide +kernel
theorem dX11_check_20 : decode cX11_check 20 = .ok (.getfield 72, 3) := by decide +kernel
theorem dX11_check_23 : decode cX11_check 23 = .ok (.iconst 0, 1) := by decide +kernel
theorem dX11_check_24 : decode cX11_check 24 = .ok (.iaload, 1) := by decide +kernel
theorem dX11_check_25 : decode cX11_check 25 = .ok (.iconst (-1), 1) := by decide +kernel
theorem dX11_check_26 : decode cX11_check 26 = .ok (.if_icmp .ne 8, 3) := by decide +kernel
theorem dX11_check_29 : decode cX11_check 29 = .ok (.ldc 177, 2) := by decide +kernel
theorem dX11_check_31 : decode cX11_check 31 = .ok (.goto 19, 3) := by decide +kernel
theorem dX11_check_34 : decode cX11_check 34 = .ok (.aload_n 0, 1) := by decide +kernel
theorem dX11_check_35 : decode cX11_check 35 = .ok (.getfield 135, 3) := by decide +kernel
theorem dX11_check_38 : decode cX11_check 38 = .ok (.iconst 0, 1) := by decide +kernel
theorem dX11_check_39 : decode cX11_check 39 = .ok (.aload_n 0, 1) := by decide +kernel
theorem dX11_check_40 : decode cX11_check 40 = .ok (.getfield 72, 3) := by decide +kernel
theorem dX11_check_43 : decode cX11_check 43 = .ok (.iconst 0, 1) := by decide +kernel
theorem dX11_check_44 : decode cX11_check 44 = .ok (.iaload, 1) := by decide +kernel
theorem dX11_check_45 : decode cX11_check 45 = .ok (.iconst 0, 1) := by decide +kernel
theorem dX11_check_46 : decode cX11_check 46 = .ok (.invokestatic 356, 3) := by decide +kernel
theorem dX11_check_49 : decode cX11_check 49 = .ok (.iaload, 1) := by decide +kernel
theorem dX11_check_50 : decode cX11_check 50 = .ok (.istore_n 1, 1) := by decide +kernel
theorem dX11_check_51 : decode cX11_check 51 = .ok (.aload_n 0, 1) := by decide +kernel
theorem dX11_check_52 : decode cX11_check 52 = .ok (.iconst 0, 1) := by decide +kernel
theorem dX11_check_53 : decode cX11_check 53 = .ok (.putfield 392, 3) := by decide +kernel
theorem dX11_check_56 : decode cX11_check 56 = .ok (.iload_n 1, 1) := by decide +kernel
theorem dX11_check_57 : decode cX11_check 57 = .ok (.sipush 2000, 3) := by decide +kernel
theorem dX11_check_60 : decode cX11_check 60 = .ok (.if_icmp .gt 8, 3) := by decide +kernel
theorem dX11_check_63 : decode cX11_check 63 = .ok (.aload_n 0, 1) := by decide +kernel
theorem dX11_check_64 : decode cX11_check 64 = .ok (.iload_n 1, 1) := by decide +kernel
theorem dX11_check_65 : decode cX11_check 65 = .ok (.invokevirtual 407, 3) := by decide +kernel
theorem dX11_check_68 : decode cX11_check 68 = .ok (.iload_n 1, 1) := by decide +kernel
theorem dX11_check_69 : decode cX11_check 69 = .ok (.ldc 177, 2) := by decide +kernel
theorem dX11_check_71 : decode cX11_check 71 = .ok (.if_icmp .ne 7, 3) := by decide +kernel
theorem dX11_check_74 : decode cX11_check 74 = .ok (.iconst (-1), 1) := by decide +kernel
theorem dX11_check_75 : decode cX11_check 75 = .ok (.goto 4, 3) := by decide +kernel
theorem dX11_check_78 : decode cX11_check 78 = .ok (.iload_n 1, 1) := by decide +kernel
theorem dX11_check_79 : decode cX11_check 79 = .ok (.ireturn, 1) := by decide +kernel
theorem dX11_trace_0 : decode cX11_trace 0 = .ok (.aload_n 0, 1) := by decide +kernel
theorem dX11_trace_1 : decode cX11_trace 1 = .ok (.iconst 0, 1) := by decide +kernel
theorem dX11_trace_2 : decode cX11_trace 2 = .ok (.putfield 150, 3) := by decide +kernel
theorem dX11_trace_5 : decode cX11_trace 5 = .ok (.iload_n 2, 1) := by decide +kernel
theorem dX11_trace_6 : decode cX11_trace 6 = .ok (.iconst 0, 1) := by decide +kernel
theorem dX11_trace_7 : decode cX11_trace 7 = .ok (.iconst 4, 1) := by decide +kernel
theorem dX11_trace_8 : decode cX11_trace 8 = .ok (.invokestatic 157, 3) := by decide +kernel
theorem dX11_trace_11 : decode cX11_trace 11 = .ok (.ifCond .ne 6, 3) := by decide +kernel
theorem dX11_trace_14 : decode cX11_trace 14 = .ok (.bipush (-2), 2) := by decide +kernel
theorem dX11_trace_16 : decode cX11_trace 16 = .ok (.ireturn, 1) := by decide +kernel
theorem dX11_trace_17 : decode cX11_trace 17 = .ok (.iload_n 1, 1) := by decide +kernel
theorem dX11_trace_18 : decode cX11_trace 18 = .ok (.iconst 0, 1) := by decide +kernel
theorem dX11_trace_19 : decode cX11_trace 19 = .ok (.aload_n 0, 1) := by decide +kernel
theorem dX11_trace_20 : decode cX11_trace 20 = .ok (.getfield 392, 3) := by decide +kernel
theorem dX11_trace_23 : decode cX11_trace 23 = .ok (.iconst 1, 1) := by decide +kernel
theorem dX11_trace_24 : decode cX11_trace 24 = .ok (.isub, 1) := by decide +kernel
theorem dX11_trace_25 : decode cX11_trace 25 = .ok (.invokestatic 157, 3) := by decide +kernel
theorem dX11_trace_28 : decode cX11_trace 28 = .ok (.ifCond .eq 16, 3) := by decide +kernel
theorem dX11_trace_31 : decode cX11_trace 31 = .ok (.aload_n 0, 1) := by decide +kernel
theorem dX11_trace_32 : decode cX11_trace 32 = .ok (.getfield 138, 3) := by decide +kernel
theorem dX11_trace_35 : decode cX11_trace 35 = .ok (.iconst 5, 1) := by decide +kernel
theorem dX11_trace_36 : decode cX11_trace 36 = .ok (.iload_n 1, 1) := by decide +kernel
theorem dX11_trace_37 : decode cX11_trace 37 = .ok (.imul, 1) := by decide +kernel
theorem dX11_trace_38 : decode cX11_trace 38 = .ok (.iload_n 2, 1) := by decide +kernel
theorem dX11_trace_39 : decode cX11_trace 39 = .ok (.iadd, 1) := by decide +kernel
theorem dX11_trace_40 : decode cX11_trace 40 = .ok (.iaload, 1) := by decide +kernel
theorem dX11_trace_41 : decode cX11_trace 41 = .ok (.goto 4, 3) := by decide +kernel
theorem dX11_trace_44 : decode cX11_trace 44 = .ok (.iconst (-1), 1) := by decide +kernel
theorem dX11_trace_45 : decode cX11_trace 45 = .ok (.ireturn, 1) := by decide +kernel
