theorem fi_X5_14 : jfl RX5 14 5 RX5 TX5 13 tyX5 0 2 := ⟨cls5, by decide, jtb_at 286 (by decide +kernel) (by decide +kernel), rfl⟩
theorem fi_X4_9 : jfl RX4 9 4 RX4 TX4 2 tyX4 0 2 := ⟨cls4, by decide, jtb_at 107 (by decide +kernel) (by decide +kernel), rfl⟩
set_option maxRecDepth 100000 in
theorem kc_X4_knows : Cond.code yX4_knows cX4_knows 2 (some .boolean) ∈ jtb := jtb_at 333 (by rfl) (by rfl)
theorem cv_X5_77 : jcwV RX5 77 RX4 yX4_knows cX4_knows 2 (some .boolean) 1 := ⟨jtb_at 330 (by decide +kernel) (by decide +kernel), jtb_at 331 (by decide +kernel) (by decide +kernel), jtb_at 332 (by decide +kernel) (by decide +kernel), jtb_at 78 (by decide +kernel) (by decide +kernel), kc_X4_knows, rfl, ⟨by decide, by decide, by decide +kernel⟩⟩
theorem fi_X4_17 : jfl RX4 17 4 RX4 TX4 2 tyX4 1 2 := ⟨cls4, by decide, jtb_at 109 (by decide +kernel) (by decide +kernel), rfl⟩
set_option maxRecDepth 100000 in
theorem kc_J7_fill_53178 : Cond.code yJ7_fill_53178 cJ7_fill_53178 4 (none) ∈ jtb := jtb_at 106 (by rfl) (by rfl)
theorem cs_X4_20 : jcwS RX4 20 yJ7_fill_53178 cJ7_fill_53178 4 (none) 2 := ⟨jtb_at 104 (by decide +kernel) (by decide +kernel), jtb_at 105 (by decide +kernel) (by decide +kernel), jtb_at 79 (by decide +kernel) (by decide +kernel), kc_J7_fill_53178, ⟨by decide, by decide, by decide +kernel⟩⟩
set_option maxRecDepth 100000 in
theorem kc_X4_begin : Cond.code yX4_begin cX4_begin 4 (none) ∈ jtb := jtb_at 341 (by rfl) (by rfl)
theorem cv_X5_85 : jcwV RX5 85 RX4 yX4_begin cX4_begin 4 (none) 3 := ⟨jtb_at 338 (by decide +kernel) (by decide +kernel), jtb_at 339 (by decide +kernel) (by decide +kernel), jtb_at 340 (by decide +kernel) (by decide +kernel), jtb_at 78 (by decide +kernel) (by decide +kernel), kc_X4_begin, rfl, ⟨by decide, by decide, by decide +kernel⟩⟩
theorem fi_X5_63 : jfl RX5 63 5 RX5 TX5 13 tyX5 9 0 := ⟨cls5, by decide, jtb_at 295 (by decide +kernel) (by decide +kernel), rfl⟩
theorem fp_X5_63 : jfp RX5 63 5 RX5 TX5 13 tyX5 9 0 (.int) := ⟨fi_X5_63, rfl, rfl⟩
theorem fi_X5_59 : jfl RX5 59 5 RX5 TX5 13 tyX5 8 2 := ⟨cls5, by decide, jtb_at 294 (by decide +kernel) (by decide +kernel), rfl⟩
set_option maxRecDepth 100000 in
theorem kc_X5_find : Cond.code yX5_find cX5_find 2 (some .int) ∈ jtb := jtb_at 337 (by rfl) (by rfl)
theorem cv_X5_81 : jcwV RX5 81 RX5 yX5_find cX5_find 2 (some .int) 1 := ⟨jtb_at 334 (by decide +kernel) (by decide +kernel), jtb_at 336 (by decide +kernel) (by decide +kernel), jtb_at 0 (by decide +kernel) (by decide +kernel), jtb_at 77 (by decide +kernel) (by decide +kernel), kc_X5_find, rfl, ⟨by decide, by decide, by decide +kernel⟩⟩
set_option maxRecDepth 100000 in
theorem kc_X4_isThere : Cond.code yX4_isThere cX4_isThere 2 (some .boolean) ∈ jtb := jtb_at 357 (by rfl) (by rfl)
theorem cv_X5_111 : jcwV RX5 111 RX4 yX4_isThere cX4_isThere 2 (some .boolean) 1 := ⟨jtb_at 354 (by decide +kernel) (by decide +kernel), jtb_at 355 (by decide +kernel) (by decide +kernel), jtb_at 356 (by decide +kernel) (by decide +kernel), jtb_at 78 (by decide +kernel) (by decide +kernel), kc_X4_isThere, rfl, ⟨by decide, by decide, by decide +kernel⟩⟩
set_option maxRecDepth 100000 in
theorem kc_X5_refusalOf : Cond.code yX5_refusalOf cX5_refusalOf 3 (some .int) ∈ jtb := jtb_at 353 (by rfl) (by rfl)
theorem cv_X5_104 : jcwV RX5 104 RX5 yX5_refusalOf cX5_refusalOf 3 (some .int) 2 := ⟨jtb_at 350 (by decide +kernel) (by decide +kernel), jtb_at 352 (by decide +kernel) (by decide +kernel), jtb_at 2 (by decide +kernel) (by decide +kernel), jtb_at 77 (by decide +kernel) (by decide +kernel), kc_X5_refusalOf, rfl, ⟨by decide, by decide, by decide +kernel⟩⟩
set_option maxRecDepth 100000 in
theorem kc_X4_reaches : Cond.code yX4_reaches cX4_reaches 4 (some .boolean) ∈ jtb := jtb_at 361 (by rfl) (by rfl)
theorem cv_X5_114 : jcwV RX5 114 RX4 yX4_reaches cX4_reaches 4 (some .boolean) 3 := ⟨jtb_at 358 (by decide +kernel) (by decide +kernel), jtb_at 359 (by decide +kernel) (by decide +kernel), jtb_at 360 (by decide +kernel) (by decide +kernel), jtb_at 78 (by decide +kernel) (by decide +kernel), kc_X4_reaches, rfl, ⟨by decide, by decide, by decide +kernel⟩⟩
set_option maxRecDepth 100000 in
theorem kc_X5_refusalOfPlace : Cond.code yX5_refusalOfPlace cX5_refusalOfPlace 5 (some .int) ∈ jtb := jtb_at 349 (by rfl) (by rfl)
theorem cv_X5_89 : jcwV RX5 89 RX5 yX5_refusalOfPlace cX5_refusalOfPlace 5 (some .int) 3 := ⟨jtb_at 346 (by decide +kernel) (by decide +kernel), jtb_at 348 (by decide +kernel) (by decide +kernel), jtb_at 1 (by decide +kernel) (by decide +kernel), jtb_at 77 (by decide +kernel) (by decide +kernel), kc_X5_refusalOfPlace, rfl, ⟨by decide, by decide, by decide +kernel⟩⟩
set_option maxRecDepth 100000 in
theorem kc_X4_exchange : Cond.code yX4_exchange cX4_exchange 5 (some .int) ∈ jtb := jtb_at 365 (by rfl) (by rfl)
theorem cv_X5_93 : jcwV RX5 93 RX4 yX4_exchange cX4_exchange 5 (some .int) 3 := ⟨jtb_at 362 (by decide +kernel) (by decide +kernel), jtb_at 363 (by decide +kernel) (by decide +kernel), jtb_at 364 (by decide +kernel) (by decide +kernel), jtb_at 78 (by decide +kernel) (by decide +kernel), kc_X4_exchange, rfl, ⟨by decide, by decide, by decide +kernel⟩⟩
theorem fi_X5_67 : jfl RX5 67 5 RX5 TX5 13 tyX5 10 0 := ⟨cls5, by decide, jtb_at 296 (by decide +kernel) (by decide +kernel), rfl⟩
theorem fp_X5_67 : jfp RX5 67 5 RX5 TX5 13 tyX5 10 0 (.int) := ⟨fi_X5_67, rfl, rfl⟩
set_option maxRecDepth 100000 in
theorem kc_X5_tell : Cond.code yX5_tell cX5_tell 2 (some .int) ∈ jtb := jtb_at 369 (by rfl) (by rfl)
theorem cv_X5_97 : jcwV RX5 97 RX5 yX5_tell cX5_tell 2 (some .int) 1 := ⟨jtb_at 366 (by decide +kernel) (by decide +kernel), jtb_at 368 (by decide +kernel) (by decide +kernel), jtb_at 3 (by decide +kernel) (by decide +kernel), jtb_at 77 (by decide +kernel) (by decide +kernel), kc_X5_tell, rfl, ⟨by decide, by decide, by decide +kernel⟩⟩
theorem fi_X5_100 : jfl RX5 100 4 RX4 TX4 2 tyX4 1 2 := ⟨cls4, by decide, jtb_at 110 (by decide +kernel) (by decide +kernel), rfl⟩
theorem fi_X5_108 : jfl RX5 108 4 RX4 TX4 2 tyX4 0 2 := ⟨cls4, by decide, jtb_at 108 (by decide +kernel) (by decide +kernel), rfl⟩
theorem ca_X5_118 : Cond.methodLink RX5 118 arraycopyName ∈ jtb ∧ Cond.native arraycopyName ∈ jtb ∧ Cond.static arraycopyName ∈ jtb ∧ Cond.initialized "java/lang/System" ∈ jtb := ⟨jtb_at 382 (by decide +kernel) (by decide +kernel), jtb_at 207 (by decide +kernel) (by decide +kernel), jtb_at 206 (by decide +kernel) (by decide +kernel), jtb_at 83 (by decide +kernel) (by decide +kernel)⟩
set_option maxRecDepth 100000 in
theorem kc_X4_sum : Cond.code yX4_sum cX4_sum 5 (some .long) ∈ jtb := jtb_at 390 (by rfl) (by rfl)
theorem cv_X5_124 : jcwV RX5 124 RX4 yX4_sum cX4_sum 5 (some .long) 1 := ⟨jtb_at 387 (by decide +kernel) (by decide +kernel), jtb_at 388 (by decide +kernel) (by decide +kernel), jtb_at 389 (by decide +kernel) (by decide +kernel), jtb_at 78 (by decide +kernel) (by decide +kernel), kc_X4_sum, rfl, ⟨by decide, by decide, by decide +kernel⟩⟩
theorem fi_X5_18 : jfl RX5 18 5 RX5 TX5 13 tyX5 1 2 := ⟨cls5, by decide, jtb_at 287 (by decide +kernel) (by decide +kernel), rfl⟩
theorem fi_X5_24 : jfl RX5 24 5 RX5 TX5 13 tyX5 2 2 := ⟨cls5, by decide, jtb_at 288 (by decide +kernel) (by decide +kernel), rfl⟩
theorem fi_X3_18 : jfl RX3 18 3 RX3 TX3 4 tyX3 1 3 := ⟨cls3, by decide, jtb_at 183 (by decide +kernel) (by decide +kernel), rfl⟩
theorem fp_X3_18 : jfp RX3 18 3 RX3 TX3 4 tyX3 1 3 (.array .int) := ⟨fi_X3_18, rfl, rfl⟩
set_option maxRecDepth 100000 in
theorem cm_X3_29 : Cond.methodLink RX3 29 Lib.Math.min.name ∈ jtb ∧ Cond.static Lib.Math.min.name ∈ jtb ∧ Cond.initialized "java/lang/Math" ∈ jtb ∧ Cond.code Lib.Math.min.name Lib.Math.min.code 2 (some .int) ∈ jtb := ⟨jtb_at 407 (by decide +kernel) (by decide +kernel), jtb_at 408 (by decide +kernel) (by decide +kernel), jtb_at 86 (by decide +kernel) (by decide +kernel), jtb_at 409 (by decide +kernel) (by decide +kernel)⟩
theorem fi_X3_22 : jfl RX3 22 3 RX3 TX3 4 tyX3 2 0 := ⟨cls3, by decide, jtb_at 184 (by decide +kernel) (by decide +kernel), rfl⟩
theorem fp_X3_22 : jfp RX3 22 3 RX3 TX3 4 tyX3 2 0 (.int) := ⟨fi_X3_22, rfl, rfl⟩
theorem fi_X3_26 : jfl RX3 26 3 RX3 TX3 4 tyX3 3 0 := ⟨cls3, by decide, jtb_at 185 (by decide +kernel) (by decide +kernel), rfl⟩
theorem fp_X3_26 : jfp RX3 26 3 RX3 TX3 4 tyX3 3 0 (.int) := ⟨fi_X3_26, rfl, rfl⟩
theorem fi_X3_12 : jfl RX3 12 3 RX3 TX3 4 tyX3 0 2 := ⟨cls3, by decide, jtb_at 181 (by decide +kernel) (by decide +kernel), rfl⟩
theorem fi_X2_9 : jfl RX2 9 2 RX2 TX2 11 tyX2 0 0 := ⟨cls2, by decide, jtb_at 129 (by decide +kernel) (by decide +kernel), rfl⟩
theorem fp_X2_9 : jfp RX2 9 2 RX2 TX2 11 tyX2 0 0 (.int) := ⟨fi_X2_9, rfl, rfl⟩
theorem fi_X2_15 : jfl RX2 15 2 RX2 TX2 11 tyX2 1 0 := ⟨cls2, by decide, jtb_at 134 (by decide +kernel) (by decide +kernel), rfl⟩
theorem fp_X2_15 : jfp RX2 15 2 RX2 TX2 11 tyX2 1 0 (.int) := ⟨fi_X2_15, rfl, rfl⟩
set_option maxRecDepth 100000 in
theorem kc_X2_clear : Cond.code yX2_clear cX2_clear 1 (none) ∈ jtb := jtb_at 413 (by rfl) (by rfl)
theorem cv_X3_35 : jcwV RX3 35 RX2 yX2_clear cX2_clear 1 (none) 0 := ⟨jtb_at 410 (by decide +kernel) (by decide +kernel), jtb_at 411 (by decide +kernel) (by decide +kernel), jtb_at 412 (by decide +kernel) (by decide +kernel), jtb_at 81 (by decide +kernel) (by decide +kernel), kc_X2_clear, rfl, ⟨by decide, by decide, by decide +kernel⟩⟩
set_option maxRecDepth 100000 in
theorem kc_X3_skipBlanks : Cond.code yX3_skipBlanks cX3_skipBlanks 1 (none) ∈ jtb := jtb_at 417 (by rfl) (by rfl)
theorem cv_X3_38 : jcwV RX3 38 RX3 yX3_skipBlanks cX3_skipBlanks 1 (none) 0 := ⟨jtb_at 414 (by decide +kernel) (by decide +kernel), jtb_at 416 (by decide +kernel) (by decide +kernel), jtb_at 4 (by decide +kernel) (by decide +kernel), jtb_at 80 (by decide +kernel) (by decide +kernel), kc_X3_skipBlanks, rfl, ⟨by decide, by decide, by decide +kernel⟩⟩
set_option maxRecDepth 100000 in
theorem kc_X3_nextBetween : Cond.code yX3_nextBetween cX3_nextBetween 3 (some .int) ∈ jtb := jtb_at 425 (by rfl) (by rfl)
theorem cv_X3_48 : jcwV RX3 48 RX3 yX3_nextBetween cX3_nextBetween 3 (some .int) 2 := ⟨jtb_at 422 (by decide +kernel) (by decide +kernel), jtb_at 424 (by decide +kernel) (by decide +kernel), jtb_at 6 (by decide +kernel) (by decide +kernel), jtb_at 80 (by decide +kernel) (by decide +kernel), kc_X3_nextBetween, rfl, ⟨by decide, by decide, by decide +kernel⟩⟩
theorem fi_X3_51 : jfl RX3 51 2 RX2 TX2 11 tyX2 1 0 := ⟨cls2, by decide, jtb_at 135 (by decide +kernel) (by decide +kernel), rfl⟩
theorem fi_X3_45 : jfl RX3 45 2 RX2 TX2 11 tyX2 0 0 := ⟨cls2, by decide, jtb_at 130 (by decide +kernel) (by decide +kernel), rfl⟩
set_option maxRecDepth 100000 in
theorem kc_X3_nextAmong : Cond.code yX3_nextAmong cX3_nextAmong 3 (some .int) ∈ jtb := jtb_at 447 (by rfl) (by rfl)
theorem cv_X3_63 : jcwV RX3 63 RX3 yX3_nextAmong cX3_nextAmong 3 (some .int) 1 := ⟨jtb_at 444 (by decide +kernel) (by decide +kernel), jtb_at 446 (by decide +kernel) (by decide +kernel), jtb_at 10 (by decide +kernel) (by decide +kernel), jtb_at 80 (by decide +kernel) (by decide +kernel), kc_X3_nextAmong, rfl, ⟨by decide, by decide, by decide +kernel⟩⟩
set_option maxRecDepth 100000 in
theorem kc_X3_take : Cond.code yX3_take cX3_take 2 (some .int) ∈ jtb := jtb_at 433 (by rfl) (by rfl)
theorem cv_X3_67 : jcwV RX3 67 RX3 yX3_take cX3_take 2 (some .int) 1 := ⟨jtb_at 430 (by decide +kernel) (by decide +kernel), jtb_at 432 (by decide +kernel) (by decide +kernel), jtb_at 8 (by decide +kernel) (by decide +kernel), jtb_at 80 (by decide +kernel) (by decide +kernel), kc_X3_take, rfl, ⟨by decide, by decide, by decide +kernel⟩⟩
set_option maxRecDepth 100000 in
theorem kc_X2_hasDeed : Cond.code yX2_hasDeed cX2_hasDeed 2 (some .boolean) ∈ jtb := jtb_at 453 (by rfl) (by rfl)
theorem cv_X3_74 : jcwV RX3 74 RX2 yX2_hasDeed cX2_hasDeed 2 (some .boolean) 1 := ⟨jtb_at 450 (by decide +kernel) (by decide +kernel), jtb_at 451 (by decide +kernel) (by decide +kernel), jtb_at 452 (by decide +kernel) (by decide +kernel), jtb_at 81 (by decide +kernel) (by decide +kernel), kc_X2_hasDeed, rfl, ⟨by decide, by decide, by decide +kernel⟩⟩
set_option maxRecDepth 100000 in
theorem kc_X5_isIn : Cond.code yX5_isIn cX5_isIn 2 (some .boolean) ∈ jtb := jtb_at 456 (by rfl) (by rfl)
theorem cn_X3_78 : jcwN RX3 78 "HoursByPost" yX5_isIn cX5_isIn 2 (some .boolean) 2 := ⟨by decide +kernel, jtb_at 455 (by decide +kernel) (by decide +kernel), jtb_at 77 (by decide +kernel) (by decide +kernel), kc_X5_isIn, ⟨by decide, by decide, by decide +kernel⟩⟩
theorem fi_X2_18 : jfl RX2 18 2 RX2 TX2 11 tyX2 2 2 := ⟨cls2, by decide, jtb_at 139 (by decide +kernel) (by decide +kernel), rfl⟩
theorem fi_X2_22 : jfl RX2 22 2 RX2 TX2 11 tyX2 3 2 := ⟨cls2, by decide, jtb_at 141 (by decide +kernel) (by decide +kernel), rfl⟩
theorem fi_X2_25 : jfl RX2 25 2 RX2 TX2 11 tyX2 4 2 := ⟨cls2, by decide, jtb_at 143 (by decide +kernel) (by decide +kernel), rfl⟩
theorem fi_X2_28 : jfl RX2 28 2 RX2 TX2 11 tyX2 5 2 := ⟨cls2, by decide, jtb_at 145 (by decide +kernel) (by decide +kernel), rfl⟩
theorem cn_X2_65 : jcwN RX2 65 "HoursByPost" yX5_isIn cX5_isIn 2 (some .boolean) 2 := ⟨by decide +kernel, jtb_at 455 (by decide +kernel) (by decide +kernel), jtb_at 77 (by decide +kernel) (by decide +kernel), kc_X5_isIn, ⟨by decide, by decide, by decide +kernel⟩⟩
set_option maxRecDepth 100000 in
theorem kc_X2_addDeed : Cond.code yX2_addDeed cX2_addDeed 6 (none) ∈ jtb := jtb_at 460 (by rfl) (by rfl)
theorem cv_X3_82 : jcwV RX3 82 RX2 yX2_addDeed cX2_addDeed 6 (none) 3 := ⟨jtb_at 457 (by decide +kernel) (by decide +kernel), jtb_at 458 (by decide +kernel) (by decide +kernel), jtb_at 459 (by decide +kernel) (by decide +kernel), jtb_at 81 (by decide +kernel) (by decide +kernel), kc_X2_addDeed, rfl, ⟨by decide, by decide, by decide +kernel⟩⟩
set_option maxRecDepth 100000 in
theorem kc_X3_readDeed : Cond.code yX3_readDeed cX3_readDeed 7 (some .boolean) ∈ jtb := jtb_at 441 (by rfl) (by rfl)
theorem cv_X3_57 : jcwV RX3 57 RX3 yX3_readDeed cX3_readDeed 7 (some .boolean) 0 := ⟨jtb_at 438 (by decide +kernel) (by decide +kernel), jtb_at 440 (by decide +kernel) (by decide +kernel), jtb_at 9 (by decide +kernel) (by decide +kernel), jtb_at 80 (by decide +kernel) (by decide +kernel), kc_X3_readDeed, rfl, ⟨by decide, by decide, by decide +kernel⟩⟩
theorem fi_X2_31 : jfl RX2 31 2 RX2 TX2 11 tyX2 6 2 := ⟨cls2, by decide, jtb_at 147 (by decide +kernel) (by decide +kernel), rfl⟩
theorem fi_X2_34 : jfl RX2 34 2 RX2 TX2 11 tyX2 7 2 := ⟨cls2, by decide, jtb_at 149 (by decide +kernel) (by decide +kernel), rfl⟩
theorem fi_X2_37 : jfl RX2 37 2 RX2 TX2 11 tyX2 8 2 := ⟨cls2, by decide, jtb_at 151 (by decide +kernel) (by decide +kernel), rfl⟩
set_option maxRecDepth 100000 in
theorem kc_X2_addHour : Cond.code yX2_addHour cX2_addHour 4 (none) ∈ jtb := jtb_at 437 (by rfl) (by rfl)
theorem cv_X3_86 : jcwV RX3 86 RX2 yX2_addHour cX2_addHour 4 (none) 3 := ⟨jtb_at 434 (by decide +kernel) (by decide +kernel), jtb_at 435 (by decide +kernel) (by decide +kernel), jtb_at 436 (by decide +kernel) (by decide +kernel), jtb_at 81 (by decide +kernel) (by decide +kernel), kc_X2_addHour, rfl, ⟨by decide, by decide, by decide +kernel⟩⟩
set_option maxRecDepth 100000 in
theorem kc_X3_readHour : Cond.code yX3_readHour cX3_readHour 4 (some .boolean) ∈ jtb := jtb_at 429 (by rfl) (by rfl)
theorem cv_X3_54 : jcwV RX3 54 RX3 yX3_readHour cX3_readHour 4 (some .boolean) 0 := ⟨jtb_at 426 (by decide +kernel) (by decide +kernel), jtb_at 428 (by decide +kernel) (by decide +kernel), jtb_at 7 (by decide +kernel) (by decide +kernel), jtb_at 80 (by decide +kernel) (by decide +kernel), kc_X3_readHour, rfl, ⟨by decide, by decide, by decide +kernel⟩⟩
set_option maxRecDepth 100000 in
theorem kc_X3_readItem : Cond.code yX3_readItem cX3_readItem 1 (some .boolean) ∈ jtb := jtb_at 421 (by rfl) (by rfl)
theorem cv_X3_41 : jcwV RX3 41 RX3 yX3_readItem cX3_readItem 1 (some .boolean) 0 := ⟨jtb_at 418 (by decide +kernel) (by decide +kernel), jtb_at 420 (by decide +kernel) (by decide +kernel), jtb_at 5 (by decide +kernel) (by decide +kernel), jtb_at 80 (by decide +kernel) (by decide +kernel), kc_X3_readItem, rfl, ⟨by decide, by decide, by decide +kernel⟩⟩
set_option maxRecDepth 100000 in
theorem kc_X3_firstFault : Cond.code yX3_firstFault cX3_firstFault 4 (some .int) ∈ jtb := jtb_at 406 (by rfl) (by rfl)
theorem cv_X5_128 : jcwV RX5 128 RX3 yX3_firstFault cX3_firstFault 4 (some .int) 2 := ⟨jtb_at 403 (by decide +kernel) (by decide +kernel), jtb_at 404 (by decide +kernel) (by decide +kernel), jtb_at 405 (by decide +kernel) (by decide +kernel), jtb_at 80 (by decide +kernel) (by decide +kernel), kc_X3_firstFault, rfl, ⟨by decide, by decide, by decide +kernel⟩⟩
theorem fi_X5_31 : jfl RX5 31 5 RX5 TX5 13 tyX5 3 2 := ⟨cls5, by decide, jtb_at 289 (by decide +kernel) (by decide +kernel), rfl⟩
theorem fi_X5_132 : jfl RX5 132 3 RX3 TX3 4 tyX3 0 2 := ⟨cls3, by decide, jtb_at 182 (by decide +kernel) (by decide +kernel), rfl⟩
theorem cv_X2_47 : jcwV RX2 47 RX2 yX2_clear cX2_clear 1 (none) 0 := ⟨jtb_at 470 (by decide +kernel) (by decide +kernel), jtb_at 411 (by decide +kernel) (by decide +kernel), jtb_at 412 (by decide +kernel) (by decide +kernel), jtb_at 81 (by decide +kernel) (by decide +kernel), kc_X2_clear, rfl, ⟨by decide, by decide, by decide +kernel⟩⟩
theorem cv_X2_50 : jcwV RX2 50 RX2 yX2_addDeed cX2_addDeed 6 (none) 3 := ⟨jtb_at 471 (by decide +kernel) (by decide +kernel), jtb_at 458 (by decide +kernel) (by decide +kernel), jtb_at 459 (by decide +kernel) (by decide +kernel), jtb_at 81 (by decide +kernel) (by decide +kernel), kc_X2_addDeed, rfl, ⟨by decide, by decide, by decide +kernel⟩⟩
theorem cv_X2_54 : jcwV RX2 54 RX2 yX2_addHour cX2_addHour 4 (none) 3 := ⟨jtb_at 472 (by decide +kernel) (by decide +kernel), jtb_at 435 (by decide +kernel) (by decide +kernel), jtb_at 436 (by decide +kernel) (by decide +kernel), jtb_at 81 (by decide +kernel) (by decide +kernel), kc_X2_addHour, rfl, ⟨by decide, by decide, by decide +kernel⟩⟩
theorem fi_X2_40 : jfl RX2 40 2 RX2 TX2 11 tyX2 9 2 := ⟨cls2, by decide, jtb_at 153 (by decide +kernel) (by decide +kernel), rfl⟩
theorem ck_J6_265 : Cond.constant RJ6 265 (1431655765) ∈ jtb := jtb_at 488 (by decide +kernel) (by decide +kernel)
theorem ck_J6_266 : Cond.constant RJ6 266 (858993459) ∈ jtb := jtb_at 489 (by decide +kernel) (by decide +kernel)
theorem ck_J6_267 : Cond.constant RJ6 267 (252645135) ∈ jtb := jtb_at 490 (by decide +kernel) (by decide +kernel)
set_option maxRecDepth 100000 in
theorem kc_J6_bitCount_0f7a4 : Cond.code yJ6_bitCount_0f7a4 cJ6_bitCount_0f7a4 1 (some .int) ∈ jtb := jtb_at 487 (by rfl) (by rfl)
theorem cs_X2_89 : jcwS RX2 89 yJ6_bitCount_0f7a4 cJ6_bitCount_0f7a4 1 (some .int) 1 := ⟨jtb_at 485 (by decide +kernel) (by decide +kernel), jtb_at 486 (by decide +kernel) (by decide +kernel), jtb_at 87 (by decide +kernel) (by decide +kernel), kc_J6_bitCount_0f7a4, ⟨by decide, by decide, by decide +kernel⟩⟩
set_option maxRecDepth 100000 in
theorem kc_X2_company : Cond.code yX2_company cX2_company 3 (some .int) ∈ jtb := jtb_at 484 (by rfl) (by rfl)
theorem cv_X2_85 : jcwV RX2 85 RX2 yX2_company cX2_company 3 (some .int) 2 := ⟨jtb_at 481 (by decide +kernel) (by decide +kernel), jtb_at 482 (by decide +kernel) (by decide +kernel), jtb_at 483 (by decide +kernel) (by decide +kernel), jtb_at 81 (by decide +kernel) (by decide +kernel), kc_X2_company, rfl, ⟨by decide, by decide, by decide +kernel⟩⟩
set_option maxRecDepth 100000 in
theorem kc_X2_hasCompany : Cond.code yX2_hasCompany cX2_hasCompany 3 (some .boolean) ∈ jtb := jtb_at 480 (by rfl) (by rfl)
theorem cv_X2_69 : jcwV RX2 69 RX2 yX2_hasCompany cX2_hasCompany 3 (some .boolean) 2 := ⟨jtb_at 477 (by decide +kernel) (by decide +kernel), jtb_at 478 (by decide +kernel) (by decide +kernel), jtb_at 479 (by decide +kernel) (by decide +kernel), jtb_at 81 (by decide +kernel) (by decide +kernel), kc_X2_hasCompany, rfl, ⟨by decide, by decide, by decide +kernel⟩⟩
set_option maxRecDepth 100000 in
theorem kc_X2_setsReadyFor : Cond.code yX2_setsReadyFor cX2_setsReadyFor 6 (some .long) ∈ jtb := jtb_at 476 (by rfl) (by rfl)
theorem cv_X2_57 : jcwV RX2 57 RX2 yX2_setsReadyFor cX2_setsReadyFor 6 (some .long) 1 := ⟨jtb_at 473 (by decide +kernel) (by decide +kernel), jtb_at 475 (by decide +kernel) (by decide +kernel), jtb_at 11 (by decide +kernel) (by decide +kernel), jtb_at 81 (by decide +kernel) (by decide +kernel), kc_X2_setsReadyFor, rfl, ⟨by decide, by decide, by decide +kernel⟩⟩
theorem fi_X2_44 : jfl RX2 44 2 RX2 TX2 11 tyX2 10 2 := ⟨cls2, by decide, jtb_at 155 (by decide +kernel) (by decide +kernel), rfl⟩
set_option maxRecDepth 100000 in
theorem kc_X2_isNight : Cond.code yX2_isNight cX2_isNight 2 (some .boolean) ∈ jtb := jtb_at 502 (by rfl) (by rfl)
theorem cv_X2_78 : jcwV RX2 78 RX2 yX2_isNight cX2_isNight 2 (some .boolean) 1 := ⟨jtb_at 499 (by decide +kernel) (by decide +kernel), jtb_at 500 (by decide +kernel) (by decide +kernel), jtb_at 501 (by decide +kernel) (by decide +kernel), jtb_at 81 (by decide +kernel) (by decide +kernel), kc_X2_isNight, rfl, ⟨by decide, by decide, by decide +kernel⟩⟩
set_option maxRecDepth 100000 in
theorem kc_X2_hasLight : Cond.code yX2_hasLight cX2_hasLight 3 (some .boolean) ∈ jtb := jtb_at 498 (by rfl) (by rfl)
theorem cv_X2_72 : jcwV RX2 72 RX2 yX2_hasLight cX2_hasLight 3 (some .boolean) 2 := ⟨jtb_at 495 (by decide +kernel) (by decide +kernel), jtb_at 496 (by decide +kernel) (by decide +kernel), jtb_at 497 (by decide +kernel) (by decide +kernel), jtb_at 81 (by decide +kernel) (by decide +kernel), kc_X2_hasLight, rfl, ⟨by decide, by decide, by decide +kernel⟩⟩
set_option maxRecDepth 100000 in
theorem kc_X2_isTimeOf : Cond.code yX2_isTimeOf cX2_isTimeOf 3 (some .boolean) ∈ jtb := jtb_at 506 (by rfl) (by rfl)
theorem cv_X2_75 : jcwV RX2 75 RX2 yX2_isTimeOf cX2_isTimeOf 3 (some .boolean) 2 := ⟨jtb_at 503 (by decide +kernel) (by decide +kernel), jtb_at 504 (by decide +kernel) (by decide +kernel), jtb_at 505 (by decide +kernel) (by decide +kernel), jtb_at 81 (by decide +kernel) (by decide +kernel), kc_X2_isTimeOf, rfl, ⟨by decide, by decide, by decide +kernel⟩⟩
set_option maxRecDepth 100000 in
theorem kc_X2_hoursSuiting : Cond.code yX2_hoursSuiting cX2_hoursSuiting 4 (some .int) ∈ jtb := jtb_at 494 (by rfl) (by rfl)
theorem cv_X2_61 : jcwV RX2 61 RX2 yX2_hoursSuiting cX2_hoursSuiting 4 (some .int) 1 := ⟨jtb_at 491 (by decide +kernel) (by decide +kernel), jtb_at 493 (by decide +kernel) (by decide +kernel), jtb_at 12 (by decide +kernel) (by decide +kernel), jtb_at 81 (by decide +kernel) (by decide +kernel), kc_X2_hoursSuiting, rfl, ⟨by decide, by decide, by decide +kernel⟩⟩
set_option maxRecDepth 100000 in
theorem kc_X2_become : Cond.code yX2_become cX2_become 3 (none) ∈ jtb := jtb_at 469 (by rfl) (by rfl)
theorem cv_X5_135 : jcwV RX5 135 RX2 yX2_become cX2_become 3 (none) 1 := ⟨jtb_at 466 (by decide +kernel) (by decide +kernel), jtb_at 467 (by decide +kernel) (by decide +kernel), jtb_at 468 (by decide +kernel) (by decide +kernel), jtb_at 81 (by decide +kernel) (by decide +kernel), kc_X2_become, rfl, ⟨by decide, by decide, by decide +kernel⟩⟩
theorem fi_X5_40 : jfl RX5 40 5 RX5 TX5 13 tyX5 4 2 := ⟨cls5, by decide, jtb_at 290 (by decide +kernel) (by decide +kernel), rfl⟩
theorem fi_X0_9 : jfl RX0 9 0 RX0 TX0 12 tyX0 1 2 := ⟨cls0, by decide, jtb_at 210 (by decide +kernel) (by decide +kernel), rfl⟩
theorem ca_X0_53 : Cond.methodLink RX0 53 arraycopyName ∈ jtb ∧ Cond.native arraycopyName ∈ jtb ∧ Cond.static arraycopyName ∈ jtb ∧ Cond.initialized "java/lang/System" ∈ jtb := ⟨jtb_at 205 (by decide +kernel) (by decide +kernel), jtb_at 207 (by decide +kernel) (by decide +kernel), jtb_at 206 (by decide +kernel) (by decide +kernel), jtb_at 83 (by decide +kernel) (by decide +kernel)⟩
theorem fi_X0_24 : jfl RX0 24 0 RX0 TX0 12 tyX0 5 2 := ⟨cls0, by decide, jtb_at 215 (by decide +kernel) (by decide +kernel), rfl⟩
theorem cs_X0_59 : jcwS RX0 59 yJ7_fill_53178 cJ7_fill_53178 4 (none) 2 := ⟨jtb_at 208 (by decide +kernel) (by decide +kernel), jtb_at 105 (by decide +kernel) (by decide +kernel), jtb_at 79 (by decide +kernel) (by decide +kernel), kc_J7_fill_53178, ⟨by decide, by decide, by decide +kernel⟩⟩
theorem fi_X0_27 : jfl RX0 27 0 RX0 TX0 12 tyX0 6 0 := ⟨cls0, by decide, jtb_at 217 (by decide +kernel) (by decide +kernel), rfl⟩
theorem fp_X0_27 : jfp RX0 27 0 RX0 TX0 12 tyX0 6 0 (.int) := ⟨fi_X0_27, rfl, rfl⟩
theorem fi_X0_31 : jfl RX0 31 0 RX0 TX0 12 tyX0 7 0 := ⟨cls0, by decide, jtb_at 219 (by decide +kernel) (by decide +kernel), rfl⟩
theorem fp_X0_31 : jfp RX0 31 0 RX0 TX0 12 tyX0 7 0 (.int) := ⟨fi_X0_31, rfl, rfl⟩
theorem fi_X0_34 : jfl RX0 34 0 RX0 TX0 12 tyX0 8 0 := ⟨cls0, by decide, jtb_at 221 (by decide +kernel) (by decide +kernel), rfl⟩
theorem fp_X0_34 : jfp RX0 34 0 RX0 TX0 12 tyX0 8 0 (.int) := ⟨fi_X0_34, rfl, rfl⟩
theorem fi_X0_37 : jfl RX0 37 0 RX0 TX0 12 tyX0 9 0 := ⟨cls0, by decide, jtb_at 223 (by decide +kernel) (by decide +kernel), rfl⟩
theorem fp_X0_37 : jfp RX0 37 0 RX0 TX0 12 tyX0 9 0 (.int) := ⟨fi_X0_37, rfl, rfl⟩
theorem fi_X0_40 : jfl RX0 40 0 RX0 TX0 12 tyX0 10 0 := ⟨cls0, by decide, jtb_at 224 (by decide +kernel) (by decide +kernel), rfl⟩
theorem fp_X0_40 : jfp RX0 40 0 RX0 TX0 12 tyX0 10 0 (.int) := ⟨fi_X0_40, rfl, rfl⟩
theorem fi_X0_43 : jfl RX0 43 0 RX0 TX0 12 tyX0 11 0 := ⟨cls0, by decide, jtb_at 227 (by decide +kernel) (by decide +kernel), rfl⟩
theorem fp_X0_43 : jfp RX0 43 0 RX0 TX0 12 tyX0 11 0 (.int) := ⟨fi_X0_43, rfl, rfl⟩
set_option maxRecDepth 100000 in
theorem kc_X0_rewind : Cond.code yX0_rewind cX0_rewind 1 (none) ∈ jtb := jtb_at 514 (by rfl) (by rfl)
theorem cv_X0_65 : jcwV RX0 65 RX0 yX0_rewind cX0_rewind 1 (none) 0 := ⟨jtb_at 511 (by decide +kernel) (by decide +kernel), jtb_at 513 (by decide +kernel) (by decide +kernel), jtb_at 13 (by decide +kernel) (by decide +kernel), jtb_at 82 (by decide +kernel) (by decide +kernel), kc_X0_rewind, rfl, ⟨by decide, by decide, by decide +kernel⟩⟩
set_option maxRecDepth 100000 in
theorem kc_X0_begin : Cond.code yX0_begin cX0_begin 1 (none) ∈ jtb := jtb_at 510 (by rfl) (by rfl)
theorem cv_X5_138 : jcwV RX5 138 RX0 yX0_begin cX0_begin 1 (none) 0 := ⟨jtb_at 507 (by decide +kernel) (by decide +kernel), jtb_at 508 (by decide +kernel) (by decide +kernel), jtb_at 509 (by decide +kernel) (by decide +kernel), jtb_at 82 (by decide +kernel) (by decide +kernel), kc_X0_begin, rfl, ⟨by decide, by decide, by decide +kernel⟩⟩
theorem fi_X5_48 : jfl RX5 48 5 RX5 TX5 13 tyX5 6 2 := ⟨cls5, by decide, jtb_at 292 (by decide +kernel) (by decide +kernel), rfl⟩
theorem fi_X5_140 : jfl RX5 140 2 RX2 TX2 11 tyX2 0 0 := ⟨cls2, by decide, jtb_at 132 (by decide +kernel) (by decide +kernel), rfl⟩
theorem cv_X5_143 : jcwV RX5 143 RX2 yX2_hasDeed cX2_hasDeed 2 (some .boolean) 1 := ⟨jtb_at 519 (by decide +kernel) (by decide +kernel), jtb_at 451 (by decide +kernel) (by decide +kernel), jtb_at 452 (by decide +kernel) (by decide +kernel), jtb_at 81 (by decide +kernel) (by decide +kernel), kc_X2_hasDeed, rfl, ⟨by decide, by decide, by decide +kernel⟩⟩
theorem fi_X5_322 : jfl RX5 322 2 RX2 TX2 11 tyX2 2 2 := ⟨cls2, by decide, jtb_at 140 (by decide +kernel) (by decide +kernel), rfl⟩
theorem fi_X5_325 : jfl RX5 325 2 RX2 TX2 11 tyX2 3 2 := ⟨cls2, by decide, jtb_at 142 (by decide +kernel) (by decide +kernel), rfl⟩
theorem fi_X5_166 : jfl RX5 166 2 RX2 TX2 11 tyX2 4 2 := ⟨cls2, by decide, jtb_at 144 (by decide +kernel) (by decide +kernel), rfl⟩
theorem fi_X5_178 : jfl RX5 178 0 RX0 TX0 12 tyX0 10 0 := ⟨cls0, by decide, jtb_at 226 (by decide +kernel) (by decide +kernel), rfl⟩
theorem cs_X5_270 : jcwS RX5 270 yX5_isIn cX5_isIn 2 (some .boolean) 2 := ⟨jtb_at 524 (by decide +kernel) (by decide +kernel), jtb_at 455 (by decide +kernel) (by decide +kernel), jtb_at 77 (by decide +kernel) (by decide +kernel), kc_X5_isIn, ⟨by decide, by decide, by decide +kernel⟩⟩
theorem fi_X5_225 : jfl RX5 225 2 RX2 TX2 11 tyX2 5 2 := ⟨cls2, by decide, jtb_at 146 (by decide +kernel) (by decide +kernel), rfl⟩
set_option maxRecDepth 100000 in
theorem kc_X5_deedFact : Cond.code yX5_deedFact cX5_deedFact 3 (some .int) ∈ jtb := jtb_at 523 (by rfl) (by rfl)
theorem cv_X5_146 : jcwV RX5 146 RX5 yX5_deedFact cX5_deedFact 3 (some .int) 2 := ⟨jtb_at 520 (by decide +kernel) (by decide +kernel), jtb_at 522 (by decide +kernel) (by decide +kernel), jtb_at 14 (by decide +kernel) (by decide +kernel), jtb_at 77 (by decide +kernel) (by decide +kernel), kc_X5_deedFact, rfl, ⟨by decide, by decide, by decide +kernel⟩⟩
set_option maxRecDepth 100000 in
theorem kc_X2_hasHour : Cond.code yX2_hasHour cX2_hasHour 2 (some .boolean) ∈ jtb := jtb_at 532 (by rfl) (by rfl)
theorem cv_X5_150 : jcwV RX5 150 RX2 yX2_hasHour cX2_hasHour 2 (some .boolean) 1 := ⟨jtb_at 529 (by decide +kernel) (by decide +kernel), jtb_at 530 (by decide +kernel) (by decide +kernel), jtb_at 531 (by decide +kernel) (by decide +kernel), jtb_at 81 (by decide +kernel) (by decide +kernel), kc_X2_hasHour, rfl, ⟨by decide, by decide, by decide +kernel⟩⟩
theorem fi_X5_328 : jfl RX5 328 2 RX2 TX2 11 tyX2 6 2 := ⟨cls2, by decide, jtb_at 148 (by decide +kernel) (by decide +kernel), rfl⟩
theorem cv_X5_331 : jcwV RX5 331 RX2 yX2_isNight cX2_isNight 2 (some .boolean) 1 := ⟨jtb_at 537 (by decide +kernel) (by decide +kernel), jtb_at 500 (by decide +kernel) (by decide +kernel), jtb_at 501 (by decide +kernel) (by decide +kernel), jtb_at 81 (by decide +kernel) (by decide +kernel), kc_X2_isNight, rfl, ⟨by decide, by decide, by decide +kernel⟩⟩
theorem fi_X0_46 : jfl RX0 46 0 RX0 TX0 12 tyX0 0 2 := ⟨cls0, by decide, jtb_at 209 (by decide +kernel) (by decide +kernel), rfl⟩
theorem fi_X0_93 : jfl RX0 93 2 RX2 TX2 11 tyX2 7 2 := ⟨cls2, by decide, jtb_at 150 (by decide +kernel) (by decide +kernel), rfl⟩
theorem fi_X0_96 : jfl RX0 96 2 RX2 TX2 11 tyX2 8 2 := ⟨cls2, by decide, jtb_at 152 (by decide +kernel) (by decide +kernel), rfl⟩
set_option maxRecDepth 100000 in
theorem kc_X0_comingDay : Cond.code yX0_comingDay cX0_comingDay 2 (some .int) ∈ jtb := jtb_at 541 (by rfl) (by rfl)
theorem cv_X5_231 : jcwV RX5 231 RX0 yX0_comingDay cX0_comingDay 2 (some .int) 1 := ⟨jtb_at 538 (by decide +kernel) (by decide +kernel), jtb_at 539 (by decide +kernel) (by decide +kernel), jtb_at 540 (by decide +kernel) (by decide +kernel), jtb_at 82 (by decide +kernel) (by decide +kernel), kc_X0_comingDay, rfl, ⟨by decide, by decide, by decide +kernel⟩⟩
theorem cn_X0_113 : jcwN RX0 113 "HoursByPost" yX5_isIn cX5_isIn 2 (some .boolean) 2 := ⟨by decide +kernel, jtb_at 455 (by decide +kernel) (by decide +kernel), jtb_at 77 (by decide +kernel) (by decide +kernel), kc_X5_isIn, ⟨by decide, by decide, by decide +kernel⟩⟩
theorem cv_X0_102 : jcwV RX0 102 RX0 yX0_comingDay cX0_comingDay 2 (some .int) 1 := ⟨jtb_at 547 (by decide +kernel) (by decide +kernel), jtb_at 539 (by decide +kernel) (by decide +kernel), jtb_at 540 (by decide +kernel) (by decide +kernel), jtb_at 82 (by decide +kernel) (by decide +kernel), kc_X0_comingDay, rfl, ⟨by decide, by decide, by decide +kernel⟩⟩
set_option maxRecDepth 100000 in
theorem kc_X0_whereIs : Cond.code yX0_whereIs cX0_whereIs 2 (some .int) ∈ jtb := jtb_at 545 (by rfl) (by rfl)
theorem cv_X5_203 : jcwV RX5 203 RX0 yX0_whereIs cX0_whereIs 2 (some .int) 1 := ⟨jtb_at 542 (by decide +kernel) (by decide +kernel), jtb_at 543 (by decide +kernel) (by decide +kernel), jtb_at 544 (by decide +kernel) (by decide +kernel), jtb_at 82 (by decide +kernel) (by decide +kernel), kc_X0_whereIs, rfl, ⟨by decide, by decide, by decide +kernel⟩⟩
theorem fi_X5_334 : jfl RX5 334 0 RX0 TX0 12 tyX0 5 2 := ⟨cls0, by decide, jtb_at 216 (by decide +kernel) (by decide +kernel), rfl⟩
set_option maxRecDepth 100000 in
theorem kc_X5_hourFact : Cond.code yX5_hourFact cX5_hourFact 3 (some .int) ∈ jtb := jtb_at 536 (by rfl) (by rfl)
theorem cv_X5_153 : jcwV RX5 153 RX5 yX5_hourFact cX5_hourFact 3 (some .int) 2 := ⟨jtb_at 533 (by decide +kernel) (by decide +kernel), jtb_at 535 (by decide +kernel) (by decide +kernel), jtb_at 15 (by decide +kernel) (by decide +kernel), jtb_at 77 (by decide +kernel) (by decide +kernel), kc_X5_hourFact, rfl, ⟨by decide, by decide, by decide +kernel⟩⟩
set_option maxRecDepth 100000 in
theorem kc_X2_isOfKind : Cond.code yX2_isOfKind cX2_isOfKind 4 (some .boolean) ∈ jtb := jtb_at 555 (by rfl) (by rfl)
theorem cv_X5_156 : jcwV RX5 156 RX2 yX2_isOfKind cX2_isOfKind 4 (some .boolean) 2 := ⟨jtb_at 552 (by decide +kernel) (by decide +kernel), jtb_at 553 (by decide +kernel) (by decide +kernel), jtb_at 554 (by decide +kernel) (by decide +kernel), jtb_at 81 (by decide +kernel) (by decide +kernel), kc_X2_isOfKind, rfl, ⟨by decide, by decide, by decide +kernel⟩⟩
theorem fi_X5_160 : jfl RX5 160 0 RX0 TX0 12 tyX0 11 0 := ⟨cls0, by decide, jtb_at 229 (by decide +kernel) (by decide +kernel), rfl⟩
theorem fi_X0_99 : jfl RX0 99 2 RX2 TX2 11 tyX2 1 0 := ⟨cls2, by decide, jtb_at 136 (by decide +kernel) (by decide +kernel), rfl⟩
set_option maxRecDepth 100000 in
theorem kc_X0_comeBits : Cond.code yX0_comeBits cX0_comeBits 4 (some .int) ∈ jtb := jtb_at 567 (by rfl) (by rfl)
theorem cv_X0_106 : jcwV RX0 106 RX0 yX0_comeBits cX0_comeBits 4 (some .int) 1 := ⟨jtb_at 564 (by decide +kernel) (by decide +kernel), jtb_at 565 (by decide +kernel) (by decide +kernel), jtb_at 566 (by decide +kernel) (by decide +kernel), jtb_at 82 (by decide +kernel) (by decide +kernel), kc_X0_comeBits, rfl, ⟨by decide, by decide, by decide +kernel⟩⟩
set_option maxRecDepth 100000 in
theorem kc_X0_unopenedBits : Cond.code yX0_unopenedBits cX0_unopenedBits 1 (some .int) ∈ jtb := jtb_at 571 (by rfl) (by rfl)
theorem cv_X0_109 : jcwV RX0 109 RX0 yX0_unopenedBits cX0_unopenedBits 1 (some .int) 0 := ⟨jtb_at 568 (by decide +kernel) (by decide +kernel), jtb_at 569 (by decide +kernel) (by decide +kernel), jtb_at 570 (by decide +kernel) (by decide +kernel), jtb_at 82 (by decide +kernel) (by decide +kernel), kc_X0_unopenedBits, rfl, ⟨by decide, by decide, by decide +kernel⟩⟩
set_option maxRecDepth 100000 in
theorem kc_X0_shelfBits : Cond.code yX0_shelfBits cX0_shelfBits 1 (some .int) ∈ jtb := jtb_at 563 (by rfl) (by rfl)
theorem cv_X5_209 : jcwV RX5 209 RX0 yX0_shelfBits cX0_shelfBits 1 (some .int) 0 := ⟨jtb_at 560 (by decide +kernel) (by decide +kernel), jtb_at 561 (by decide +kernel) (by decide +kernel), jtb_at 562 (by decide +kernel) (by decide +kernel), jtb_at 82 (by decide +kernel) (by decide +kernel), kc_X0_shelfBits, rfl, ⟨by decide, by decide, by decide +kernel⟩⟩
theorem fi_X5_228 : jfl RX5 228 2 RX2 TX2 11 tyX2 1 0 := ⟨cls2, by decide, jtb_at 138 (by decide +kernel) (by decide +kernel), rfl⟩
theorem cv_X2_82 : jcwV RX2 82 RX2 yX2_isOfKind cX2_isOfKind 4 (some .boolean) 2 := ⟨jtb_at 584 (by decide +kernel) (by decide +kernel), jtb_at 553 (by decide +kernel) (by decide +kernel), jtb_at 554 (by decide +kernel) (by decide +kernel), jtb_at 81 (by decide +kernel) (by decide +kernel), kc_X2_isOfKind, rfl, ⟨by decide, by decide, by decide +kernel⟩⟩
set_option maxRecDepth 100000 in
theorem kc_X2_isHungry : Cond.code yX2_isHungry cX2_isHungry 3 (some .boolean) ∈ jtb := jtb_at 583 (by rfl) (by rfl)
theorem cv_X2_94 : jcwV RX2 94 RX2 yX2_isHungry cX2_isHungry 3 (some .boolean) 2 := ⟨jtb_at 580 (by decide +kernel) (by decide +kernel), jtb_at 581 (by decide +kernel) (by decide +kernel), jtb_at 582 (by decide +kernel) (by decide +kernel), jtb_at 81 (by decide +kernel) (by decide +kernel), kc_X2_isHungry, rfl, ⟨by decide, by decide, by decide +kernel⟩⟩
set_option maxRecDepth 100000 in
theorem kc_X2_hindrance : Cond.code yX2_hindrance cX2_hindrance 6 (some .int) ∈ jtb := jtb_at 579 (by rfl) (by rfl)
theorem cv_X0_122 : jcwV RX0 122 RX2 yX2_hindrance cX2_hindrance 6 (some .int) 4 := ⟨jtb_at 576 (by decide +kernel) (by decide +kernel), jtb_at 577 (by decide +kernel) (by decide +kernel), jtb_at 578 (by decide +kernel) (by decide +kernel), jtb_at 81 (by decide +kernel) (by decide +kernel), kc_X2_hindrance, rfl, ⟨by decide, by decide, by decide +kernel⟩⟩
set_option maxRecDepth 100000 in
theorem kc_X0_hindrance : Cond.code yX0_hindrance cX0_hindrance 3 (some .int) ∈ jtb := jtb_at 575 (by rfl) (by rfl)
theorem cv_X5_206 : jcwV RX5 206 RX0 yX0_hindrance cX0_hindrance 3 (some .int) 2 := ⟨jtb_at 572 (by decide +kernel) (by decide +kernel), jtb_at 573 (by decide +kernel) (by decide +kernel), jtb_at 574 (by decide +kernel) (by decide +kernel), jtb_at 82 (by decide +kernel) (by decide +kernel), kc_X0_hindrance, rfl, ⟨by decide, by decide, by decide +kernel⟩⟩
set_option maxRecDepth 100000 in
theorem kc_X5_hoursFor : Cond.code yX5_hoursFor cX5_hoursFor 5 (some .int) ∈ jtb := jtb_at 559 (by rfl) (by rfl)
theorem cv_X5_163 : jcwV RX5 163 RX5 yX5_hoursFor cX5_hoursFor 5 (some .int) 1 := ⟨jtb_at 556 (by decide +kernel) (by decide +kernel), jtb_at 558 (by decide +kernel) (by decide +kernel), jtb_at 16 (by decide +kernel) (by decide +kernel), jtb_at 77 (by decide +kernel) (by decide +kernel), kc_X5_hoursFor, rfl, ⟨by decide, by decide, by decide +kernel⟩⟩
set_option maxRecDepth 100000 in
theorem kc_X2_neededBy : Cond.code yX2_neededBy cX2_neededBy 5 (some .int) ∈ jtb := jtb_at 588 (by rfl) (by rfl)
theorem cv_X5_169 : jcwV RX5 169 RX2 yX2_neededBy cX2_neededBy 5 (some .int) 2 := ⟨jtb_at 585 (by decide +kernel) (by decide +kernel), jtb_at 586 (by decide +kernel) (by decide +kernel), jtb_at 587 (by decide +kernel) (by decide +kernel), jtb_at 81 (by decide +kernel) (by decide +kernel), kc_X2_neededBy, rfl, ⟨by decide, by decide, by decide +kernel⟩⟩
theorem cs_X5_173 : jcwS RX5 173 yJ6_bitCount_0f7a4 cJ6_bitCount_0f7a4 1 (some .int) 1 := ⟨jtb_at 589 (by decide +kernel) (by decide +kernel), jtb_at 486 (by decide +kernel) (by decide +kernel), jtb_at 87 (by decide +kernel) (by decide +kernel), kc_J6_bitCount_0f7a4, ⟨by decide, by decide, by decide +kernel⟩⟩
theorem cv_X5_181 : jcwV RX5 181 RX2 yX2_company cX2_company 3 (some .int) 2 := ⟨jtb_at 590 (by decide +kernel) (by decide +kernel), jtb_at 482 (by decide +kernel) (by decide +kernel), jtb_at 483 (by decide +kernel) (by decide +kernel), jtb_at 81 (by decide +kernel) (by decide +kernel), kc_X2_company, rfl, ⟨by decide, by decide, by decide +kernel⟩⟩
set_option maxRecDepth 100000 in
theorem kc_X2_hoursOfLightFor : Cond.code yX2_hoursOfLightFor cX2_hoursOfLightFor 4 (some .int) ∈ jtb := jtb_at 594 (by rfl) (by rfl)
theorem cv_X5_184 : jcwV RX5 184 RX2 yX2_hoursOfLightFor cX2_hoursOfLightFor 4 (some .int) 1 := ⟨jtb_at 591 (by decide +kernel) (by decide +kernel), jtb_at 592 (by decide +kernel) (by decide +kernel), jtb_at 593 (by decide +kernel) (by decide +kernel), jtb_at 81 (by decide +kernel) (by decide +kernel), kc_X2_hoursOfLightFor, rfl, ⟨by decide, by decide, by decide +kernel⟩⟩
theorem fi_X5_187 : jfl RX5 187 0 RX0 TX0 12 tyX0 6 0 := ⟨cls0, by decide, jtb_at 218 (by decide +kernel) (by decide +kernel), rfl⟩
theorem fi_X5_190 : jfl RX5 190 0 RX0 TX0 12 tyX0 1 2 := ⟨cls0, by decide, jtb_at 211 (by decide +kernel) (by decide +kernel), rfl⟩
set_option maxRecDepth 100000 in
theorem kc_X0_isFull : Cond.code yX0_isFull cX0_isFull 1 (some .boolean) ∈ jtb := jtb_at 606 (by rfl) (by rfl)
theorem cv_X5_193 : jcwV RX5 193 RX0 yX0_isFull cX0_isFull 1 (some .boolean) 0 := ⟨jtb_at 603 (by decide +kernel) (by decide +kernel), jtb_at 604 (by decide +kernel) (by decide +kernel), jtb_at 605 (by decide +kernel) (by decide +kernel), jtb_at 82 (by decide +kernel) (by decide +kernel), kc_X0_isFull, rfl, ⟨by decide, by decide, by decide +kernel⟩⟩
theorem cv_X0_68 : jcwV RX0 68 RX0 yX0_isFull cX0_isFull 1 (some .boolean) 0 := ⟨jtb_at 611 (by decide +kernel) (by decide +kernel), jtb_at 604 (by decide +kernel) (by decide +kernel), jtb_at 605 (by decide +kernel) (by decide +kernel), jtb_at 82 (by decide +kernel) (by decide +kernel), kc_X0_isFull, rfl, ⟨by decide, by decide, by decide +kernel⟩⟩
theorem fi_X0_15 : jfl RX0 15 0 RX0 TX0 12 tyX0 2 2 := ⟨cls0, by decide, jtb_at 212 (by decide +kernel) (by decide +kernel), rfl⟩
theorem fi_X0_18 : jfl RX0 18 0 RX0 TX0 12 tyX0 3 2 := ⟨cls0, by decide, jtb_at 213 (by decide +kernel) (by decide +kernel), rfl⟩
theorem fi_X0_21 : jfl RX0 21 0 RX0 TX0 12 tyX0 4 2 := ⟨cls0, by decide, jtb_at 214 (by decide +kernel) (by decide +kernel), rfl⟩
theorem cv_X0_76 : jcwV RX0 76 RX2 yX2_hasDeed cX2_hasDeed 2 (some .boolean) 1 := ⟨jtb_at 616 (by decide +kernel) (by decide +kernel), jtb_at 451 (by decide +kernel) (by decide +kernel), jtb_at 452 (by decide +kernel) (by decide +kernel), jtb_at 81 (by decide +kernel) (by decide +kernel), kc_X2_hasDeed, rfl, ⟨by decide, by decide, by decide +kernel⟩⟩
theorem cv_X0_82 : jcwV RX0 82 RX2 yX2_hasHour cX2_hasHour 2 (some .boolean) 1 := ⟨jtb_at 617 (by decide +kernel) (by decide +kernel), jtb_at 530 (by decide +kernel) (by decide +kernel), jtb_at 531 (by decide +kernel) (by decide +kernel), jtb_at 81 (by decide +kernel) (by decide +kernel), kc_X2_hasHour, rfl, ⟨by decide, by decide, by decide +kernel⟩⟩
theorem cv_X0_85 : jcwV RX0 85 RX2 yX2_isOfKind cX2_isOfKind 4 (some .boolean) 2 := ⟨jtb_at 618 (by decide +kernel) (by decide +kernel), jtb_at 553 (by decide +kernel) (by decide +kernel), jtb_at 554 (by decide +kernel) (by decide +kernel), jtb_at 81 (by decide +kernel) (by decide +kernel), kc_X2_isOfKind, rfl, ⟨by decide, by decide, by decide +kernel⟩⟩
set_option maxRecDepth 100000 in
theorem kc_X0_live : Cond.code yX0_live cX0_live 3 (none) ∈ jtb := jtb_at 615 (by rfl) (by rfl)
theorem cv_X0_72 : jcwV RX0 72 RX0 yX0_live cX0_live 3 (none) 2 := ⟨jtb_at 612 (by decide +kernel) (by decide +kernel), jtb_at 614 (by decide +kernel) (by decide +kernel), jtb_at 17 (by decide +kernel) (by decide +kernel), jtb_at 82 (by decide +kernel) (by decide +kernel), kc_X0_live, rfl, ⟨by decide, by decide, by decide +kernel⟩⟩
set_option maxRecDepth 100000 in
theorem kc_X0_take : Cond.code yX0_take cX0_take 4 (none) ∈ jtb := jtb_at 610 (by rfl) (by rfl)
theorem cv_X5_197 : jcwV RX5 197 RX0 yX0_take cX0_take 4 (none) 3 := ⟨jtb_at 607 (by decide +kernel) (by decide +kernel), jtb_at 608 (by decide +kernel) (by decide +kernel), jtb_at 609 (by decide +kernel) (by decide +kernel), jtb_at 82 (by decide +kernel) (by decide +kernel), kc_X0_take, rfl, ⟨by decide, by decide, by decide +kernel⟩⟩
theorem fi_X5_200 : jfl RX5 200 0 RX0 TX0 12 tyX0 7 0 := ⟨cls0, by decide, jtb_at 220 (by decide +kernel) (by decide +kernel), rfl⟩
theorem cv_X0_89 : jcwV RX0 89 RX0 yX0_take cX0_take 4 (none) 3 := ⟨jtb_at 635 (by decide +kernel) (by decide +kernel), jtb_at 608 (by decide +kernel) (by decide +kernel), jtb_at 609 (by decide +kernel) (by decide +kernel), jtb_at 82 (by decide +kernel) (by decide +kernel), kc_X0_take, rfl, ⟨by decide, by decide, by decide +kernel⟩⟩
set_option maxRecDepth 100000 in
theorem kc_X0_goBackTo : Cond.code yX0_goBackTo cX0_goBackTo 4 (some .int) ∈ jtb := jtb_at 634 (by rfl) (by rfl)
theorem cv_X5_213 : jcwV RX5 213 RX0 yX0_goBackTo cX0_goBackTo 4 (some .int) 1 := ⟨jtb_at 631 (by decide +kernel) (by decide +kernel), jtb_at 632 (by decide +kernel) (by decide +kernel), jtb_at 633 (by decide +kernel) (by decide +kernel), jtb_at 82 (by decide +kernel) (by decide +kernel), kc_X0_goBackTo, rfl, ⟨by decide, by decide, by decide +kernel⟩⟩
theorem fi_X5_44 : jfl RX5 44 5 RX5 TX5 13 tyX5 5 2 := ⟨cls5, by decide, jtb_at 291 (by decide +kernel) (by decide +kernel), rfl⟩
set_option maxRecDepth 100000 in
theorem kc_X0_become : Cond.code yX0_become cX0_become 2 (none) ∈ jtb := jtb_at 647 (by rfl) (by rfl)
theorem cv_X5_216 : jcwV RX5 216 RX0 yX0_become cX0_become 2 (none) 1 := ⟨jtb_at 644 (by decide +kernel) (by decide +kernel), jtb_at 645 (by decide +kernel) (by decide +kernel), jtb_at 646 (by decide +kernel) (by decide +kernel), jtb_at 82 (by decide +kernel) (by decide +kernel), kc_X0_become, rfl, ⟨by decide, by decide, by decide +kernel⟩⟩
theorem fi_X0_126 : jfl RX0 126 2 RX2 TX2 11 tyX2 0 0 := ⟨cls2, by decide, jtb_at 133 (by decide +kernel) (by decide +kernel), rfl⟩
theorem cv_X0_129 : jcwV RX0 129 RX0 yX0_hindrance cX0_hindrance 3 (some .int) 2 := ⟨jtb_at 660 (by decide +kernel) (by decide +kernel), jtb_at 573 (by decide +kernel) (by decide +kernel), jtb_at 574 (by decide +kernel) (by decide +kernel), jtb_at 82 (by decide +kernel) (by decide +kernel), kc_X0_hindrance, rfl, ⟨by decide, by decide, by decide +kernel⟩⟩
set_option maxRecDepth 100000 in
theorem kc_X0_deedsFor : Cond.code yX0_deedsFor cX0_deedsFor 4 (some .int) ∈ jtb := jtb_at 659 (by rfl) (by rfl)
theorem cv_X5_219 : jcwV RX5 219 RX0 yX0_deedsFor cX0_deedsFor 4 (some .int) 1 := ⟨jtb_at 656 (by decide +kernel) (by decide +kernel), jtb_at 657 (by decide +kernel) (by decide +kernel), jtb_at 658 (by decide +kernel) (by decide +kernel), jtb_at 82 (by decide +kernel) (by decide +kernel), kc_X0_deedsFor, rfl, ⟨by decide, by decide, by decide +kernel⟩⟩
set_option maxRecDepth 100000 in
theorem kc_X5_firstOf : Cond.code yX5_firstOf cX5_firstOf 1 (some .int) ∈ jtb := jtb_at 667 (by rfl) (by rfl)
theorem cs_X5_222 : jcwS RX5 222 yX5_firstOf cX5_firstOf 1 (some .int) 1 := ⟨jtb_at 665 (by decide +kernel) (by decide +kernel), jtb_at 666 (by decide +kernel) (by decide +kernel), jtb_at 77 (by decide +kernel) (by decide +kernel), kc_X5_firstOf, ⟨by decide, by decide, by decide +kernel⟩⟩
set_option maxRecDepth 100000 in
theorem cm_X5_234 : Cond.methodLink RX5 234 Lib.Math.max.name ∈ jtb ∧ Cond.static Lib.Math.max.name ∈ jtb ∧ Cond.initialized "java/lang/Math" ∈ jtb ∧ Cond.code Lib.Math.max.name Lib.Math.max.code 2 (some .int) ∈ jtb := ⟨jtb_at 676 (by decide +kernel) (by decide +kernel), jtb_at 677 (by decide +kernel) (by decide +kernel), jtb_at 86 (by decide +kernel) (by decide +kernel), jtb_at 678 (by decide +kernel) (by decide +kernel)⟩
set_option maxRecDepth 100000 in
theorem kc_X5_refusalInHouse : Cond.code yX5_refusalInHouse cX5_refusalInHouse 2 (some .int) ∈ jtb := jtb_at 686 (by rfl) (by rfl)
theorem cv_X5_239 : jcwV RX5 239 RX5 yX5_refusalInHouse cX5_refusalInHouse 2 (some .int) 1 := ⟨jtb_at 683 (by decide +kernel) (by decide +kernel), jtb_at 685 (by decide +kernel) (by decide +kernel), jtb_at 18 (by decide +kernel) (by decide +kernel), jtb_at 77 (by decide +kernel) (by decide +kernel), kc_X5_refusalInHouse, rfl, ⟨by decide, by decide, by decide +kernel⟩⟩
set_option maxRecDepth 100000 in
theorem kc_X5_areAllPairs : Cond.code yX5_areAllPairs cX5_areAllPairs 5 (some .boolean) ∈ jtb := jtb_at 690 (by rfl) (by rfl)
theorem cv_X5_242 : jcwV RX5 242 RX5 yX5_areAllPairs cX5_areAllPairs 5 (some .boolean) 2 := ⟨jtb_at 687 (by decide +kernel) (by decide +kernel), jtb_at 689 (by decide +kernel) (by decide +kernel), jtb_at 19 (by decide +kernel) (by decide +kernel), jtb_at 77 (by decide +kernel) (by decide +kernel), kc_X5_areAllPairs, rfl, ⟨by decide, by decide, by decide +kernel⟩⟩
theorem fi_X5_55 : jfl RX5 55 5 RX5 TX5 13 tyX5 7 2 := ⟨cls5, by decide, jtb_at 293 (by decide +kernel) (by decide +kernel), rfl⟩
theorem fi_X1_18 : jfl RX1 18 1 RX1 TX1 7 tyX1 3 0 := ⟨cls1, by decide, jtb_at 265 (by decide +kernel) (by decide +kernel), rfl⟩
theorem fp_X1_18 : jfp RX1 18 1 RX1 TX1 7 tyX1 3 0 (.int) := ⟨fi_X1_18, rfl, rfl⟩
theorem fi_X1_22 : jfl RX1 22 1 RX1 TX1 7 tyX1 4 0 := ⟨cls1, by decide, jtb_at 266 (by decide +kernel) (by decide +kernel), rfl⟩
theorem fp_X1_22 : jfp RX1 22 1 RX1 TX1 7 tyX1 4 0 (.int) := ⟨fi_X1_22, rfl, rfl⟩
theorem fi_X1_35 : jfl RX1 35 0 RX0 TX0 12 tyX0 11 0 := ⟨cls0, by decide, jtb_at 228 (by decide +kernel) (by decide +kernel), rfl⟩
set_option maxRecDepth 100000 in
theorem cm_X1_40 : Cond.methodLink RX1 40 Lib.Math.min.name ∈ jtb ∧ Cond.static Lib.Math.min.name ∈ jtb ∧ Cond.initialized "java/lang/Math" ∈ jtb ∧ Cond.code Lib.Math.min.name Lib.Math.min.code 2 (some .int) ∈ jtb := ⟨jtb_at 695 (by decide +kernel) (by decide +kernel), jtb_at 408 (by decide +kernel) (by decide +kernel), jtb_at 86 (by decide +kernel) (by decide +kernel), jtb_at 409 (by decide +kernel) (by decide +kernel)⟩
theorem fi_X1_25 : jfl RX1 25 1 RX1 TX1 7 tyX1 5 0 := ⟨cls1, by decide, jtb_at 267 (by decide +kernel) (by decide +kernel), rfl⟩
theorem fp_X1_25 : jfp RX1 25 1 RX1 TX1 7 tyX1 5 0 (.int) := ⟨fi_X1_25, rfl, rfl⟩
theorem fi_X1_46 : jfl RX1 46 0 RX0 TX0 12 tyX0 10 0 := ⟨cls0, by decide, jtb_at 225 (by decide +kernel) (by decide +kernel), rfl⟩
theorem fi_X1_28 : jfl RX1 28 1 RX1 TX1 7 tyX1 6 0 := ⟨cls1, by decide, jtb_at 268 (by decide +kernel) (by decide +kernel), rfl⟩
theorem fp_X1_28 : jfp RX1 28 1 RX1 TX1 7 tyX1 6 0 (.int) := ⟨fi_X1_28, rfl, rfl⟩
set_option maxRecDepth 100000 in
theorem kc_X1_start : Cond.code yX1_start cX1_start 3 (none) ∈ jtb := jtb_at 694 (by rfl) (by rfl)
theorem cv_X5_246 : jcwV RX5 246 RX1 yX1_start cX1_start 3 (none) 2 := ⟨jtb_at 691 (by decide +kernel) (by decide +kernel), jtb_at 692 (by decide +kernel) (by decide +kernel), jtb_at 693 (by decide +kernel) (by decide +kernel), jtb_at 84 (by decide +kernel) (by decide +kernel), kc_X1_start, rfl, ⟨by decide, by decide, by decide +kernel⟩⟩
theorem cn_X1_55 : jcwN RX1 55 "HoursByPost" yX5_isIn cX5_isIn 2 (some .boolean) 2 := ⟨by decide +kernel, jtb_at 455 (by decide +kernel) (by decide +kernel), jtb_at 77 (by decide +kernel) (by decide +kernel), kc_X5_isIn, ⟨by decide, by decide, by decide +kernel⟩⟩
theorem fi_X1_31 : jfl RX1 31 1 RX1 TX1 7 tyX1 0 2 := ⟨cls1, by decide, jtb_at 262 (by decide +kernel) (by decide +kernel), rfl⟩
theorem cv_X1_58 : jcwV RX1 58 RX2 yX2_hindrance cX2_hindrance 6 (some .int) 4 := ⟨jtb_at 705 (by decide +kernel) (by decide +kernel), jtb_at 577 (by decide +kernel) (by decide +kernel), jtb_at 578 (by decide +kernel) (by decide +kernel), jtb_at 81 (by decide +kernel) (by decide +kernel), kc_X2_hindrance, rfl, ⟨by decide, by decide, by decide +kernel⟩⟩
set_option maxRecDepth 100000 in
theorem kc_X1_fits : Cond.code yX1_fits cX1_fits 3 (some .boolean) ∈ jtb := jtb_at 703 (by rfl) (by rfl)
theorem cv_X1_47 : jcwV RX1 47 RX1 yX1_fits cX1_fits 3 (some .boolean) 2 := ⟨jtb_at 700 (by decide +kernel) (by decide +kernel), jtb_at 702 (by decide +kernel) (by decide +kernel), jtb_at 20 (by decide +kernel) (by decide +kernel), jtb_at 84 (by decide +kernel) (by decide +kernel), kc_X1_fits, rfl, ⟨by decide, by decide, by decide +kernel⟩⟩
theorem cv_X1_71 : jcwV RX1 71 RX2 yX2_isOfKind cX2_isOfKind 4 (some .boolean) 2 := ⟨jtb_at 714 (by decide +kernel) (by decide +kernel), jtb_at 553 (by decide +kernel) (by decide +kernel), jtb_at 554 (by decide +kernel) (by decide +kernel), jtb_at 81 (by decide +kernel) (by decide +kernel), kc_X2_isOfKind, rfl, ⟨by decide, by decide, by decide +kernel⟩⟩
set_option maxRecDepth 100000 in
theorem kc_X1_gapBehind : Cond.code yX1_gapBehind cX1_gapBehind 4 (some .int) ∈ jtb := jtb_at 713 (by rfl) (by rfl)
theorem cv_X1_64 : jcwV RX1 64 RX1 yX1_gapBehind cX1_gapBehind 4 (some .int) 2 := ⟨jtb_at 710 (by decide +kernel) (by decide +kernel), jtb_at 712 (by decide +kernel) (by decide +kernel), jtb_at 22 (by decide +kernel) (by decide +kernel), jtb_at 84 (by decide +kernel) (by decide +kernel), kc_X1_gapBehind, rfl, ⟨by decide, by decide, by decide +kernel⟩⟩
set_option maxRecDepth 100000 in
theorem kc_X1_deedBit : Cond.code yX1_deedBit cX1_deedBit 1 (some .int) ∈ jtb := jtb_at 717 (by rfl) (by rfl)
theorem cs_X1_67 : jcwS RX1 67 yX1_deedBit cX1_deedBit 1 (some .int) 1 := ⟨jtb_at 715 (by decide +kernel) (by decide +kernel), jtb_at 716 (by decide +kernel) (by decide +kernel), jtb_at 84 (by decide +kernel) (by decide +kernel), kc_X1_deedBit, ⟨by decide, by decide, by decide +kernel⟩⟩
set_option maxRecDepth 100000 in
theorem kc_X1_live : Cond.code yX1_live cX1_live 3 (none) ∈ jtb := jtb_at 709 (by rfl) (by rfl)
theorem cv_X1_51 : jcwV RX1 51 RX1 yX1_live cX1_live 3 (none) 2 := ⟨jtb_at 706 (by decide +kernel) (by decide +kernel), jtb_at 708 (by decide +kernel) (by decide +kernel), jtb_at 21 (by decide +kernel) (by decide +kernel), jtb_at 84 (by decide +kernel) (by decide +kernel), kc_X1_live, rfl, ⟨by decide, by decide, by decide +kernel⟩⟩
set_option maxRecDepth 100000 in
theorem kc_X1_follow : Cond.code yX1_follow cX1_follow 4 (some .int) ∈ jtb := jtb_at 699 (by rfl) (by rfl)
theorem cv_X5_250 : jcwV RX5 250 RX1 yX1_follow cX1_follow 4 (some .int) 2 := ⟨jtb_at 696 (by decide +kernel) (by decide +kernel), jtb_at 697 (by decide +kernel) (by decide +kernel), jtb_at 698 (by decide +kernel) (by decide +kernel), jtb_at 84 (by decide +kernel) (by decide +kernel), kc_X1_follow, rfl, ⟨by decide, by decide, by decide +kernel⟩⟩
theorem fi_X5_253 : jfl RX5 253 1 RX1 TX1 7 tyX1 6 0 := ⟨cls1, by decide, jtb_at 269 (by decide +kernel) (by decide +kernel), rfl⟩
theorem cv_X1_74 : jcwV RX1 74 RX1 yX1_start cX1_start 3 (none) 2 := ⟨jtb_at 726 (by decide +kernel) (by decide +kernel), jtb_at 692 (by decide +kernel) (by decide +kernel), jtb_at 693 (by decide +kernel) (by decide +kernel), jtb_at 84 (by decide +kernel) (by decide +kernel), kc_X1_start, rfl, ⟨by decide, by decide, by decide +kernel⟩⟩
theorem fi_X1_9 : jfl RX1 9 1 RX1 TX1 7 tyX1 1 2 := ⟨cls1, by decide, jtb_at 263 (by decide +kernel) (by decide +kernel), rfl⟩
set_option maxRecDepth 100000 in
theorem kc_J7_fill_d0a16 : Cond.code yJ7_fill_d0a16 cJ7_fill_d0a16 5 (none) ∈ jtb := jtb_at 729 (by rfl) (by rfl)
theorem cs_X1_78 : jcwS RX1 78 yJ7_fill_d0a16 cJ7_fill_d0a16 5 (none) 2 := ⟨jtb_at 727 (by decide +kernel) (by decide +kernel), jtb_at 728 (by decide +kernel) (by decide +kernel), jtb_at 79 (by decide +kernel) (by decide +kernel), kc_J7_fill_d0a16, ⟨by decide, by decide, by decide +kernel⟩⟩
set_option maxRecDepth 100000 in
theorem kc_X1_pass : Cond.code yX1_pass cX1_pass 9 (none) ∈ jtb := jtb_at 737 (by rfl) (by rfl)
theorem cv_X1_87 : jcwV RX1 87 RX1 yX1_pass cX1_pass 9 (none) 4 := ⟨jtb_at 734 (by decide +kernel) (by decide +kernel), jtb_at 736 (by decide +kernel) (by decide +kernel), jtb_at 24 (by decide +kernel) (by decide +kernel), jtb_at 84 (by decide +kernel) (by decide +kernel), kc_X1_pass, rfl, ⟨by decide, by decide, by decide +kernel⟩⟩
theorem fi_X1_91 : jfl RX1 91 2 RX2 TX2 11 tyX2 0 0 := ⟨cls2, by decide, jtb_at 131 (by decide +kernel) (by decide +kernel), rfl⟩
theorem fi_X1_94 : jfl RX1 94 2 RX2 TX2 11 tyX2 9 2 := ⟨cls2, by decide, jtb_at 154 (by decide +kernel) (by decide +kernel), rfl⟩
theorem cv_X1_97 : jcwV RX1 97 RX2 yX2_isHungry cX2_isHungry 3 (some .boolean) 2 := ⟨jtb_at 738 (by decide +kernel) (by decide +kernel), jtb_at 581 (by decide +kernel) (by decide +kernel), jtb_at 582 (by decide +kernel) (by decide +kernel), jtb_at 81 (by decide +kernel) (by decide +kernel), kc_X2_isHungry, rfl, ⟨by decide, by decide, by decide +kernel⟩⟩
theorem fi_X1_100 : jfl RX1 100 2 RX2 TX2 11 tyX2 10 2 := ⟨cls2, by decide, jtb_at 156 (by decide +kernel) (by decide +kernel), rfl⟩
set_option maxRecDepth 100000 in
theorem kc_X1_spread : Cond.code yX1_spread cX1_spread 8 (none) ∈ jtb := jtb_at 733 (by rfl) (by rfl)
theorem cv_X1_84 : jcwV RX1 84 RX1 yX1_spread cX1_spread 8 (none) 2 := ⟨jtb_at 730 (by decide +kernel) (by decide +kernel), jtb_at 732 (by decide +kernel) (by decide +kernel), jtb_at 23 (by decide +kernel) (by decide +kernel), jtb_at 84 (by decide +kernel) (by decide +kernel), kc_X1_spread, rfl, ⟨by decide, by decide, by decide +kernel⟩⟩
set_option maxRecDepth 100000 in
theorem kc_X1_explore : Cond.code yX1_explore cX1_explore 5 (none) ∈ jtb := jtb_at 725 (by rfl) (by rfl)
theorem cv_X5_254 : jcwV RX5 254 RX1 yX1_explore cX1_explore 5 (none) 2 := ⟨jtb_at 722 (by decide +kernel) (by decide +kernel), jtb_at 723 (by decide +kernel) (by decide +kernel), jtb_at 724 (by decide +kernel) (by decide +kernel), jtb_at 84 (by decide +kernel) (by decide +kernel), kc_X1_explore, rfl, ⟨by decide, by decide, by decide +kernel⟩⟩
set_option maxRecDepth 100000 in
theorem kc_X1_doneBy : Cond.code yX1_doneBy cX1_doneBy 5 (some .long) ∈ jtb := jtb_at 746 (by rfl) (by rfl)
theorem cv_X1_104 : jcwV RX1 104 RX1 yX1_doneBy cX1_doneBy 5 (some .long) 1 := ⟨jtb_at 743 (by decide +kernel) (by decide +kernel), jtb_at 745 (by decide +kernel) (by decide +kernel), jtb_at 25 (by decide +kernel) (by decide +kernel), jtb_at 84 (by decide +kernel) (by decide +kernel), kc_X1_doneBy, rfl, ⟨by decide, by decide, by decide +kernel⟩⟩
set_option maxRecDepth 100000 in
theorem kc_X1_largestOf : Cond.code yX1_largestOf cX1_largestOf 3 (some .int) ∈ jtb := jtb_at 749 (by rfl) (by rfl)
theorem cs_X1_114 : jcwS RX1 114 yX1_largestOf cX1_largestOf 3 (some .int) 1 := ⟨jtb_at 747 (by decide +kernel) (by decide +kernel), jtb_at 748 (by decide +kernel) (by decide +kernel), jtb_at 84 (by decide +kernel) (by decide +kernel), kc_X1_largestOf, ⟨by decide, by decide, by decide +kernel⟩⟩
set_option maxRecDepth 100000 in
theorem kc_X1_mostDone : Cond.code yX1_mostDone cX1_mostDone 5 (some .int) ∈ jtb := jtb_at 742 (by rfl) (by rfl)
theorem cv_X5_257 : jcwV RX5 257 RX1 yX1_mostDone cX1_mostDone 5 (some .int) 1 := ⟨jtb_at 739 (by decide +kernel) (by decide +kernel), jtb_at 740 (by decide +kernel) (by decide +kernel), jtb_at 741 (by decide +kernel) (by decide +kernel), jtb_at 84 (by decide +kernel) (by decide +kernel), kc_X1_mostDone, rfl, ⟨by decide, by decide, by decide +kernel⟩⟩
theorem cs_X1_118 : jcwS RX1 118 yJ6_bitCount_0f7a4 cJ6_bitCount_0f7a4 1 (some .int) 1 := ⟨jtb_at 756 (by decide +kernel) (by decide +kernel), jtb_at 486 (by decide +kernel) (by decide +kernel), jtb_at 87 (by decide +kernel) (by decide +kernel), kc_J6_bitCount_0f7a4, ⟨by decide, by decide, by decide +kernel⟩⟩
set_option maxRecDepth 100000 in
theorem kc_X1_fewestHoursFor : Cond.code yX1_fewestHoursFor cX1_fewestHoursFor 5 (some .int) ∈ jtb := jtb_at 755 (by rfl) (by rfl)
theorem cv_X5_260 : jcwV RX5 260 RX1 yX1_fewestHoursFor cX1_fewestHoursFor 5 (some .int) 1 := ⟨jtb_at 752 (by decide +kernel) (by decide +kernel), jtb_at 753 (by decide +kernel) (by decide +kernel), jtb_at 754 (by decide +kernel) (by decide +kernel), jtb_at 84 (by decide +kernel) (by decide +kernel), kc_X1_fewestHoursFor, rfl, ⟨by decide, by decide, by decide +kernel⟩⟩
set_option maxRecDepth 100000 in
theorem kc_X1_does : Cond.code yX1_does cX1_does 3 (some .boolean) ∈ jtb := jtb_at 768 (by rfl) (by rfl)
theorem cv_X1_123 : jcwV RX1 123 RX1 yX1_does cX1_does 3 (some .boolean) 2 := ⟨jtb_at 765 (by decide +kernel) (by decide +kernel), jtb_at 766 (by decide +kernel) (by decide +kernel), jtb_at 767 (by decide +kernel) (by decide +kernel), jtb_at 84 (by decide +kernel) (by decide +kernel), kc_X1_does, rfl, ⟨by decide, by decide, by decide +kernel⟩⟩
set_option maxRecDepth 100000 in
theorem kc_X1_fewestHoursTo : Cond.code yX1_fewestHoursTo cX1_fewestHoursTo 5 (some .int) ∈ jtb := jtb_at 764 (by rfl) (by rfl)
theorem cv_X5_263 : jcwV RX5 263 RX1 yX1_fewestHoursTo cX1_fewestHoursTo 5 (some .int) 1 := ⟨jtb_at 761 (by decide +kernel) (by decide +kernel), jtb_at 762 (by decide +kernel) (by decide +kernel), jtb_at 763 (by decide +kernel) (by decide +kernel), jtb_at 84 (by decide +kernel) (by decide +kernel), kc_X1_fewestHoursTo, rfl, ⟨by decide, by decide, by decide +kernel⟩⟩
theorem fi_X1_15 : jfl RX1 15 1 RX1 TX1 7 tyX1 2 2 := ⟨cls1, by decide, jtb_at 264 (by decide +kernel) (by decide +kernel), rfl⟩
set_option maxRecDepth 100000 in
theorem kc_X1_winningBy : Cond.code yX1_winningBy cX1_winningBy 9 (some .long) ∈ jtb := jtb_at 790 (by rfl) (by rfl)
theorem cv_X1_143 : jcwV RX1 143 RX1 yX1_winningBy cX1_winningBy 9 (some .long) 3 := ⟨jtb_at 787 (by decide +kernel) (by decide +kernel), jtb_at 789 (by decide +kernel) (by decide +kernel), jtb_at 28 (by decide +kernel) (by decide +kernel), jtb_at 84 (by decide +kernel) (by decide +kernel), kc_X1_winningBy, rfl, ⟨by decide, by decide, by decide +kernel⟩⟩
set_option maxRecDepth 100000 in
theorem kc_X1_winningAhead : Cond.code yX1_winningAhead cX1_winningAhead 8 (some .long) ∈ jtb := jtb_at 786 (by rfl) (by rfl)
theorem cv_X1_139 : jcwV RX1 139 RX1 yX1_winningAhead cX1_winningAhead 8 (some .long) 2 := ⟨jtb_at 783 (by decide +kernel) (by decide +kernel), jtb_at 785 (by decide +kernel) (by decide +kernel), jtb_at 27 (by decide +kernel) (by decide +kernel), jtb_at 84 (by decide +kernel) (by decide +kernel), kc_X1_winningAhead, rfl, ⟨by decide, by decide, by decide +kernel⟩⟩
set_option maxRecDepth 100000 in
theorem kc_X1_findWinning : Cond.code yX1_findWinning cX1_findWinning 7 (none) ∈ jtb := jtb_at 782 (by rfl) (by rfl)
theorem cv_X1_126 : jcwV RX1 126 RX1 yX1_findWinning cX1_findWinning 7 (none) 2 := ⟨jtb_at 779 (by decide +kernel) (by decide +kernel), jtb_at 781 (by decide +kernel) (by decide +kernel), jtb_at 26 (by decide +kernel) (by decide +kernel), jtb_at 84 (by decide +kernel) (by decide +kernel), kc_X1_findWinning, rfl, ⟨by decide, by decide, by decide +kernel⟩⟩
theorem fi_X1_133 : jfl RX1 133 2 RX2 TX2 11 tyX2 1 0 := ⟨cls2, by decide, jtb_at 137 (by decide +kernel) (by decide +kernel), rfl⟩
set_option maxRecDepth 100000 in
theorem kc_X1_isWinning : Cond.code yX1_isWinning cX1_isWinning 4 (some .boolean) ∈ jtb := jtb_at 798 (by rfl) (by rfl)
theorem cv_X1_136 : jcwV RX1 136 RX1 yX1_isWinning cX1_isWinning 4 (some .boolean) 2 := ⟨jtb_at 795 (by decide +kernel) (by decide +kernel), jtb_at 797 (by decide +kernel) (by decide +kernel), jtb_at 30 (by decide +kernel) (by decide +kernel), jtb_at 84 (by decide +kernel) (by decide +kernel), kc_X1_isWinning, rfl, ⟨by decide, by decide, by decide +kernel⟩⟩
set_option maxRecDepth 100000 in
theorem kc_X1_writeFirstPair : Cond.code yX1_writeFirstPair cX1_writeFirstPair 6 (none) ∈ jtb := jtb_at 794 (by rfl) (by rfl)
theorem cv_X1_129 : jcwV RX1 129 RX1 yX1_writeFirstPair cX1_writeFirstPair 6 (none) 2 := ⟨jtb_at 791 (by decide +kernel) (by decide +kernel), jtb_at 793 (by decide +kernel) (by decide +kernel), jtb_at 29 (by decide +kernel) (by decide +kernel), jtb_at 84 (by decide +kernel) (by decide +kernel), kc_X1_writeFirstPair, rfl, ⟨by decide, by decide, by decide +kernel⟩⟩
set_option maxRecDepth 100000 in
theorem kc_X1_writeFirst : Cond.code yX1_writeFirst cX1_writeFirst 5 (none) ∈ jtb := jtb_at 778 (by rfl) (by rfl)
theorem cv_X5_266 : jcwV RX5 266 RX1 yX1_writeFirst cX1_writeFirst 5 (none) 3 := ⟨jtb_at 775 (by decide +kernel) (by decide +kernel), jtb_at 776 (by decide +kernel) (by decide +kernel), jtb_at 777 (by decide +kernel) (by decide +kernel), jtb_at 84 (by decide +kernel) (by decide +kernel), kc_X1_writeFirst, rfl, ⟨by decide, by decide, by decide +kernel⟩⟩
theorem cv_X5_273 : jcwV RX5 273 RX0 yX0_unopenedBits cX0_unopenedBits 1 (some .int) 0 := ⟨jtb_at 807 (by decide +kernel) (by decide +kernel), jtb_at 569 (by decide +kernel) (by decide +kernel), jtb_at 570 (by decide +kernel) (by decide +kernel), jtb_at 82 (by decide +kernel) (by decide +kernel), kc_X0_unopenedBits, rfl, ⟨by decide, by decide, by decide +kernel⟩⟩
theorem cv_X5_276 : jcwV RX5 276 RX1 yX1_does cX1_does 3 (some .boolean) 2 := ⟨jtb_at 808 (by decide +kernel) (by decide +kernel), jtb_at 766 (by decide +kernel) (by decide +kernel), jtb_at 767 (by decide +kernel) (by decide +kernel), jtb_at 84 (by decide +kernel) (by decide +kernel), kc_X1_does, rfl, ⟨by decide, by decide, by decide +kernel⟩⟩
set_option maxRecDepth 100000 in
theorem cm_X0_116 : Cond.methodLink RX0 116 Lib.Math.max.name ∈ jtb ∧ Cond.static Lib.Math.max.name ∈ jtb ∧ Cond.initialized "java/lang/Math" ∈ jtb ∧ Cond.code Lib.Math.max.name Lib.Math.max.code 2 (some .int) ∈ jtb := ⟨jtb_at 813 (by decide +kernel) (by decide +kernel), jtb_at 677 (by decide +kernel) (by decide +kernel), jtb_at 86 (by decide +kernel) (by decide +kernel), jtb_at 678 (by decide +kernel) (by decide +kernel)⟩
set_option maxRecDepth 100000 in
theorem kc_X0_dayOfAll : Cond.code yX0_dayOfAll cX0_dayOfAll 4 (some .int) ∈ jtb := jtb_at 812 (by rfl) (by rfl)
theorem cv_X5_279 : jcwV RX5 279 RX0 yX0_dayOfAll cX0_dayOfAll 4 (some .int) 1 := ⟨jtb_at 809 (by decide +kernel) (by decide +kernel), jtb_at 810 (by decide +kernel) (by decide +kernel), jtb_at 811 (by decide +kernel) (by decide +kernel), jtb_at 82 (by decide +kernel) (by decide +kernel), kc_X0_dayOfAll, rfl, ⟨by decide, by decide, by decide +kernel⟩⟩
set_option maxRecDepth 100000 in
theorem cm_X5_282 : Cond.methodLink RX5 282 Lib.Math.min.name ∈ jtb ∧ Cond.static Lib.Math.min.name ∈ jtb ∧ Cond.initialized "java/lang/Math" ∈ jtb ∧ Cond.code Lib.Math.min.name Lib.Math.min.code 2 (some .int) ∈ jtb := ⟨jtb_at 814 (by decide +kernel) (by decide +kernel), jtb_at 408 (by decide +kernel) (by decide +kernel), jtb_at 86 (by decide +kernel) (by decide +kernel), jtb_at 409 (by decide +kernel) (by decide +kernel)⟩
set_option maxRecDepth 100000 in
theorem kc_X5_diaryRefusal : Cond.code yX5_diaryRefusal cX5_diaryRefusal 5 (some .int) ∈ jtb := jtb_at 822 (by rfl) (by rfl)
theorem cv_X5_285 : jcwV RX5 285 RX5 yX5_diaryRefusal cX5_diaryRefusal 5 (some .int) 1 := ⟨jtb_at 819 (by decide +kernel) (by decide +kernel), jtb_at 821 (by decide +kernel) (by decide +kernel), jtb_at 31 (by decide +kernel) (by decide +kernel), jtb_at 77 (by decide +kernel) (by decide +kernel), kc_X5_diaryRefusal, rfl, ⟨by decide, by decide, by decide +kernel⟩⟩
set_option maxRecDepth 100000 in
theorem kc_X2_hoursAt : Cond.code yX2_hoursAt cX2_hoursAt 4 (some .int) ∈ jtb := jtb_at 830 (by rfl) (by rfl)
theorem cv_X5_291 : jcwV RX5 291 RX2 yX2_hoursAt cX2_hoursAt 4 (some .int) 1 := ⟨jtb_at 827 (by decide +kernel) (by decide +kernel), jtb_at 828 (by decide +kernel) (by decide +kernel), jtb_at 829 (by decide +kernel) (by decide +kernel), jtb_at 81 (by decide +kernel) (by decide +kernel), kc_X2_hoursAt, rfl, ⟨by decide, by decide, by decide +kernel⟩⟩
set_option maxRecDepth 100000 in
theorem kc_X5_hoursLeftFor : Cond.code yX5_hoursLeftFor cX5_hoursLeftFor 5 (some .int) ∈ jtb := jtb_at 826 (by rfl) (by rfl)
theorem cv_X5_288 : jcwV RX5 288 RX5 yX5_hoursLeftFor cX5_hoursLeftFor 5 (some .int) 2 := ⟨jtb_at 823 (by decide +kernel) (by decide +kernel), jtb_at 825 (by decide +kernel) (by decide +kernel), jtb_at 32 (by decide +kernel) (by decide +kernel), jtb_at 77 (by decide +kernel) (by decide +kernel), kc_X5_hoursLeftFor, rfl, ⟨by decide, by decide, by decide +kernel⟩⟩
theorem cv_X5_294 : jcwV RX5 294 RX0 yX0_comeBits cX0_comeBits 4 (some .int) 1 := ⟨jtb_at 839 (by decide +kernel) (by decide +kernel), jtb_at 565 (by decide +kernel) (by decide +kernel), jtb_at 566 (by decide +kernel) (by decide +kernel), jtb_at 82 (by decide +kernel) (by decide +kernel), kc_X0_comeBits, rfl, ⟨by decide, by decide, by decide +kernel⟩⟩
set_option maxRecDepth 100000 in
theorem kc_X1_setsEnoughFor : Cond.code yX1_setsEnoughFor cX1_setsEnoughFor 4 (some .int) ∈ jtb := jtb_at 847 (by rfl) (by rfl)
theorem cv_X5_297 : jcwV RX5 297 RX1 yX1_setsEnoughFor cX1_setsEnoughFor 4 (some .int) 1 := ⟨jtb_at 844 (by decide +kernel) (by decide +kernel), jtb_at 845 (by decide +kernel) (by decide +kernel), jtb_at 846 (by decide +kernel) (by decide +kernel), jtb_at 84 (by decide +kernel) (by decide +kernel), kc_X1_setsEnoughFor, rfl, ⟨by decide, by decide, by decide +kernel⟩⟩
theorem ck_X5_300 : Cond.constantLong RX5 300 (2) ∈ jtb := jtb_at 848 (by decide +kernel) (by decide +kernel)
theorem fi_X5_70 : jfl RX5 70 5 RX5 TX5 13 tyX5 11 1 := ⟨cls5, by decide, jtb_at 297 (by decide +kernel) (by decide +kernel), rfl⟩
theorem fp_X5_70 : jfp RX5 70 5 RX5 TX5 13 tyX5 11 1 (.long) := ⟨fi_X5_70, rfl, rfl⟩
theorem fi_X5_74 : jfl RX5 74 5 RX5 TX5 13 tyX5 12 1 := ⟨cls5, by decide, jtb_at 298 (by decide +kernel) (by decide +kernel), rfl⟩
theorem fp_X5_74 : jfp RX5 74 5 RX5 TX5 13 tyX5 12 1 (.long) := ⟨fi_X5_74, rfl, rfl⟩
theorem ck_X5_302 : Cond.constant RX5 302 (2147483646) ∈ jtb := jtb_at 853 (by decide +kernel) (by decide +kernel)
theorem ck_X5_303 : Cond.constantLong RX5 303 (48271) ∈ jtb := jtb_at 854 (by decide +kernel) (by decide +kernel)
theorem ck_X5_305 : Cond.constantLong RX5 305 (2147483647) ∈ jtb := jtb_at 855 (by decide +kernel) (by decide +kernel)
set_option maxRecDepth 100000 in
theorem kc_X5_nthOf : Cond.code yX5_nthOf cX5_nthOf 4 (some .int) ∈ jtb := jtb_at 862 (by rfl) (by rfl)
theorem cs_X5_337 : jcwS RX5 337 yX5_nthOf cX5_nthOf 4 (some .int) 2 := ⟨jtb_at 860 (by decide +kernel) (by decide +kernel), jtb_at 861 (by decide +kernel) (by decide +kernel), jtb_at 77 (by decide +kernel) (by decide +kernel), kc_X5_nthOf, ⟨by decide, by decide, by decide +kernel⟩⟩
set_option maxRecDepth 100000 in
theorem kc_X5_liveByLot : Cond.code yX5_liveByLot cX5_liveByLot 7 (none) ∈ jtb := jtb_at 859 (by rfl) (by rfl)
theorem cv_X5_307 : jcwV RX5 307 RX5 yX5_liveByLot cX5_liveByLot 7 (none) 1 := ⟨jtb_at 856 (by decide +kernel) (by decide +kernel), jtb_at 858 (by decide +kernel) (by decide +kernel), jtb_at 33 (by decide +kernel) (by decide +kernel), jtb_at 77 (by decide +kernel) (by decide +kernel), kc_X5_liveByLot, rfl, ⟨by decide, by decide, by decide +kernel⟩⟩
theorem fi_X5_340 : jfl RX5 340 0 RX0 TX0 12 tyX0 8 0 := ⟨cls0, by decide, jtb_at 222 (by decide +kernel) (by decide +kernel), rfl⟩
set_option maxRecDepth 100000 in
theorem kc_X2_meals : Cond.code yX2_meals cX2_meals 3 (some .int) ∈ jtb := jtb_at 886 (by rfl) (by rfl)
theorem cv_X5_343 : jcwV RX5 343 RX2 yX2_meals cX2_meals 3 (some .int) 0 := ⟨jtb_at 883 (by decide +kernel) (by decide +kernel), jtb_at 884 (by decide +kernel) (by decide +kernel), jtb_at 885 (by decide +kernel) (by decide +kernel), jtb_at 81 (by decide +kernel) (by decide +kernel), kc_X2_meals, rfl, ⟨by decide, by decide, by decide +kernel⟩⟩
theorem cv_X4_26 : jcwV RX4 26 RX4 yX4_isThere cX4_isThere 2 (some .boolean) 1 := ⟨jtb_at 891 (by decide +kernel) (by decide +kernel), jtb_at 355 (by decide +kernel) (by decide +kernel), jtb_at 356 (by decide +kernel) (by decide +kernel), jtb_at 78 (by decide +kernel) (by decide +kernel), kc_X4_isThere, rfl, ⟨by decide, by decide, by decide +kernel⟩⟩
set_option maxRecDepth 100000 in
theorem kc_X4_present : Cond.code yX4_present cX4_present 3 (some .int) ∈ jtb := jtb_at 890 (by rfl) (by rfl)
theorem cv_X5_346 : jcwV RX5 346 RX4 yX4_present cX4_present 3 (some .int) 0 := ⟨jtb_at 887 (by decide +kernel) (by decide +kernel), jtb_at 888 (by decide +kernel) (by decide +kernel), jtb_at 889 (by decide +kernel) (by decide +kernel), jtb_at 78 (by decide +kernel) (by decide +kernel), kc_X4_present, rfl, ⟨by decide, by decide, by decide +kernel⟩⟩
set_option maxRecDepth 100000 in
theorem kc_X5_keptHouses : Cond.code yX5_keptHouses cX5_keptHouses 3 (some .int) ∈ jtb := jtb_at 895 (by rfl) (by rfl)
theorem cv_X5_349 : jcwV RX5 349 RX5 yX5_keptHouses cX5_keptHouses 3 (some .int) 0 := ⟨jtb_at 892 (by decide +kernel) (by decide +kernel), jtb_at 894 (by decide +kernel) (by decide +kernel), jtb_at 35 (by decide +kernel) (by decide +kernel), jtb_at 77 (by decide +kernel) (by decide +kernel), kc_X5_keptHouses, rfl, ⟨by decide, by decide, by decide +kernel⟩⟩
set_option maxRecDepth 100000 in
theorem kc_X5_countOf : Cond.code yX5_countOf cX5_countOf 2 (some .int) ∈ jtb := jtb_at 882 (by rfl) (by rfl)
theorem cv_X5_311 : jcwV RX5 311 RX5 yX5_countOf cX5_countOf 2 (some .int) 1 := ⟨jtb_at 879 (by decide +kernel) (by decide +kernel), jtb_at 881 (by decide +kernel) (by decide +kernel), jtb_at 34 (by decide +kernel) (by decide +kernel), jtb_at 77 (by decide +kernel) (by decide +kernel), kc_X5_countOf, rfl, ⟨by decide, by decide, by decide +kernel⟩⟩
theorem ck_X5_314 : Cond.constantLong RX5 314 (17) ∈ jtb := jtb_at 908 (by decide +kernel) (by decide +kernel)
theorem ck_X5_316 : Cond.constantLong RX5 316 (31) ∈ jtb := jtb_at 909 (by decide +kernel) (by decide +kernel)
theorem ck_X4_30 : Cond.constantLong RX4 30 (31) ∈ jtb := jtb_at 914 (by decide +kernel) (by decide +kernel)
set_option maxRecDepth 100000 in
theorem kc_X4_digestOnFrom : Cond.code yX4_digestOnFrom cX4_digestOnFrom 7 (some .long) ∈ jtb := jtb_at 913 (by rfl) (by rfl)
theorem cv_X5_318 : jcwV RX5 318 RX4 yX4_digestOnFrom cX4_digestOnFrom 7 (some .long) 1 := ⟨jtb_at 910 (by decide +kernel) (by decide +kernel), jtb_at 911 (by decide +kernel) (by decide +kernel), jtb_at 912 (by decide +kernel) (by decide +kernel), jtb_at 78 (by decide +kernel) (by decide +kernel), kc_X4_digestOnFrom, rfl, ⟨by decide, by decide, by decide +kernel⟩⟩
theorem fi_X6_40 : jfl RX6 40 6 RX6 TX6 33 tyX6 12 2 := ⟨cls6, by decide, jtb_at 937 (by decide +kernel) (by decide +kernel), rfl⟩
theorem fi_X6_84 : jfl RX6 84 6 RX6 TX6 33 tyX6 19 0 := ⟨cls6, by decide, jtb_at 944 (by decide +kernel) (by decide +kernel), rfl⟩
theorem fp_X6_84 : jfp RX6 84 6 RX6 TX6 33 tyX6 19 0 (.int) := ⟨fi_X6_84, rfl, rfl⟩
theorem fi_X6_53 : jfl RX6 53 6 RX6 TX6 33 tyX6 20 2 := ⟨cls6, by decide, jtb_at 945 (by decide +kernel) (by decide +kernel), rfl⟩
theorem fi_X6_88 : jfl RX6 88 6 RX6 TX6 33 tyX6 16 0 := ⟨cls6, by decide, jtb_at 941 (by decide +kernel) (by decide +kernel), rfl⟩
theorem fp_X6_88 : jfp RX6 88 6 RX6 TX6 33 tyX6 16 0 (.int) := ⟨fi_X6_88, rfl, rfl⟩
theorem ck_X6_91 : Cond.constantLong RX6 91 (5) ∈ jtb := jtb_at 1032 (by decide +kernel) (by decide +kernel)
set_option maxRecDepth 100000 in
theorem kc_X6_in : Cond.code yX6_in cX6_in 6 (some .boolean) ∈ jtb := jtb_at 1035 (by rfl) (by rfl)
theorem cs_X6_93 : jcwS RX6 93 yX6_in cX6_in 6 (some .boolean) 3 := ⟨jtb_at 1033 (by decide +kernel) (by decide +kernel), jtb_at 1034 (by decide +kernel) (by decide +kernel), jtb_at 85 (by decide +kernel) (by decide +kernel), kc_X6_in, ⟨by decide, by decide, by decide +kernel⟩⟩
set_option maxRecDepth 100000 in
theorem kc_X6_isRow : Cond.code yX6_isRow cX6_isRow 1 (some .boolean) ∈ jtb := jtb_at 1031 (by rfl) (by rfl)
theorem cs_X6_99 : jcwS RX6 99 yX6_isRow cX6_isRow 1 (some .boolean) 1 := ⟨jtb_at 1029 (by decide +kernel) (by decide +kernel), jtb_at 1030 (by decide +kernel) (by decide +kernel), jtb_at 85 (by decide +kernel) (by decide +kernel), kc_X6_isRow, ⟨by decide, by decide, by decide +kernel⟩⟩
theorem fi_X6_7 : jfl RX6 7 6 RX6 TX6 33 tyX6 0 2 := ⟨cls6, by decide, jtb_at 925 (by decide +kernel) (by decide +kernel), rfl⟩
theorem fi_X6_13 : jfl RX6 13 6 RX6 TX6 33 tyX6 1 2 := ⟨cls6, by decide, jtb_at 926 (by decide +kernel) (by decide +kernel), rfl⟩
set_option maxRecDepth 100000 in
theorem kc_X6_find : Cond.code yX6_find cX6_find 2 (some .int) ∈ jtb := jtb_at 1039 (by rfl) (by rfl)
theorem cv_X6_103 : jcwV RX6 103 RX6 yX6_find cX6_find 2 (some .int) 1 := ⟨jtb_at 1036 (by decide +kernel) (by decide +kernel), jtb_at 1038 (by decide +kernel) (by decide +kernel), jtb_at 37 (by decide +kernel) (by decide +kernel), jtb_at 85 (by decide +kernel) (by decide +kernel), kc_X6_find, rfl, ⟨by decide, by decide, by decide +kernel⟩⟩
set_option maxRecDepth 100000 in
theorem kc_X6_lacksPlace : Cond.code yX6_lacksPlace cX6_lacksPlace 3 (some .int) ∈ jtb := jtb_at 1047 (by rfl) (by rfl)
theorem cv_X6_107 : jcwV RX6 107 RX6 yX6_lacksPlace cX6_lacksPlace 3 (some .int) 2 := ⟨jtb_at 1044 (by decide +kernel) (by decide +kernel), jtb_at 1046 (by decide +kernel) (by decide +kernel), jtb_at 38 (by decide +kernel) (by decide +kernel), jtb_at 85 (by decide +kernel) (by decide +kernel), kc_X6_lacksPlace, rfl, ⟨by decide, by decide, by decide +kernel⟩⟩
set_option maxRecDepth 100000 in
theorem kc_X6_answer : Cond.code yX6_answer cX6_answer 3 (some .int) ∈ jtb := jtb_at 1051 (by rfl) (by rfl)
theorem cv_X6_111 : jcwV RX6 111 RX6 yX6_answer cX6_answer 3 (some .int) 2 := ⟨jtb_at 1048 (by decide +kernel) (by decide +kernel), jtb_at 1050 (by decide +kernel) (by decide +kernel), jtb_at 39 (by decide +kernel) (by decide +kernel), jtb_at 85 (by decide +kernel) (by decide +kernel), kc_X6_answer, rfl, ⟨by decide, by decide, by decide +kernel⟩⟩
theorem fi_X6_56 : jfl RX6 56 6 RX6 TX6 33 tyX6 21 2 := ⟨cls6, by decide, jtb_at 946 (by decide +kernel) (by decide +kernel), rfl⟩
theorem ck_X6_97 : Cond.constantLong RX6 97 (3) ∈ jtb := jtb_at 1075 (by decide +kernel) (by decide +kernel)
set_option maxRecDepth 100000 in
theorem kc_X6_isText : Cond.code yX6_isText cX6_isText 1 (some .boolean) ∈ jtb := jtb_at 1074 (by rfl) (by rfl)
theorem cs_X6_114 : jcwS RX6 114 yX6_isText cX6_isText 1 (some .boolean) 1 := ⟨jtb_at 1072 (by decide +kernel) (by decide +kernel), jtb_at 1073 (by decide +kernel) (by decide +kernel), jtb_at 85 (by decide +kernel) (by decide +kernel), kc_X6_isText, ⟨by decide, by decide, by decide +kernel⟩⟩
theorem fi_X6_16 : jfl RX6 16 6 RX6 TX6 33 tyX6 2 2 := ⟨cls6, by decide, jtb_at 927 (by decide +kernel) (by decide +kernel), rfl⟩
theorem fi_X6_19 : jfl RX6 19 6 RX6 TX6 33 tyX6 3 2 := ⟨cls6, by decide, jtb_at 928 (by decide +kernel) (by decide +kernel), rfl⟩
theorem fi_X6_117 : jfl RX6 117 6 RX6 TX6 33 tyX6 22 0 := ⟨cls6, by decide, jtb_at 947 (by decide +kernel) (by decide +kernel), rfl⟩
set_option maxRecDepth 100000 in
theorem kc_X6_isEnd : Cond.code yX6_isEnd cX6_isEnd 2 (some .boolean) ∈ jtb := jtb_at 1095 (by rfl) (by rfl)
theorem cv_X6_120 : jcwV RX6 120 RX6 yX6_isEnd cX6_isEnd 2 (some .boolean) 1 := ⟨jtb_at 1092 (by decide +kernel) (by decide +kernel), jtb_at 1094 (by decide +kernel) (by decide +kernel), jtb_at 42 (by decide +kernel) (by decide +kernel), jtb_at 85 (by decide +kernel) (by decide +kernel), kc_X6_isEnd, rfl, ⟨by decide, by decide, by decide +kernel⟩⟩
set_option maxRecDepth 100000 in
theorem kc_X6_byteAt : Cond.code yX6_byteAt cX6_byteAt 2 (some .int) ∈ jtb := jtb_at 1099 (by rfl) (by rfl)
theorem cv_X6_123 : jcwV RX6 123 RX6 yX6_byteAt cX6_byteAt 2 (some .int) 1 := ⟨jtb_at 1096 (by decide +kernel) (by decide +kernel), jtb_at 1098 (by decide +kernel) (by decide +kernel), jtb_at 43 (by decide +kernel) (by decide +kernel), jtb_at 85 (by decide +kernel) (by decide +kernel), kc_X6_byteAt, rfl, ⟨by decide, by decide, by decide +kernel⟩⟩
theorem fp_X6_117 : jfp RX6 117 6 RX6 TX6 33 tyX6 22 0 (.int) := ⟨fi_X6_117, rfl, rfl⟩
theorem fi_X6_126 : jfl RX6 126 6 RX6 TX6 33 tyX6 24 0 := ⟨cls6, by decide, jtb_at 949 (by decide +kernel) (by decide +kernel), rfl⟩
theorem fi_X6_129 : jfl RX6 129 6 RX6 TX6 33 tyX6 26 0 := ⟨cls6, by decide, jtb_at 951 (by decide +kernel) (by decide +kernel), rfl⟩
set_option maxRecDepth 100000 in
theorem kc_X6_sign : Cond.code yX6_sign cX6_sign 5 (some .int) ∈ jtb := jtb_at 1110 (by rfl) (by rfl)
theorem cv_X6_132 : jcwV RX6 132 RX6 yX6_sign cX6_sign 5 (some .int) 3 := ⟨jtb_at 1107 (by decide +kernel) (by decide +kernel), jtb_at 1109 (by decide +kernel) (by decide +kernel), jtb_at 45 (by decide +kernel) (by decide +kernel), jtb_at 85 (by decide +kernel) (by decide +kernel), kc_X6_sign, rfl, ⟨by decide, by decide, by decide +kernel⟩⟩
set_option maxRecDepth 100000 in
theorem kc_X6_has : Cond.code yX6_has cX6_has 2 (some .boolean) ∈ jtb := jtb_at 1113 (by rfl) (by rfl)
theorem cs_X6_136 : jcwS RX6 136 yX6_has cX6_has 2 (some .boolean) 2 := ⟨jtb_at 1111 (by decide +kernel) (by decide +kernel), jtb_at 1112 (by decide +kernel) (by decide +kernel), jtb_at 85 (by decide +kernel) (by decide +kernel), kc_X6_has, ⟨by decide, by decide, by decide +kernel⟩⟩
theorem fi_X6_59 : jfl RX6 59 6 RX6 TX6 33 tyX6 23 2 := ⟨cls6, by decide, jtb_at 948 (by decide +kernel) (by decide +kernel), rfl⟩
theorem fp_X6_126 : jfp RX6 126 6 RX6 TX6 33 tyX6 24 0 (.int) := ⟨fi_X6_126, rfl, rfl⟩
theorem fi_X6_62 : jfl RX6 62 6 RX6 TX6 33 tyX6 25 2 := ⟨cls6, by decide, jtb_at 950 (by decide +kernel) (by decide +kernel), rfl⟩
theorem fp_X6_129 : jfp RX6 129 6 RX6 TX6 33 tyX6 26 0 (.int) := ⟨fi_X6_129, rfl, rfl⟩
set_option maxRecDepth 100000 in
theorem kc_X6_skipBlanks : Cond.code yX6_skipBlanks cX6_skipBlanks 2 (none) ∈ jtb := jtb_at 1091 (by rfl) (by rfl)
theorem cv_X6_140 : jcwV RX6 140 RX6 yX6_skipBlanks cX6_skipBlanks 2 (none) 1 := ⟨jtb_at 1088 (by decide +kernel) (by decide +kernel), jtb_at 1090 (by decide +kernel) (by decide +kernel), jtb_at 41 (by decide +kernel) (by decide +kernel), jtb_at 85 (by decide +kernel) (by decide +kernel), kc_X6_skipBlanks, rfl, ⟨by decide, by decide, by decide +kernel⟩⟩
set_option maxRecDepth 100000 in
theorem kc_X6_kindBy : Cond.code yX6_kindBy cX6_kindBy 1 (some .int) ∈ jtb := jtb_at 1102 (by rfl) (by rfl)
theorem cs_X6_144 : jcwS RX6 144 yX6_kindBy cX6_kindBy 1 (some .int) 1 := ⟨jtb_at 1100 (by decide +kernel) (by decide +kernel), jtb_at 1101 (by decide +kernel) (by decide +kernel), jtb_at 85 (by decide +kernel) (by decide +kernel), kc_X6_kindBy, ⟨by decide, by decide, by decide +kernel⟩⟩
set_option maxRecDepth 100000 in
theorem kc_X6_readHour : Cond.code yX6_readHour cX6_readHour 5 (some .boolean) ∈ jtb := jtb_at 1117 (by rfl) (by rfl)
theorem cv_X6_150 : jcwV RX6 150 RX6 yX6_readHour cX6_readHour 5 (some .boolean) 1 := ⟨jtb_at 1114 (by decide +kernel) (by decide +kernel), jtb_at 1116 (by decide +kernel) (by decide +kernel), jtb_at 46 (by decide +kernel) (by decide +kernel), jtb_at 85 (by decide +kernel) (by decide +kernel), kc_X6_readHour, rfl, ⟨by decide, by decide, by decide +kernel⟩⟩
set_option maxRecDepth 100000 in
theorem kc_X6_readDeed : Cond.code yX6_readDeed cX6_readDeed 9 (some .boolean) ∈ jtb := jtb_at 1106 (by rfl) (by rfl)
theorem cv_X6_147 : jcwV RX6 147 RX6 yX6_readDeed cX6_readDeed 9 (some .boolean) 2 := ⟨jtb_at 1103 (by decide +kernel) (by decide +kernel), jtb_at 1105 (by decide +kernel) (by decide +kernel), jtb_at 44 (by decide +kernel) (by decide +kernel), jtb_at 85 (by decide +kernel) (by decide +kernel), kc_X6_readDeed, rfl, ⟨by decide, by decide, by decide +kernel⟩⟩
set_option maxRecDepth 100000 in
theorem kc_X6_readHouse : Cond.code yX6_readHouse cX6_readHouse 5 (some .boolean) ∈ jtb := jtb_at 1087 (by rfl) (by rfl)
theorem cv_X6_153 : jcwV RX6 153 RX6 yX6_readHouse cX6_readHouse 5 (some .boolean) 1 := ⟨jtb_at 1084 (by decide +kernel) (by decide +kernel), jtb_at 1086 (by decide +kernel) (by decide +kernel), jtb_at 40 (by decide +kernel) (by decide +kernel), jtb_at 85 (by decide +kernel) (by decide +kernel), kc_X6_readHouse, rfl, ⟨by decide, by decide, by decide +kernel⟩⟩
theorem fi_X6_156 : jfl RX6 156 6 RX6 TX6 33 tyX6 7 0 := ⟨cls6, by decide, jtb_at 932 (by decide +kernel) (by decide +kernel), rfl⟩
theorem fp_X6_156 : jfp RX6 156 6 RX6 TX6 33 tyX6 7 0 (.int) := ⟨fi_X6_156, rfl, rfl⟩
theorem fi_X6_159 : jfl RX6 159 6 RX6 TX6 33 tyX6 11 0 := ⟨cls6, by decide, jtb_at 936 (by decide +kernel) (by decide +kernel), rfl⟩
theorem fp_X6_159 : jfp RX6 159 6 RX6 TX6 33 tyX6 11 0 (.int) := ⟨fi_X6_159, rfl, rfl⟩
theorem fi_X6_22 : jfl RX6 22 6 RX6 TX6 33 tyX6 4 2 := ⟨cls6, by decide, jtb_at 929 (by decide +kernel) (by decide +kernel), rfl⟩
theorem fi_X6_25 : jfl RX6 25 6 RX6 TX6 33 tyX6 5 2 := ⟨cls6, by decide, jtb_at 930 (by decide +kernel) (by decide +kernel), rfl⟩
theorem fi_X6_28 : jfl RX6 28 6 RX6 TX6 33 tyX6 6 2 := ⟨cls6, by decide, jtb_at 931 (by decide +kernel) (by decide +kernel), rfl⟩
theorem fi_X6_31 : jfl RX6 31 6 RX6 TX6 33 tyX6 8 2 := ⟨cls6, by decide, jtb_at 933 (by decide +kernel) (by decide +kernel), rfl⟩
theorem fi_X6_34 : jfl RX6 34 6 RX6 TX6 33 tyX6 9 2 := ⟨cls6, by decide, jtb_at 934 (by decide +kernel) (by decide +kernel), rfl⟩
theorem fi_X6_37 : jfl RX6 37 6 RX6 TX6 33 tyX6 10 2 := ⟨cls6, by decide, jtb_at 935 (by decide +kernel) (by decide +kernel), rfl⟩
set_option maxRecDepth 100000 in
theorem kc_X6_newRoutes : Cond.code yX6_newRoutes cX6_newRoutes 1 (none) ∈ jtb := jtb_at 924 (by rfl) (by rfl)
theorem cv_X6_81 : jcwV RX6 81 RX6 yX6_newRoutes cX6_newRoutes 1 (none) 0 := ⟨jtb_at 921 (by decide +kernel) (by decide +kernel), jtb_at 923 (by decide +kernel) (by decide +kernel), jtb_at 36 (by decide +kernel) (by decide +kernel), jtb_at 85 (by decide +kernel) (by decide +kernel), kc_X6_newRoutes, rfl, ⟨by decide, by decide, by decide +kernel⟩⟩
theorem fi_X6_43 : jfl RX6 43 6 RX6 TX6 33 tyX6 13 2 := ⟨cls6, by decide, jtb_at 938 (by decide +kernel) (by decide +kernel), rfl⟩
theorem fi_X6_162 : jfl RX6 162 6 RX6 TX6 33 tyX6 15 0 := ⟨cls6, by decide, jtb_at 940 (by decide +kernel) (by decide +kernel), rfl⟩
theorem fp_X6_162 : jfp RX6 162 6 RX6 TX6 33 tyX6 15 0 (.int) := ⟨fi_X6_162, rfl, rfl⟩
theorem fi_X6_65 : jfl RX6 65 6 RX6 TX6 33 tyX6 27 2 := ⟨cls6, by decide, jtb_at 952 (by decide +kernel) (by decide +kernel), rfl⟩
set_option maxRecDepth 100000 in
theorem kc_X6_allNeeds : Cond.code yX6_allNeeds cX6_allNeeds 4 (some .int) ∈ jtb := jtb_at 1138 (by rfl) (by rfl)
theorem cv_X6_165 : jcwV RX6 165 RX6 yX6_allNeeds cX6_allNeeds 4 (some .int) 1 := ⟨jtb_at 1135 (by decide +kernel) (by decide +kernel), jtb_at 1137 (by decide +kernel) (by decide +kernel), jtb_at 49 (by decide +kernel) (by decide +kernel), jtb_at 85 (by decide +kernel) (by decide +kernel), kc_X6_allNeeds, rfl, ⟨by decide, by decide, by decide +kernel⟩⟩
set_option maxRecDepth 100000 in
theorem kc_X6_isDeed : Cond.code yX6_isDeed cX6_isDeed 2 (some .boolean) ∈ jtb := jtb_at 1129 (by rfl) (by rfl)
theorem cv_X6_168 : jcwV RX6 168 RX6 yX6_isDeed cX6_isDeed 2 (some .boolean) 1 := ⟨jtb_at 1126 (by decide +kernel) (by decide +kernel), jtb_at 1128 (by decide +kernel) (by decide +kernel), jtb_at 47 (by decide +kernel) (by decide +kernel), jtb_at 85 (by decide +kernel) (by decide +kernel), kc_X6_isDeed, rfl, ⟨by decide, by decide, by decide +kernel⟩⟩
theorem ck_X6_171 : Cond.constantLong RX6 171 (4) ∈ jtb := jtb_at 1130 (by decide +kernel) (by decide +kernel)
set_option maxRecDepth 100000 in
theorem kc_X6_deedOf : Cond.code yX6_deedOf cX6_deedOf 3 (some .int) ∈ jtb := jtb_at 1134 (by rfl) (by rfl)
theorem cv_X6_173 : jcwV RX6 173 RX6 yX6_deedOf cX6_deedOf 3 (some .int) 2 := ⟨jtb_at 1131 (by decide +kernel) (by decide +kernel), jtb_at 1133 (by decide +kernel) (by decide +kernel), jtb_at 48 (by decide +kernel) (by decide +kernel), jtb_at 85 (by decide +kernel) (by decide +kernel), kc_X6_deedOf, rfl, ⟨by decide, by decide, by decide +kernel⟩⟩
theorem ck_X6_176 : Cond.constantLong RX6 176 (6) ∈ jtb := jtb_at 1155 (by decide +kernel) (by decide +kernel)
theorem ck_X6_178 : Cond.constantLong RX6 178 (17) ∈ jtb := jtb_at 1156 (by decide +kernel) (by decide +kernel)
set_option maxRecDepth 100000 in
theorem kc_X6_comes : Cond.code yX6_comes cX6_comes 2 (some .int) ∈ jtb := jtb_at 1160 (by rfl) (by rfl)
theorem cv_X6_180 : jcwV RX6 180 RX6 yX6_comes cX6_comes 2 (some .int) 1 := ⟨jtb_at 1157 (by decide +kernel) (by decide +kernel), jtb_at 1159 (by decide +kernel) (by decide +kernel), jtb_at 53 (by decide +kernel) (by decide +kernel), jtb_at 85 (by decide +kernel) (by decide +kernel), kc_X6_comes, rfl, ⟨by decide, by decide, by decide +kernel⟩⟩
set_option maxRecDepth 100000 in
theorem kc_X6_whereIs : Cond.code yX6_whereIs cX6_whereIs 2 (some .int) ∈ jtb := jtb_at 1164 (by rfl) (by rfl)
theorem cv_X6_186 : jcwV RX6 186 RX6 yX6_whereIs cX6_whereIs 2 (some .int) 1 := ⟨jtb_at 1161 (by decide +kernel) (by decide +kernel), jtb_at 1163 (by decide +kernel) (by decide +kernel), jtb_at 54 (by decide +kernel) (by decide +kernel), jtb_at 85 (by decide +kernel) (by decide +kernel), kc_X6_whereIs, rfl, ⟨by decide, by decide, by decide +kernel⟩⟩
set_option maxRecDepth 100000 in
theorem kc_X6_isNight : Cond.code yX6_isNight cX6_isNight 2 (some .boolean) ∈ jtb := jtb_at 1154 (by rfl) (by rfl)
theorem cv_X6_183 : jcwV RX6 183 RX6 yX6_isNight cX6_isNight 2 (some .boolean) 1 := ⟨jtb_at 1151 (by decide +kernel) (by decide +kernel), jtb_at 1153 (by decide +kernel) (by decide +kernel), jtb_at 52 (by decide +kernel) (by decide +kernel), jtb_at 85 (by decide +kernel) (by decide +kernel), kc_X6_isNight, rfl, ⟨by decide, by decide, by decide +kernel⟩⟩
set_option maxRecDepth 100000 in
theorem kc_X6_isHour : Cond.code yX6_isHour cX6_isHour 2 (some .boolean) ∈ jtb := jtb_at 1146 (by rfl) (by rfl)
theorem cv_X6_189 : jcwV RX6 189 RX6 yX6_isHour cX6_isHour 2 (some .boolean) 1 := ⟨jtb_at 1143 (by decide +kernel) (by decide +kernel), jtb_at 1145 (by decide +kernel) (by decide +kernel), jtb_at 50 (by decide +kernel) (by decide +kernel), jtb_at 85 (by decide +kernel) (by decide +kernel), kc_X6_isHour, rfl, ⟨by decide, by decide, by decide +kernel⟩⟩
set_option maxRecDepth 100000 in
theorem kc_X6_hourOf : Cond.code yX6_hourOf cX6_hourOf 3 (some .int) ∈ jtb := jtb_at 1150 (by rfl) (by rfl)
theorem cv_X6_192 : jcwV RX6 192 RX6 yX6_hourOf cX6_hourOf 3 (some .int) 2 := ⟨jtb_at 1147 (by decide +kernel) (by decide +kernel), jtb_at 1149 (by decide +kernel) (by decide +kernel), jtb_at 51 (by decide +kernel) (by decide +kernel), jtb_at 85 (by decide +kernel) (by decide +kernel), kc_X6_hourOf, rfl, ⟨by decide, by decide, by decide +kernel⟩⟩
set_option maxRecDepth 100000 in
theorem kc_X6_isKind : Cond.code yX6_isKind cX6_isKind 2 (some .boolean) ∈ jtb := jtb_at 1171 (by rfl) (by rfl)
theorem cs_X6_195 : jcwS RX6 195 yX6_isKind cX6_isKind 2 (some .boolean) 2 := ⟨jtb_at 1169 (by decide +kernel) (by decide +kernel), jtb_at 1170 (by decide +kernel) (by decide +kernel), jtb_at 85 (by decide +kernel) (by decide +kernel), kc_X6_isKind, ⟨by decide, by decide, by decide +kernel⟩⟩
set_option maxRecDepth 100000 in
theorem kc_X6_ones : Cond.code yX6_ones cX6_ones 3 (some .int) ∈ jtb := jtb_at 1195 (by rfl) (by rfl)
theorem cs_X6_200 : jcwS RX6 200 yX6_ones cX6_ones 3 (some .int) 1 := ⟨jtb_at 1193 (by decide +kernel) (by decide +kernel), jtb_at 1194 (by decide +kernel) (by decide +kernel), jtb_at 85 (by decide +kernel) (by decide +kernel), kc_X6_ones, ⟨by decide, by decide, by decide +kernel⟩⟩
theorem ck_X6_198 : Cond.constantLong RX6 198 (19) ∈ jtb := jtb_at 1192 (by decide +kernel) (by decide +kernel)
set_option maxRecDepth 100000 in
theorem kc_X6_isLight : Cond.code yX6_isLight cX6_isLight 3 (some .boolean) ∈ jtb := jtb_at 1187 (by rfl) (by rfl)
theorem cv_X6_203 : jcwV RX6 203 RX6 yX6_isLight cX6_isLight 3 (some .boolean) 2 := ⟨jtb_at 1184 (by decide +kernel) (by decide +kernel), jtb_at 1186 (by decide +kernel) (by decide +kernel), jtb_at 58 (by decide +kernel) (by decide +kernel), jtb_at 85 (by decide +kernel) (by decide +kernel), kc_X6_isLight, rfl, ⟨by decide, by decide, by decide +kernel⟩⟩
set_option maxRecDepth 100000 in
theorem kc_X6_isAsKind : Cond.code yX6_isAsKind cX6_isAsKind 6 (some .boolean) ∈ jtb := jtb_at 1191 (by rfl) (by rfl)
theorem cv_X6_206 : jcwV RX6 206 RX6 yX6_isAsKind cX6_isAsKind 6 (some .boolean) 4 := ⟨jtb_at 1188 (by decide +kernel) (by decide +kernel), jtb_at 1190 (by decide +kernel) (by decide +kernel), jtb_at 59 (by decide +kernel) (by decide +kernel), jtb_at 85 (by decide +kernel) (by decide +kernel), kc_X6_isAsKind, rfl, ⟨by decide, by decide, by decide +kernel⟩⟩
set_option maxRecDepth 100000 in
theorem kc_X6_canBe : Cond.code yX6_canBe cX6_canBe 5 (some .boolean) ∈ jtb := jtb_at 1183 (by rfl) (by rfl)
theorem cv_X6_210 : jcwV RX6 210 RX6 yX6_canBe cX6_canBe 5 (some .boolean) 4 := ⟨jtb_at 1180 (by decide +kernel) (by decide +kernel), jtb_at 1182 (by decide +kernel) (by decide +kernel), jtb_at 57 (by decide +kernel) (by decide +kernel), jtb_at 85 (by decide +kernel) (by decide +kernel), kc_X6_canBe, rfl, ⟨by decide, by decide, by decide +kernel⟩⟩
set_option maxRecDepth 100000 in
theorem kc_X6_shelfOn : Cond.code yX6_shelfOn cX6_shelfOn 4 (some .int) ∈ jtb := jtb_at 1175 (by rfl) (by rfl)
theorem cv_X6_213 : jcwV RX6 213 RX6 yX6_shelfOn cX6_shelfOn 4 (some .int) 1 := ⟨jtb_at 1172 (by decide +kernel) (by decide +kernel), jtb_at 1174 (by decide +kernel) (by decide +kernel), jtb_at 55 (by decide +kernel) (by decide +kernel), jtb_at 85 (by decide +kernel) (by decide +kernel), kc_X6_shelfOn, rfl, ⟨by decide, by decide, by decide +kernel⟩⟩
set_option maxRecDepth 100000 in
theorem kc_X6_canNow : Cond.code yX6_canNow cX6_canNow 3 (some .boolean) ∈ jtb := jtb_at 1179 (by rfl) (by rfl)
theorem cv_X6_216 : jcwV RX6 216 RX6 yX6_canNow cX6_canNow 3 (some .boolean) 2 := ⟨jtb_at 1176 (by decide +kernel) (by decide +kernel), jtb_at 1178 (by decide +kernel) (by decide +kernel), jtb_at 56 (by decide +kernel) (by decide +kernel), jtb_at 85 (by decide +kernel) (by decide +kernel), kc_X6_canNow, rfl, ⟨by decide, by decide, by decide +kernel⟩⟩
theorem ck_X6_219 : Cond.constantLong RX6 219 (2) ∈ jtb := jtb_at 1200 (by decide +kernel) (by decide +kernel)
theorem ck_X6_221 : Cond.constantLong RX6 221 (9) ∈ jtb := jtb_at 1201 (by decide +kernel) (by decide +kernel)
theorem fi_X6_46 : jfl RX6 46 6 RX6 TX6 33 tyX6 14 2 := ⟨cls6, by decide, jtb_at 939 (by decide +kernel) (by decide +kernel), rfl⟩
set_option maxRecDepth 100000 in
theorem kc_X6_note : Cond.code yX6_note cX6_note 2 (none) ∈ jtb := jtb_at 1209 (by rfl) (by rfl)
theorem cv_X6_223 : jcwV RX6 223 RX6 yX6_note cX6_note 2 (none) 0 := ⟨jtb_at 1206 (by decide +kernel) (by decide +kernel), jtb_at 1208 (by decide +kernel) (by decide +kernel), jtb_at 60 (by decide +kernel) (by decide +kernel), jtb_at 85 (by decide +kernel) (by decide +kernel), kc_X6_note, rfl, ⟨by decide, by decide, by decide +kernel⟩⟩
set_option maxRecDepth 100000 in
theorem kc_X6_isOnShelf : Cond.code yX6_isOnShelf cX6_isOnShelf 2 (some .boolean) ∈ jtb := jtb_at 1217 (by rfl) (by rfl)
theorem cv_X6_226 : jcwV RX6 226 RX6 yX6_isOnShelf cX6_isOnShelf 2 (some .boolean) 1 := ⟨jtb_at 1214 (by decide +kernel) (by decide +kernel), jtb_at 1216 (by decide +kernel) (by decide +kernel), jtb_at 61 (by decide +kernel) (by decide +kernel), jtb_at 85 (by decide +kernel) (by decide +kernel), kc_X6_isOnShelf, rfl, ⟨by decide, by decide, by decide +kernel⟩⟩
set_option maxRecDepth 100000 in
theorem kc_X6_openNow : Cond.code yX6_openNow cX6_openNow 3 (none) ∈ jtb := jtb_at 1221 (by rfl) (by rfl)
theorem cv_X6_229 : jcwV RX6 229 RX6 yX6_openNow cX6_openNow 3 (none) 2 := ⟨jtb_at 1218 (by decide +kernel) (by decide +kernel), jtb_at 1220 (by decide +kernel) (by decide +kernel), jtb_at 62 (by decide +kernel) (by decide +kernel), jtb_at 85 (by decide +kernel) (by decide +kernel), kc_X6_openNow, rfl, ⟨by decide, by decide, by decide +kernel⟩⟩
theorem fi_X6_69 : jfl RX6 69 6 RX6 TX6 33 tyX6 28 2 := ⟨cls6, by decide, jtb_at 953 (by decide +kernel) (by decide +kernel), rfl⟩
set_option maxRecDepth 100000 in
theorem kc_X6_carry : Cond.code yX6_carry cX6_carry 7 (none) ∈ jtb := jtb_at 1241 (by rfl) (by rfl)
theorem cv_X6_233 : jcwV RX6 233 RX6 yX6_carry cX6_carry 7 (none) 5 := ⟨jtb_at 1238 (by decide +kernel) (by decide +kernel), jtb_at 1240 (by decide +kernel) (by decide +kernel), jtb_at 63 (by decide +kernel) (by decide +kernel), jtb_at 85 (by decide +kernel) (by decide +kernel), kc_X6_carry, rfl, ⟨by decide, by decide, by decide +kernel⟩⟩
set_option maxRecDepth 100000 in
theorem kc_X6_lacksRow : Cond.code yX6_lacksRow cX6_lacksRow 2 (some .int) ∈ jtb := jtb_at 1269 (by rfl) (by rfl)
theorem cv_X6_237 : jcwV RX6 237 RX6 yX6_lacksRow cX6_lacksRow 2 (some .int) 1 := ⟨jtb_at 1266 (by decide +kernel) (by decide +kernel), jtb_at 1268 (by decide +kernel) (by decide +kernel), jtb_at 64 (by decide +kernel) (by decide +kernel), jtb_at 85 (by decide +kernel) (by decide +kernel), kc_X6_lacksRow, rfl, ⟨by decide, by decide, by decide +kernel⟩⟩
set_option maxRecDepth 100000 in
theorem kc_X6_caseOf : Cond.code yX6_caseOf cX6_caseOf 3 (some .int) ∈ jtb := jtb_at 1284 (by rfl) (by rfl)
theorem cs_X6_240 : jcwS RX6 240 yX6_caseOf cX6_caseOf 3 (some .int) 3 := ⟨jtb_at 1282 (by decide +kernel) (by decide +kernel), jtb_at 1283 (by decide +kernel) (by decide +kernel), jtb_at 85 (by decide +kernel) (by decide +kernel), kc_X6_caseOf, ⟨by decide, by decide, by decide +kernel⟩⟩
theorem fi_X6_72 : jfl RX6 72 6 RX6 TX6 33 tyX6 29 2 := ⟨cls6, by decide, jtb_at 954 (by decide +kernel) (by decide +kernel), rfl⟩
set_option maxRecDepth 100000 in
theorem kc_X6_begin : Cond.code yX6_begin cX6_begin 1 (some .int) ∈ jtb := jtb_at 1281 (by rfl) (by rfl)
theorem cv_X6_243 : jcwV RX6 243 RX6 yX6_begin cX6_begin 1 (some .int) 0 := ⟨jtb_at 1278 (by decide +kernel) (by decide +kernel), jtb_at 1280 (by decide +kernel) (by decide +kernel), jtb_at 66 (by decide +kernel) (by decide +kernel), jtb_at 85 (by decide +kernel) (by decide +kernel), kc_X6_begin, rfl, ⟨by decide, by decide, by decide +kernel⟩⟩
set_option maxRecDepth 100000 in
theorem kc_X6_leads : Cond.code yX6_leads cX6_leads 5 (some .boolean) ∈ jtb := jtb_at 1288 (by rfl) (by rfl)
theorem cv_X6_247 : jcwV RX6 247 RX6 yX6_leads cX6_leads 5 (some .boolean) 4 := ⟨jtb_at 1285 (by decide +kernel) (by decide +kernel), jtb_at 1287 (by decide +kernel) (by decide +kernel), jtb_at 67 (by decide +kernel) (by decide +kernel), jtb_at 85 (by decide +kernel) (by decide +kernel), kc_X6_leads, rfl, ⟨by decide, by decide, by decide +kernel⟩⟩
set_option maxRecDepth 100000 in
theorem kc_X6_behind : Cond.code yX6_behind cX6_behind 6 (some .int) ∈ jtb := jtb_at 1292 (by rfl) (by rfl)
theorem cv_X6_250 : jcwV RX6 250 RX6 yX6_behind cX6_behind 6 (some .int) 3 := ⟨jtb_at 1289 (by decide +kernel) (by decide +kernel), jtb_at 1291 (by decide +kernel) (by decide +kernel), jtb_at 68 (by decide +kernel) (by decide +kernel), jtb_at 85 (by decide +kernel) (by decide +kernel), kc_X6_behind, rfl, ⟨by decide, by decide, by decide +kernel⟩⟩
theorem fi_X6_78 : jfl RX6 78 6 RX6 TX6 33 tyX6 31 2 := ⟨cls6, by decide, jtb_at 956 (by decide +kernel) (by decide +kernel), rfl⟩
set_option maxRecDepth 100000 in
theorem kc_X6_reach : Cond.code yX6_reach cX6_reach 5 (none) ∈ jtb := jtb_at 1277 (by rfl) (by rfl)
theorem cv_X6_253 : jcwV RX6 253 RX6 yX6_reach cX6_reach 5 (none) 1 := ⟨jtb_at 1274 (by decide +kernel) (by decide +kernel), jtb_at 1276 (by decide +kernel) (by decide +kernel), jtb_at 65 (by decide +kernel) (by decide +kernel), jtb_at 85 (by decide +kernel) (by decide +kernel), kc_X6_reach, rfl, ⟨by decide, by decide, by decide +kernel⟩⟩
set_option maxRecDepth 100000 in
theorem kc_X6_findMosts : Cond.code yX6_findMosts cX6_findMosts 6 (none) ∈ jtb := jtb_at 1296 (by rfl) (by rfl)
theorem cv_X6_256 : jcwV RX6 256 RX6 yX6_findMosts cX6_findMosts 6 (none) 1 := ⟨jtb_at 1293 (by decide +kernel) (by decide +kernel), jtb_at 1295 (by decide +kernel) (by decide +kernel), jtb_at 69 (by decide +kernel) (by decide +kernel), jtb_at 85 (by decide +kernel) (by decide +kernel), kc_X6_findMosts, rfl, ⟨by decide, by decide, by decide +kernel⟩⟩
set_option maxRecDepth 100000 in
theorem kc_X6_mostOf : Cond.code yX6_mostOf cX6_mostOf 4 (some .int) ∈ jtb := jtb_at 1300 (by rfl) (by rfl)
theorem cv_X6_259 : jcwV RX6 259 RX6 yX6_mostOf cX6_mostOf 4 (some .int) 1 := ⟨jtb_at 1297 (by decide +kernel) (by decide +kernel), jtb_at 1299 (by decide +kernel) (by decide +kernel), jtb_at 70 (by decide +kernel) (by decide +kernel), jtb_at 85 (by decide +kernel) (by decide +kernel), kc_X6_mostOf, rfl, ⟨by decide, by decide, by decide +kernel⟩⟩
theorem fi_X6_75 : jfl RX6 75 6 RX6 TX6 33 tyX6 30 2 := ⟨cls6, by decide, jtb_at 955 (by decide +kernel) (by decide +kernel), rfl⟩
set_option maxRecDepth 100000 in
theorem kc_X6_findNeed : Cond.code yX6_findNeed cX6_findNeed 7 (none) ∈ jtb := jtb_at 1312 (by rfl) (by rfl)
theorem cv_X6_262 : jcwV RX6 262 RX6 yX6_findNeed cX6_findNeed 7 (none) 2 := ⟨jtb_at 1309 (by decide +kernel) (by decide +kernel), jtb_at 1311 (by decide +kernel) (by decide +kernel), jtb_at 71 (by decide +kernel) (by decide +kernel), jtb_at 85 (by decide +kernel) (by decide +kernel), kc_X6_findNeed, rfl, ⟨by decide, by decide, by decide +kernel⟩⟩
set_option maxRecDepth 100000 in
theorem kc_X6_row : Cond.code yX6_row cX6_row 4 (some .int) ∈ jtb := jtb_at 1028 (by rfl) (by rfl)
theorem cv_X6_265 : jcwV RX6 265 RX6 yX6_row cX6_row 4 (some .int) 2 := ⟨jtb_at 1313 (by decide +kernel) (by decide +kernel), jtb_at 1026 (by decide +kernel) (by decide +kernel), jtb_at 1027 (by decide +kernel) (by decide +kernel), jtb_at 85 (by decide +kernel) (by decide +kernel), kc_X6_row, rfl, ⟨by decide, by decide, by decide +kernel⟩⟩
theorem ck_X6_268 : Cond.constantLong RX6 268 (23) ∈ jtb := jtb_at 1330 (by decide +kernel) (by decide +kernel)
set_option maxRecDepth 100000 in
theorem kc_X6_hoursOf : Cond.code yX6_hoursOf cX6_hoursOf 4 (some .int) ∈ jtb := jtb_at 1338 (by rfl) (by rfl)
theorem cv_X6_270 : jcwV RX6 270 RX6 yX6_hoursOf cX6_hoursOf 4 (some .int) 1 := ⟨jtb_at 1335 (by decide +kernel) (by decide +kernel), jtb_at 1337 (by decide +kernel) (by decide +kernel), jtb_at 74 (by decide +kernel) (by decide +kernel), jtb_at 85 (by decide +kernel) (by decide +kernel), kc_X6_hoursOf, rfl, ⟨by decide, by decide, by decide +kernel⟩⟩
set_option maxRecDepth 100000 in
theorem kc_X6_lacksDiary : Cond.code yX6_lacksDiary cX6_lacksDiary 4 (some .int) ∈ jtb := jtb_at 1329 (by rfl) (by rfl)
theorem cv_X6_273 : jcwV RX6 273 RX6 yX6_lacksDiary cX6_lacksDiary 4 (some .int) 1 := ⟨jtb_at 1326 (by decide +kernel) (by decide +kernel), jtb_at 1328 (by decide +kernel) (by decide +kernel), jtb_at 72 (by decide +kernel) (by decide +kernel), jtb_at 85 (by decide +kernel) (by decide +kernel), kc_X6_lacksDiary, rfl, ⟨by decide, by decide, by decide +kernel⟩⟩
set_option maxRecDepth 100000 in
theorem kc_X6_leftFor : Cond.code yX6_leftFor cX6_leftFor 5 (some .int) ∈ jtb := jtb_at 1334 (by rfl) (by rfl)
theorem cv_X6_276 : jcwV RX6 276 RX6 yX6_leftFor cX6_leftFor 5 (some .int) 2 := ⟨jtb_at 1331 (by decide +kernel) (by decide +kernel), jtb_at 1333 (by decide +kernel) (by decide +kernel), jtb_at 73 (by decide +kernel) (by decide +kernel), jtb_at 85 (by decide +kernel) (by decide +kernel), kc_X6_leftFor, rfl, ⟨by decide, by decide, by decide +kernel⟩⟩
theorem ck_X6_279 : Cond.constantLong RX6 279 (7) ∈ jtb := jtb_at 1347 (by decide +kernel) (by decide +kernel)
theorem ck_X6_281 : Cond.constantLong RX6 281 (20) ∈ jtb := jtb_at 1348 (by decide +kernel) (by decide +kernel)
theorem fi_X6_283 : jfl RX6 283 6 RX6 TX6 33 tyX6 17 1 := ⟨cls6, by decide, jtb_at 942 (by decide +kernel) (by decide +kernel), rfl⟩
theorem fp_X6_283 : jfp RX6 283 6 RX6 TX6 33 tyX6 17 1 (.long) := ⟨fi_X6_283, rfl, rfl⟩
theorem fi_X6_49 : jfl RX6 49 6 RX6 TX6 33 tyX6 18 1 := ⟨cls6, by decide, jtb_at 943 (by decide +kernel) (by decide +kernel), rfl⟩
theorem fp_X6_49 : jfp RX6 49 6 RX6 TX6 33 tyX6 18 1 (.long) := ⟨fi_X6_49, rfl, rfl⟩
theorem ck_X6_286 : Cond.constantLong RX6 286 (2147483646) ∈ jtb := jtb_at 1357 (by decide +kernel) (by decide +kernel)
theorem ck_X6_288 : Cond.constantLong RX6 288 (48271) ∈ jtb := jtb_at 1358 (by decide +kernel) (by decide +kernel)
theorem ck_X6_290 : Cond.constantLong RX6 290 (2147483647) ∈ jtb := jtb_at 1359 (by decide +kernel) (by decide +kernel)
set_option maxRecDepth 100000 in
theorem kc_X6_oneOf : Cond.code yX6_oneOf cX6_oneOf 4 (some .int) ∈ jtb := jtb_at 1363 (by rfl) (by rfl)
theorem cs_X6_295 : jcwS RX6 295 yX6_oneOf cX6_oneOf 4 (some .int) 2 := ⟨jtb_at 1361 (by decide +kernel) (by decide +kernel), jtb_at 1362 (by decide +kernel) (by decide +kernel), jtb_at 85 (by decide +kernel) (by decide +kernel), kc_X6_oneOf, ⟨by decide, by decide, by decide +kernel⟩⟩
set_option maxRecDepth 100000 in
theorem kc_X6_can : Cond.code yX6_can cX6_can 4 (some .int) ∈ jtb := jtb_at 1249 (by rfl) (by rfl)
theorem cv_X6_298 : jcwV RX6 298 RX6 yX6_can cX6_can 4 (some .int) 1 := ⟨jtb_at 1364 (by decide +kernel) (by decide +kernel), jtb_at 1247 (by decide +kernel) (by decide +kernel), jtb_at 1248 (by decide +kernel) (by decide +kernel), jtb_at 85 (by decide +kernel) (by decide +kernel), kc_X6_can, rfl, ⟨by decide, by decide, by decide +kernel⟩⟩
theorem ck_X6_301 : Cond.constantLong RX6 301 (64) ∈ jtb := jtb_at 1365 (by decide +kernel) (by decide +kernel)
set_option maxRecDepth 100000 in
theorem kc_X6_day : Cond.code yX6_day cX6_day 1 (some .int) ∈ jtb := jtb_at 1205 (by rfl) (by rfl)
theorem cv_X6_292 : jcwV RX6 292 RX6 yX6_day cX6_day 1 (some .int) 0 := ⟨jtb_at 1360 (by decide +kernel) (by decide +kernel), jtb_at 1203 (by decide +kernel) (by decide +kernel), jtb_at 1204 (by decide +kernel) (by decide +kernel), jtb_at 85 (by decide +kernel) (by decide +kernel), kc_X6_day, rfl, ⟨by decide, by decide, by decide +kernel⟩⟩
set_option maxRecDepth 100000 in
theorem kc_X6_there : Cond.code yX6_there cX6_there 3 (some .int) ∈ jtb := jtb_at 1384 (by rfl) (by rfl)
theorem cs_X6_303 : jcwS RX6 303 yX6_there cX6_there 3 (some .int) 1 := ⟨jtb_at 1382 (by decide +kernel) (by decide +kernel), jtb_at 1383 (by decide +kernel) (by decide +kernel), jtb_at 85 (by decide +kernel) (by decide +kernel), kc_X6_there, ⟨by decide, by decide, by decide +kernel⟩⟩
theorem ck_X6_307 : Cond.constantLong RX6 307 (31) ∈ jtb := jtb_at 1402 (by decide +kernel) (by decide +kernel)
theorem fi_X6_309 : jfl RX6 309 6 RX6 TX6 33 tyX6 32 1 := ⟨cls6, by decide, jtb_at 957 (by decide +kernel) (by decide +kernel), rfl⟩
theorem fp_X6_309 : jfp RX6 309 6 RX6 TX6 33 tyX6 32 1 (.long) := ⟨fi_X6_309, rfl, rfl⟩
set_option maxRecDepth 100000 in
theorem kc_X6_count : Cond.code yX6_count cX6_count 4 (some .int) ∈ jtb := jtb_at 1381 (by rfl) (by rfl)
theorem cv_X6_312 : jcwV RX6 312 RX6 yX6_count cX6_count 4 (some .int) 1 := ⟨jtb_at 1397 (by decide +kernel) (by decide +kernel), jtb_at 1379 (by decide +kernel) (by decide +kernel), jtb_at 1380 (by decide +kernel) (by decide +kernel), jtb_at 85 (by decide +kernel) (by decide +kernel), kc_X6_count, rfl, ⟨by decide, by decide, by decide +kernel⟩⟩
set_option maxRecDepth 100000 in
theorem kc_X6_mix : Cond.code yX6_mix cX6_mix 3 (none) ∈ jtb := jtb_at 1401 (by rfl) (by rfl)
theorem cv_X6_315 : jcwV RX6 315 RX6 yX6_mix cX6_mix 3 (none) 1 := ⟨jtb_at 1398 (by decide +kernel) (by decide +kernel), jtb_at 1400 (by decide +kernel) (by decide +kernel), jtb_at 75 (by decide +kernel) (by decide +kernel), jtb_at 85 (by decide +kernel) (by decide +kernel), kc_X6_mix, rfl, ⟨by decide, by decide, by decide +kernel⟩⟩
theorem ck_X6_319 : Cond.constantLong RX6 319 (-1) ∈ jtb := jtb_at 1403 (by decide +kernel) (by decide +kernel)
