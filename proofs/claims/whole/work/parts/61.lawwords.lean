set_option maxRecDepth 100000 in
theorem kc_X5_row : Cond.code yX5_row cX5_row 3 (some .int) ∈ jtb := jtb_at 329 (by rfl) (by rfl)
theorem cv_L_13 : jcwV RL 13 RX5 yX5_row cX5_row 3 (some .int) 2 := ⟨jtb_at 326 (by decide +kernel) (by decide +kernel), jtb_at 327 (by decide +kernel) (by decide +kernel), jtb_at 328 (by decide +kernel) (by decide +kernel), jtb_at 77 (by decide +kernel) (by decide +kernel), kc_X5_row, rfl, ⟨by decide, by decide, by decide +kernel⟩⟩
theorem cv_L_17 : jcwV RL 17 RX6 yX6_row cX6_row 4 (some .int) 2 := ⟨jtb_at 1025 (by decide +kernel) (by decide +kernel), jtb_at 1026 (by decide +kernel) (by decide +kernel), jtb_at 1027 (by decide +kernel) (by decide +kernel), jtb_at 85 (by decide +kernel) (by decide +kernel), kc_X6_row, rfl, ⟨by decide, by decide, by decide +kernel⟩⟩
set_option maxRecDepth 100000 in
theorem kc_X5_lay : Cond.code yX5_lay cX5_lay 5 (some .int) ∈ jtb := jtb_at 345 (by rfl) (by rfl)
theorem cv_L_18 : jcwV RL 18 RX5 yX5_lay cX5_lay 5 (some .int) 3 := ⟨jtb_at 342 (by decide +kernel) (by decide +kernel), jtb_at 343 (by decide +kernel) (by decide +kernel), jtb_at 344 (by decide +kernel) (by decide +kernel), jtb_at 77 (by decide +kernel) (by decide +kernel), kc_X5_lay, rfl, ⟨by decide, by decide, by decide +kernel⟩⟩
set_option maxRecDepth 100000 in
theorem kc_X6_lay : Cond.code yX6_lay cX6_lay 6 (some .int) ∈ jtb := jtb_at 1043 (by rfl) (by rfl)
theorem cv_L_22 : jcwV RL 22 RX6 yX6_lay cX6_lay 6 (some .int) 3 := ⟨jtb_at 1040 (by decide +kernel) (by decide +kernel), jtb_at 1041 (by decide +kernel) (by decide +kernel), jtb_at 1042 (by decide +kernel) (by decide +kernel), jtb_at 85 (by decide +kernel) (by decide +kernel), kc_X6_lay, rfl, ⟨by decide, by decide, by decide +kernel⟩⟩
set_option maxRecDepth 100000 in
theorem kc_X5_at : Cond.code yX5_at cX5_at 4 (some .int) ∈ jtb := jtb_at 373 (by rfl) (by rfl)
theorem cv_L_23 : jcwV RL 23 RX5 yX5_at cX5_at 4 (some .int) 2 := ⟨jtb_at 370 (by decide +kernel) (by decide +kernel), jtb_at 371 (by decide +kernel) (by decide +kernel), jtb_at 372 (by decide +kernel) (by decide +kernel), jtb_at 77 (by decide +kernel) (by decide +kernel), kc_X5_at, rfl, ⟨by decide, by decide, by decide +kernel⟩⟩
set_option maxRecDepth 100000 in
theorem kc_X6_at : Cond.code yX6_at cX6_at 4 (some .int) ∈ jtb := jtb_at 1055 (by rfl) (by rfl)
theorem cv_L_26 : jcwV RL 26 RX6 yX6_at cX6_at 4 (some .int) 2 := ⟨jtb_at 1052 (by decide +kernel) (by decide +kernel), jtb_at 1053 (by decide +kernel) (by decide +kernel), jtb_at 1054 (by decide +kernel) (by decide +kernel), jtb_at 85 (by decide +kernel) (by decide +kernel), kc_X6_at, rfl, ⟨by decide, by decide, by decide +kernel⟩⟩
set_option maxRecDepth 100000 in
theorem kc_X5_tear : Cond.code yX5_tear cX5_tear 3 (some .int) ∈ jtb := jtb_at 377 (by rfl) (by rfl)
theorem cv_L_27 : jcwV RL 27 RX5 yX5_tear cX5_tear 3 (some .int) 1 := ⟨jtb_at 374 (by decide +kernel) (by decide +kernel), jtb_at 375 (by decide +kernel) (by decide +kernel), jtb_at 376 (by decide +kernel) (by decide +kernel), jtb_at 77 (by decide +kernel) (by decide +kernel), kc_X5_tear, rfl, ⟨by decide, by decide, by decide +kernel⟩⟩
set_option maxRecDepth 100000 in
theorem kc_X6_tear : Cond.code yX6_tear cX6_tear 2 (some .int) ∈ jtb := jtb_at 1059 (by rfl) (by rfl)
theorem cv_L_31 : jcwV RL 31 RX6 yX6_tear cX6_tear 2 (some .int) 1 := ⟨jtb_at 1056 (by decide +kernel) (by decide +kernel), jtb_at 1057 (by decide +kernel) (by decide +kernel), jtb_at 1058 (by decide +kernel) (by decide +kernel), jtb_at 85 (by decide +kernel) (by decide +kernel), kc_X6_tear, rfl, ⟨by decide, by decide, by decide +kernel⟩⟩
set_option maxRecDepth 100000 in
theorem kc_X5_copy : Cond.code yX5_copy cX5_copy 6 (some .int) ∈ jtb := jtb_at 381 (by rfl) (by rfl)
theorem cv_L_32 : jcwV RL 32 RX5 yX5_copy cX5_copy 6 (some .int) 5 := ⟨jtb_at 378 (by decide +kernel) (by decide +kernel), jtb_at 379 (by decide +kernel) (by decide +kernel), jtb_at 380 (by decide +kernel) (by decide +kernel), jtb_at 77 (by decide +kernel) (by decide +kernel), kc_X5_copy, rfl, ⟨by decide, by decide, by decide +kernel⟩⟩
set_option maxRecDepth 100000 in
theorem kc_X6_copy : Cond.code yX6_copy cX6_copy 7 (some .int) ∈ jtb := jtb_at 1063 (by rfl) (by rfl)
theorem cv_L_36 : jcwV RL 36 RX6 yX6_copy cX6_copy 7 (some .int) 5 := ⟨jtb_at 1060 (by decide +kernel) (by decide +kernel), jtb_at 1061 (by decide +kernel) (by decide +kernel), jtb_at 1062 (by decide +kernel) (by decide +kernel), jtb_at 85 (by decide +kernel) (by decide +kernel), kc_X6_copy, rfl, ⟨by decide, by decide, by decide +kernel⟩⟩
set_option maxRecDepth 100000 in
theorem kc_X5_mean : Cond.code yX5_mean cX5_mean 3 (some .int) ∈ jtb := jtb_at 386 (by rfl) (by rfl)
theorem cv_L_37 : jcwV RL 37 RX5 yX5_mean cX5_mean 3 (some .int) 1 := ⟨jtb_at 383 (by decide +kernel) (by decide +kernel), jtb_at 384 (by decide +kernel) (by decide +kernel), jtb_at 385 (by decide +kernel) (by decide +kernel), jtb_at 77 (by decide +kernel) (by decide +kernel), kc_X5_mean, rfl, ⟨by decide, by decide, by decide +kernel⟩⟩
set_option maxRecDepth 100000 in
theorem kc_X6_mean : Cond.code yX6_mean cX6_mean 5 (some .int) ∈ jtb := jtb_at 1067 (by rfl) (by rfl)
theorem cv_L_40 : jcwV RL 40 RX6 yX6_mean cX6_mean 5 (some .int) 1 := ⟨jtb_at 1064 (by decide +kernel) (by decide +kernel), jtb_at 1065 (by decide +kernel) (by decide +kernel), jtb_at 1066 (by decide +kernel) (by decide +kernel), jtb_at 85 (by decide +kernel) (by decide +kernel), kc_X6_mean, rfl, ⟨by decide, by decide, by decide +kernel⟩⟩
set_option maxRecDepth 100000 in
theorem kc_X5_text : Cond.code yX5_text cX5_text 3 (some .int) ∈ jtb := jtb_at 394 (by rfl) (by rfl)
theorem cv_L_41 : jcwV RL 41 RX5 yX5_text cX5_text 3 (some .int) 2 := ⟨jtb_at 391 (by decide +kernel) (by decide +kernel), jtb_at 392 (by decide +kernel) (by decide +kernel), jtb_at 393 (by decide +kernel) (by decide +kernel), jtb_at 77 (by decide +kernel) (by decide +kernel), kc_X5_text, rfl, ⟨by decide, by decide, by decide +kernel⟩⟩
set_option maxRecDepth 100000 in
theorem kc_X6_text : Cond.code yX6_text cX6_text 4 (some .int) ∈ jtb := jtb_at 1071 (by rfl) (by rfl)
theorem cv_L_44 : jcwV RL 44 RX6 yX6_text cX6_text 4 (some .int) 2 := ⟨jtb_at 1068 (by decide +kernel) (by decide +kernel), jtb_at 1069 (by decide +kernel) (by decide +kernel), jtb_at 1070 (by decide +kernel) (by decide +kernel), jtb_at 85 (by decide +kernel) (by decide +kernel), kc_X6_text, rfl, ⟨by decide, by decide, by decide +kernel⟩⟩
set_option maxRecDepth 100000 in
theorem kc_X5_put : Cond.code yX5_put cX5_put 5 (some .int) ∈ jtb := jtb_at 398 (by rfl) (by rfl)
theorem cv_L_45 : jcwV RL 45 RX5 yX5_put cX5_put 5 (some .int) 3 := ⟨jtb_at 395 (by decide +kernel) (by decide +kernel), jtb_at 396 (by decide +kernel) (by decide +kernel), jtb_at 397 (by decide +kernel) (by decide +kernel), jtb_at 77 (by decide +kernel) (by decide +kernel), kc_X5_put, rfl, ⟨by decide, by decide, by decide +kernel⟩⟩
set_option maxRecDepth 100000 in
theorem kc_X6_put : Cond.code yX6_put cX6_put 5 (some .int) ∈ jtb := jtb_at 1079 (by rfl) (by rfl)
theorem cv_L_48 : jcwV RL 48 RX6 yX6_put cX6_put 5 (some .int) 3 := ⟨jtb_at 1076 (by decide +kernel) (by decide +kernel), jtb_at 1077 (by decide +kernel) (by decide +kernel), jtb_at 1078 (by decide +kernel) (by decide +kernel), jtb_at 85 (by decide +kernel) (by decide +kernel), kc_X6_put, rfl, ⟨by decide, by decide, by decide +kernel⟩⟩
set_option maxRecDepth 100000 in
theorem kc_X5_fault : Cond.code yX5_fault cX5_fault 3 (some .int) ∈ jtb := jtb_at 402 (by rfl) (by rfl)
theorem cv_L_49 : jcwV RL 49 RX5 yX5_fault cX5_fault 3 (some .int) 1 := ⟨jtb_at 399 (by decide +kernel) (by decide +kernel), jtb_at 400 (by decide +kernel) (by decide +kernel), jtb_at 401 (by decide +kernel) (by decide +kernel), jtb_at 77 (by decide +kernel) (by decide +kernel), kc_X5_fault, rfl, ⟨by decide, by decide, by decide +kernel⟩⟩
set_option maxRecDepth 100000 in
theorem kc_X6_fault : Cond.code yX6_fault cX6_fault 2 (some .int) ∈ jtb := jtb_at 1083 (by rfl) (by rfl)
theorem cv_L_52 : jcwV RL 52 RX6 yX6_fault cX6_fault 2 (some .int) 1 := ⟨jtb_at 1080 (by decide +kernel) (by decide +kernel), jtb_at 1081 (by decide +kernel) (by decide +kernel), jtb_at 1082 (by decide +kernel) (by decide +kernel), jtb_at 85 (by decide +kernel) (by decide +kernel), kc_X6_fault, rfl, ⟨by decide, by decide, by decide +kernel⟩⟩
set_option maxRecDepth 100000 in
theorem kc_X5_house : Cond.code yX5_house cX5_house 4 (some .int) ∈ jtb := jtb_at 465 (by rfl) (by rfl)
theorem cv_L_53 : jcwV RL 53 RX5 yX5_house cX5_house 4 (some .int) 1 := ⟨jtb_at 462 (by decide +kernel) (by decide +kernel), jtb_at 463 (by decide +kernel) (by decide +kernel), jtb_at 464 (by decide +kernel) (by decide +kernel), jtb_at 77 (by decide +kernel) (by decide +kernel), kc_X5_house, rfl, ⟨by decide, by decide, by decide +kernel⟩⟩
set_option maxRecDepth 100000 in
theorem kc_X6_house : Cond.code yX6_house cX6_house 3 (some .int) ∈ jtb := jtb_at 1121 (by rfl) (by rfl)
theorem cv_L_56 : jcwV RL 56 RX6 yX6_house cX6_house 3 (some .int) 1 := ⟨jtb_at 1118 (by decide +kernel) (by decide +kernel), jtb_at 1119 (by decide +kernel) (by decide +kernel), jtb_at 1120 (by decide +kernel) (by decide +kernel), jtb_at 85 (by decide +kernel) (by decide +kernel), kc_X6_house, rfl, ⟨by decide, by decide, by decide +kernel⟩⟩
set_option maxRecDepth 100000 in
theorem kc_X5_deed : Cond.code yX5_deed cX5_deed 3 (some .int) ∈ jtb := jtb_at 518 (by rfl) (by rfl)
theorem cv_L_57 : jcwV RL 57 RX5 yX5_deed cX5_deed 3 (some .int) 2 := ⟨jtb_at 515 (by decide +kernel) (by decide +kernel), jtb_at 516 (by decide +kernel) (by decide +kernel), jtb_at 517 (by decide +kernel) (by decide +kernel), jtb_at 77 (by decide +kernel) (by decide +kernel), kc_X5_deed, rfl, ⟨by decide, by decide, by decide +kernel⟩⟩
set_option maxRecDepth 100000 in
theorem kc_X6_deed : Cond.code yX6_deed cX6_deed 3 (some .int) ∈ jtb := jtb_at 1125 (by rfl) (by rfl)
theorem cv_L_60 : jcwV RL 60 RX6 yX6_deed cX6_deed 3 (some .int) 2 := ⟨jtb_at 1122 (by decide +kernel) (by decide +kernel), jtb_at 1123 (by decide +kernel) (by decide +kernel), jtb_at 1124 (by decide +kernel) (by decide +kernel), jtb_at 85 (by decide +kernel) (by decide +kernel), kc_X6_deed, rfl, ⟨by decide, by decide, by decide +kernel⟩⟩
set_option maxRecDepth 100000 in
theorem kc_X5_hour : Cond.code yX5_hour cX5_hour 3 (some .int) ∈ jtb := jtb_at 528 (by rfl) (by rfl)
theorem cv_L_61 : jcwV RL 61 RX5 yX5_hour cX5_hour 3 (some .int) 2 := ⟨jtb_at 525 (by decide +kernel) (by decide +kernel), jtb_at 526 (by decide +kernel) (by decide +kernel), jtb_at 527 (by decide +kernel) (by decide +kernel), jtb_at 77 (by decide +kernel) (by decide +kernel), kc_X5_hour, rfl, ⟨by decide, by decide, by decide +kernel⟩⟩
set_option maxRecDepth 100000 in
theorem kc_X6_hour : Cond.code yX6_hour cX6_hour 3 (some .int) ∈ jtb := jtb_at 1142 (by rfl) (by rfl)
theorem cv_L_64 : jcwV RL 64 RX6 yX6_hour cX6_hour 3 (some .int) 2 := ⟨jtb_at 1139 (by decide +kernel) (by decide +kernel), jtb_at 1140 (by decide +kernel) (by decide +kernel), jtb_at 1141 (by decide +kernel) (by decide +kernel), jtb_at 85 (by decide +kernel) (by decide +kernel), kc_X6_hour, rfl, ⟨by decide, by decide, by decide +kernel⟩⟩
set_option maxRecDepth 100000 in
theorem kc_X5_mark : Cond.code yX5_mark cX5_mark 3 (some .int) ∈ jtb := jtb_at 551 (by rfl) (by rfl)
theorem cv_L_65 : jcwV RL 65 RX5 yX5_mark cX5_mark 3 (some .int) 2 := ⟨jtb_at 548 (by decide +kernel) (by decide +kernel), jtb_at 549 (by decide +kernel) (by decide +kernel), jtb_at 550 (by decide +kernel) (by decide +kernel), jtb_at 77 (by decide +kernel) (by decide +kernel), kc_X5_mark, rfl, ⟨by decide, by decide, by decide +kernel⟩⟩
set_option maxRecDepth 100000 in
theorem kc_X6_mark : Cond.code yX6_mark cX6_mark 6 (some .int) ∈ jtb := jtb_at 1168 (by rfl) (by rfl)
theorem cv_L_68 : jcwV RL 68 RX6 yX6_mark cX6_mark 6 (some .int) 2 := ⟨jtb_at 1165 (by decide +kernel) (by decide +kernel), jtb_at 1166 (by decide +kernel) (by decide +kernel), jtb_at 1167 (by decide +kernel) (by decide +kernel), jtb_at 85 (by decide +kernel) (by decide +kernel), kc_X6_mark, rfl, ⟨by decide, by decide, by decide +kernel⟩⟩
set_option maxRecDepth 100000 in
theorem kc_X5_route : Cond.code yX5_route cX5_route 4 (some .int) ∈ jtb := jtb_at 598 (by rfl) (by rfl)
theorem cv_L_69 : jcwV RL 69 RX5 yX5_route cX5_route 4 (some .int) 2 := ⟨jtb_at 595 (by decide +kernel) (by decide +kernel), jtb_at 596 (by decide +kernel) (by decide +kernel), jtb_at 597 (by decide +kernel) (by decide +kernel), jtb_at 77 (by decide +kernel) (by decide +kernel), kc_X5_route, rfl, ⟨by decide, by decide, by decide +kernel⟩⟩
set_option maxRecDepth 100000 in
theorem kc_X6_route : Cond.code yX6_route cX6_route 4 (some .int) ∈ jtb := jtb_at 1199 (by rfl) (by rfl)
theorem cv_L_72 : jcwV RL 72 RX6 yX6_route cX6_route 4 (some .int) 2 := ⟨jtb_at 1196 (by decide +kernel) (by decide +kernel), jtb_at 1197 (by decide +kernel) (by decide +kernel), jtb_at 1198 (by decide +kernel) (by decide +kernel), jtb_at 85 (by decide +kernel) (by decide +kernel), kc_X6_route, rfl, ⟨by decide, by decide, by decide +kernel⟩⟩
set_option maxRecDepth 100000 in
theorem kc_X5_day : Cond.code yX5_day cX5_day 1 (some .int) ∈ jtb := jtb_at 602 (by rfl) (by rfl)
theorem cv_L_73 : jcwV RL 73 RX5 yX5_day cX5_day 1 (some .int) 0 := ⟨jtb_at 599 (by decide +kernel) (by decide +kernel), jtb_at 600 (by decide +kernel) (by decide +kernel), jtb_at 601 (by decide +kernel) (by decide +kernel), jtb_at 77 (by decide +kernel) (by decide +kernel), kc_X5_day, rfl, ⟨by decide, by decide, by decide +kernel⟩⟩
theorem cv_L_77 : jcwV RL 77 RX6 yX6_day cX6_day 1 (some .int) 0 := ⟨jtb_at 1202 (by decide +kernel) (by decide +kernel), jtb_at 1203 (by decide +kernel) (by decide +kernel), jtb_at 1204 (by decide +kernel) (by decide +kernel), jtb_at 85 (by decide +kernel) (by decide +kernel), kc_X6_day, rfl, ⟨by decide, by decide, by decide +kernel⟩⟩
set_option maxRecDepth 100000 in
theorem kc_X5_open : Cond.code yX5_open cX5_open 3 (some .int) ∈ jtb := jtb_at 622 (by rfl) (by rfl)
theorem cv_L_78 : jcwV RL 78 RX5 yX5_open cX5_open 3 (some .int) 2 := ⟨jtb_at 619 (by decide +kernel) (by decide +kernel), jtb_at 620 (by decide +kernel) (by decide +kernel), jtb_at 621 (by decide +kernel) (by decide +kernel), jtb_at 77 (by decide +kernel) (by decide +kernel), kc_X5_open, rfl, ⟨by decide, by decide, by decide +kernel⟩⟩
set_option maxRecDepth 100000 in
theorem kc_X6_open : Cond.code yX6_open cX6_open 3 (some .int) ∈ jtb := jtb_at 1213 (by rfl) (by rfl)
theorem cv_L_81 : jcwV RL 81 RX6 yX6_open cX6_open 3 (some .int) 2 := ⟨jtb_at 1210 (by decide +kernel) (by decide +kernel), jtb_at 1211 (by decide +kernel) (by decide +kernel), jtb_at 1212 (by decide +kernel) (by decide +kernel), jtb_at 85 (by decide +kernel) (by decide +kernel), kc_X6_open, rfl, ⟨by decide, by decide, by decide +kernel⟩⟩
set_option maxRecDepth 100000 in
theorem kc_X5_send : Cond.code yX5_send cX5_send 2 (some .int) ∈ jtb := jtb_at 626 (by rfl) (by rfl)
theorem cv_L_82 : jcwV RL 82 RX5 yX5_send cX5_send 2 (some .int) 1 := ⟨jtb_at 623 (by decide +kernel) (by decide +kernel), jtb_at 624 (by decide +kernel) (by decide +kernel), jtb_at 625 (by decide +kernel) (by decide +kernel), jtb_at 77 (by decide +kernel) (by decide +kernel), kc_X5_send, rfl, ⟨by decide, by decide, by decide +kernel⟩⟩
set_option maxRecDepth 100000 in
theorem kc_X6_send : Cond.code yX6_send cX6_send 2 (some .int) ∈ jtb := jtb_at 1225 (by rfl) (by rfl)
theorem cv_L_85 : jcwV RL 85 RX6 yX6_send cX6_send 2 (some .int) 1 := ⟨jtb_at 1222 (by decide +kernel) (by decide +kernel), jtb_at 1223 (by decide +kernel) (by decide +kernel), jtb_at 1224 (by decide +kernel) (by decide +kernel), jtb_at 85 (by decide +kernel) (by decide +kernel), kc_X6_send, rfl, ⟨by decide, by decide, by decide +kernel⟩⟩
set_option maxRecDepth 100000 in
theorem kc_X5_undo : Cond.code yX5_undo cX5_undo 2 (some .int) ∈ jtb := jtb_at 630 (by rfl) (by rfl)
theorem cv_L_86 : jcwV RL 86 RX5 yX5_undo cX5_undo 2 (some .int) 1 := ⟨jtb_at 627 (by decide +kernel) (by decide +kernel), jtb_at 628 (by decide +kernel) (by decide +kernel), jtb_at 629 (by decide +kernel) (by decide +kernel), jtb_at 77 (by decide +kernel) (by decide +kernel), kc_X5_undo, rfl, ⟨by decide, by decide, by decide +kernel⟩⟩
set_option maxRecDepth 100000 in
theorem kc_X6_undo : Cond.code yX6_undo cX6_undo 4 (some .int) ∈ jtb := jtb_at 1229 (by rfl) (by rfl)
theorem cv_L_89 : jcwV RL 89 RX6 yX6_undo cX6_undo 4 (some .int) 1 := ⟨jtb_at 1226 (by decide +kernel) (by decide +kernel), jtb_at 1227 (by decide +kernel) (by decide +kernel), jtb_at 1228 (by decide +kernel) (by decide +kernel), jtb_at 85 (by decide +kernel) (by decide +kernel), kc_X6_undo, rfl, ⟨by decide, by decide, by decide +kernel⟩⟩
set_option maxRecDepth 100000 in
theorem kc_X5_shelf : Cond.code yX5_shelf cX5_shelf 1 (some .int) ∈ jtb := jtb_at 639 (by rfl) (by rfl)
theorem cv_L_90 : jcwV RL 90 RX5 yX5_shelf cX5_shelf 1 (some .int) 0 := ⟨jtb_at 636 (by decide +kernel) (by decide +kernel), jtb_at 637 (by decide +kernel) (by decide +kernel), jtb_at 638 (by decide +kernel) (by decide +kernel), jtb_at 77 (by decide +kernel) (by decide +kernel), kc_X5_shelf, rfl, ⟨by decide, by decide, by decide +kernel⟩⟩
set_option maxRecDepth 100000 in
theorem kc_X6_shelf : Cond.code yX6_shelf cX6_shelf 1 (some .int) ∈ jtb := jtb_at 1233 (by rfl) (by rfl)
theorem cv_L_93 : jcwV RL 93 RX6 yX6_shelf cX6_shelf 1 (some .int) 0 := ⟨jtb_at 1230 (by decide +kernel) (by decide +kernel), jtb_at 1231 (by decide +kernel) (by decide +kernel), jtb_at 1232 (by decide +kernel) (by decide +kernel), jtb_at 85 (by decide +kernel) (by decide +kernel), kc_X6_shelf, rfl, ⟨by decide, by decide, by decide +kernel⟩⟩
set_option maxRecDepth 100000 in
theorem kc_X5_keep : Cond.code yX5_keep cX5_keep 2 (some .int) ∈ jtb := jtb_at 643 (by rfl) (by rfl)
theorem cv_L_94 : jcwV RL 94 RX5 yX5_keep cX5_keep 2 (some .int) 1 := ⟨jtb_at 640 (by decide +kernel) (by decide +kernel), jtb_at 641 (by decide +kernel) (by decide +kernel), jtb_at 642 (by decide +kernel) (by decide +kernel), jtb_at 77 (by decide +kernel) (by decide +kernel), kc_X5_keep, rfl, ⟨by decide, by decide, by decide +kernel⟩⟩
set_option maxRecDepth 100000 in
theorem kc_X6_keep : Cond.code yX6_keep cX6_keep 2 (some .int) ∈ jtb := jtb_at 1237 (by rfl) (by rfl)
theorem cv_L_97 : jcwV RL 97 RX6 yX6_keep cX6_keep 2 (some .int) 1 := ⟨jtb_at 1234 (by decide +kernel) (by decide +kernel), jtb_at 1235 (by decide +kernel) (by decide +kernel), jtb_at 1236 (by decide +kernel) (by decide +kernel), jtb_at 85 (by decide +kernel) (by decide +kernel), kc_X6_keep, rfl, ⟨by decide, by decide, by decide +kernel⟩⟩
set_option maxRecDepth 100000 in
theorem kc_X5_on : Cond.code yX5_on cX5_on 2 (some .int) ∈ jtb := jtb_at 651 (by rfl) (by rfl)
theorem cv_L_98 : jcwV RL 98 RX5 yX5_on cX5_on 2 (some .int) 1 := ⟨jtb_at 648 (by decide +kernel) (by decide +kernel), jtb_at 649 (by decide +kernel) (by decide +kernel), jtb_at 650 (by decide +kernel) (by decide +kernel), jtb_at 77 (by decide +kernel) (by decide +kernel), kc_X5_on, rfl, ⟨by decide, by decide, by decide +kernel⟩⟩
set_option maxRecDepth 100000 in
theorem kc_X6_on : Cond.code yX6_on cX6_on 2 (some .int) ∈ jtb := jtb_at 1245 (by rfl) (by rfl)
theorem cv_L_101 : jcwV RL 101 RX6 yX6_on cX6_on 2 (some .int) 1 := ⟨jtb_at 1242 (by decide +kernel) (by decide +kernel), jtb_at 1243 (by decide +kernel) (by decide +kernel), jtb_at 1244 (by decide +kernel) (by decide +kernel), jtb_at 85 (by decide +kernel) (by decide +kernel), kc_X6_on, rfl, ⟨by decide, by decide, by decide +kernel⟩⟩
set_option maxRecDepth 100000 in
theorem kc_X5_can : Cond.code yX5_can cX5_can 2 (some .int) ∈ jtb := jtb_at 655 (by rfl) (by rfl)
theorem cv_L_102 : jcwV RL 102 RX5 yX5_can cX5_can 2 (some .int) 1 := ⟨jtb_at 652 (by decide +kernel) (by decide +kernel), jtb_at 653 (by decide +kernel) (by decide +kernel), jtb_at 654 (by decide +kernel) (by decide +kernel), jtb_at 77 (by decide +kernel) (by decide +kernel), kc_X5_can, rfl, ⟨by decide, by decide, by decide +kernel⟩⟩
theorem cv_L_105 : jcwV RL 105 RX6 yX6_can cX6_can 4 (some .int) 1 := ⟨jtb_at 1246 (by decide +kernel) (by decide +kernel), jtb_at 1247 (by decide +kernel) (by decide +kernel), jtb_at 1248 (by decide +kernel) (by decide +kernel), jtb_at 85 (by decide +kernel) (by decide +kernel), kc_X6_can, rfl, ⟨by decide, by decide, by decide +kernel⟩⟩
set_option maxRecDepth 100000 in
theorem kc_X5_why : Cond.code yX5_why cX5_why 4 (some .int) ∈ jtb := jtb_at 664 (by rfl) (by rfl)
theorem cv_L_106 : jcwV RL 106 RX5 yX5_why cX5_why 4 (some .int) 2 := ⟨jtb_at 661 (by decide +kernel) (by decide +kernel), jtb_at 662 (by decide +kernel) (by decide +kernel), jtb_at 663 (by decide +kernel) (by decide +kernel), jtb_at 77 (by decide +kernel) (by decide +kernel), kc_X5_why, rfl, ⟨by decide, by decide, by decide +kernel⟩⟩
set_option maxRecDepth 100000 in
theorem kc_X6_why : Cond.code yX6_why cX6_why 5 (some .int) ∈ jtb := jtb_at 1253 (by rfl) (by rfl)
theorem cv_L_109 : jcwV RL 109 RX6 yX6_why cX6_why 5 (some .int) 2 := ⟨jtb_at 1250 (by decide +kernel) (by decide +kernel), jtb_at 1251 (by decide +kernel) (by decide +kernel), jtb_at 1252 (by decide +kernel) (by decide +kernel), jtb_at 85 (by decide +kernel) (by decide +kernel), kc_X6_why, rfl, ⟨by decide, by decide, by decide +kernel⟩⟩
set_option maxRecDepth 100000 in
theorem kc_X5_opens : Cond.code yX5_opens cX5_opens 2 (some .int) ∈ jtb := jtb_at 671 (by rfl) (by rfl)
theorem cv_L_110 : jcwV RL 110 RX5 yX5_opens cX5_opens 2 (some .int) 1 := ⟨jtb_at 668 (by decide +kernel) (by decide +kernel), jtb_at 669 (by decide +kernel) (by decide +kernel), jtb_at 670 (by decide +kernel) (by decide +kernel), jtb_at 77 (by decide +kernel) (by decide +kernel), kc_X5_opens, rfl, ⟨by decide, by decide, by decide +kernel⟩⟩
set_option maxRecDepth 100000 in
theorem kc_X6_opens : Cond.code yX6_opens cX6_opens 4 (some .int) ∈ jtb := jtb_at 1257 (by rfl) (by rfl)
theorem cv_L_113 : jcwV RL 113 RX6 yX6_opens cX6_opens 4 (some .int) 1 := ⟨jtb_at 1254 (by decide +kernel) (by decide +kernel), jtb_at 1255 (by decide +kernel) (by decide +kernel), jtb_at 1256 (by decide +kernel) (by decide +kernel), jtb_at 85 (by decide +kernel) (by decide +kernel), kc_X6_opens, rfl, ⟨by decide, by decide, by decide +kernel⟩⟩
set_option maxRecDepth 100000 in
theorem kc_X5_late : Cond.code yX5_late cX5_late 4 (some .int) ∈ jtb := jtb_at 675 (by rfl) (by rfl)
theorem cv_L_114 : jcwV RL 114 RX5 yX5_late cX5_late 4 (some .int) 0 := ⟨jtb_at 672 (by decide +kernel) (by decide +kernel), jtb_at 673 (by decide +kernel) (by decide +kernel), jtb_at 674 (by decide +kernel) (by decide +kernel), jtb_at 77 (by decide +kernel) (by decide +kernel), kc_X5_late, rfl, ⟨by decide, by decide, by decide +kernel⟩⟩
set_option maxRecDepth 100000 in
theorem kc_X6_late : Cond.code yX6_late cX6_late 4 (some .int) ∈ jtb := jtb_at 1261 (by rfl) (by rfl)
theorem cv_L_117 : jcwV RL 117 RX6 yX6_late cX6_late 4 (some .int) 0 := ⟨jtb_at 1258 (by decide +kernel) (by decide +kernel), jtb_at 1259 (by decide +kernel) (by decide +kernel), jtb_at 1260 (by decide +kernel) (by decide +kernel), jtb_at 85 (by decide +kernel) (by decide +kernel), kc_X6_late, rfl, ⟨by decide, by decide, by decide +kernel⟩⟩
set_option maxRecDepth 100000 in
theorem kc_X5_run : Cond.code yX5_run cX5_run 5 (some .int) ∈ jtb := jtb_at 682 (by rfl) (by rfl)
theorem cv_L_118 : jcwV RL 118 RX5 yX5_run cX5_run 5 (some .int) 1 := ⟨jtb_at 679 (by decide +kernel) (by decide +kernel), jtb_at 680 (by decide +kernel) (by decide +kernel), jtb_at 681 (by decide +kernel) (by decide +kernel), jtb_at 77 (by decide +kernel) (by decide +kernel), kc_X5_run, rfl, ⟨by decide, by decide, by decide +kernel⟩⟩
set_option maxRecDepth 100000 in
theorem kc_X6_run : Cond.code yX6_run cX6_run 11 (some .int) ∈ jtb := jtb_at 1265 (by rfl) (by rfl)
theorem cv_L_121 : jcwV RL 121 RX6 yX6_run cX6_run 11 (some .int) 1 := ⟨jtb_at 1262 (by decide +kernel) (by decide +kernel), jtb_at 1263 (by decide +kernel) (by decide +kernel), jtb_at 1264 (by decide +kernel) (by decide +kernel), jtb_at 85 (by decide +kernel) (by decide +kernel), kc_X6_run, rfl, ⟨by decide, by decide, by decide +kernel⟩⟩
set_option maxRecDepth 100000 in
theorem kc_X5_most : Cond.code yX5_most cX5_most 2 (some .int) ∈ jtb := jtb_at 721 (by rfl) (by rfl)
theorem cv_L_122 : jcwV RL 122 RX5 yX5_most cX5_most 2 (some .int) 0 := ⟨jtb_at 718 (by decide +kernel) (by decide +kernel), jtb_at 719 (by decide +kernel) (by decide +kernel), jtb_at 720 (by decide +kernel) (by decide +kernel), jtb_at 77 (by decide +kernel) (by decide +kernel), kc_X5_most, rfl, ⟨by decide, by decide, by decide +kernel⟩⟩
set_option maxRecDepth 100000 in
theorem kc_X6_most : Cond.code yX6_most cX6_most 5 (some .int) ∈ jtb := jtb_at 1273 (by rfl) (by rfl)
theorem cv_L_125 : jcwV RL 125 RX6 yX6_most cX6_most 5 (some .int) 0 := ⟨jtb_at 1270 (by decide +kernel) (by decide +kernel), jtb_at 1271 (by decide +kernel) (by decide +kernel), jtb_at 1272 (by decide +kernel) (by decide +kernel), jtb_at 85 (by decide +kernel) (by decide +kernel), kc_X6_most, rfl, ⟨by decide, by decide, by decide +kernel⟩⟩
set_option maxRecDepth 100000 in
theorem kc_X5_fewest : Cond.code yX5_fewest cX5_fewest 2 (some .int) ∈ jtb := jtb_at 760 (by rfl) (by rfl)
theorem cv_L_126 : jcwV RL 126 RX5 yX5_fewest cX5_fewest 2 (some .int) 1 := ⟨jtb_at 757 (by decide +kernel) (by decide +kernel), jtb_at 758 (by decide +kernel) (by decide +kernel), jtb_at 759 (by decide +kernel) (by decide +kernel), jtb_at 77 (by decide +kernel) (by decide +kernel), kc_X5_fewest, rfl, ⟨by decide, by decide, by decide +kernel⟩⟩
set_option maxRecDepth 100000 in
theorem kc_X6_fewest : Cond.code yX6_fewest cX6_fewest 4 (some .int) ∈ jtb := jtb_at 1304 (by rfl) (by rfl)
theorem cv_L_129 : jcwV RL 129 RX6 yX6_fewest cX6_fewest 4 (some .int) 1 := ⟨jtb_at 1301 (by decide +kernel) (by decide +kernel), jtb_at 1302 (by decide +kernel) (by decide +kernel), jtb_at 1303 (by decide +kernel) (by decide +kernel), jtb_at 85 (by decide +kernel) (by decide +kernel), kc_X6_fewest, rfl, ⟨by decide, by decide, by decide +kernel⟩⟩
set_option maxRecDepth 100000 in
theorem kc_X5_order : Cond.code yX5_order cX5_order 4 (some .int) ∈ jtb := jtb_at 774 (by rfl) (by rfl)
theorem cv_L_130 : jcwV RL 130 RX5 yX5_order cX5_order 4 (some .int) 2 := ⟨jtb_at 771 (by decide +kernel) (by decide +kernel), jtb_at 772 (by decide +kernel) (by decide +kernel), jtb_at 773 (by decide +kernel) (by decide +kernel), jtb_at 77 (by decide +kernel) (by decide +kernel), kc_X5_order, rfl, ⟨by decide, by decide, by decide +kernel⟩⟩
set_option maxRecDepth 100000 in
theorem kc_X6_order : Cond.code yX6_order cX6_order 11 (some .int) ∈ jtb := jtb_at 1308 (by rfl) (by rfl)
theorem cv_L_133 : jcwV RL 133 RX6 yX6_order cX6_order 11 (some .int) 2 := ⟨jtb_at 1305 (by decide +kernel) (by decide +kernel), jtb_at 1306 (by decide +kernel) (by decide +kernel), jtb_at 1307 (by decide +kernel) (by decide +kernel), jtb_at 85 (by decide +kernel) (by decide +kernel), kc_X6_order, rfl, ⟨by decide, by decide, by decide +kernel⟩⟩
set_option maxRecDepth 100000 in
theorem kc_X5_shut : Cond.code yX5_shut cX5_shut 5 (some .int) ∈ jtb := jtb_at 802 (by rfl) (by rfl)
theorem cv_L_134 : jcwV RL 134 RX5 yX5_shut cX5_shut 5 (some .int) 0 := ⟨jtb_at 799 (by decide +kernel) (by decide +kernel), jtb_at 800 (by decide +kernel) (by decide +kernel), jtb_at 801 (by decide +kernel) (by decide +kernel), jtb_at 77 (by decide +kernel) (by decide +kernel), kc_X5_shut, rfl, ⟨by decide, by decide, by decide +kernel⟩⟩
set_option maxRecDepth 100000 in
theorem kc_X6_shut : Cond.code yX6_shut cX6_shut 4 (some .int) ∈ jtb := jtb_at 1317 (by rfl) (by rfl)
theorem cv_L_137 : jcwV RL 137 RX6 yX6_shut cX6_shut 4 (some .int) 0 := ⟨jtb_at 1314 (by decide +kernel) (by decide +kernel), jtb_at 1315 (by decide +kernel) (by decide +kernel), jtb_at 1316 (by decide +kernel) (by decide +kernel), jtb_at 85 (by decide +kernel) (by decide +kernel), kc_X6_shut, rfl, ⟨by decide, by decide, by decide +kernel⟩⟩
set_option maxRecDepth 100000 in
theorem kc_X5_waits : Cond.code yX5_waits cX5_waits 5 (some .int) ∈ jtb := jtb_at 806 (by rfl) (by rfl)
theorem cv_L_138 : jcwV RL 138 RX5 yX5_waits cX5_waits 5 (some .int) 1 := ⟨jtb_at 803 (by decide +kernel) (by decide +kernel), jtb_at 804 (by decide +kernel) (by decide +kernel), jtb_at 805 (by decide +kernel) (by decide +kernel), jtb_at 77 (by decide +kernel) (by decide +kernel), kc_X5_waits, rfl, ⟨by decide, by decide, by decide +kernel⟩⟩
set_option maxRecDepth 100000 in
theorem kc_X6_waits : Cond.code yX6_waits cX6_waits 3 (some .int) ∈ jtb := jtb_at 1321 (by rfl) (by rfl)
theorem cv_L_141 : jcwV RL 141 RX6 yX6_waits cX6_waits 3 (some .int) 1 := ⟨jtb_at 1318 (by decide +kernel) (by decide +kernel), jtb_at 1319 (by decide +kernel) (by decide +kernel), jtb_at 1320 (by decide +kernel) (by decide +kernel), jtb_at 85 (by decide +kernel) (by decide +kernel), kc_X6_waits, rfl, ⟨by decide, by decide, by decide +kernel⟩⟩
set_option maxRecDepth 100000 in
theorem kc_X5_diary : Cond.code yX5_diary cX5_diary 5 (some .int) ∈ jtb := jtb_at 818 (by rfl) (by rfl)
theorem cv_L_142 : jcwV RL 142 RX5 yX5_diary cX5_diary 5 (some .int) 1 := ⟨jtb_at 815 (by decide +kernel) (by decide +kernel), jtb_at 816 (by decide +kernel) (by decide +kernel), jtb_at 817 (by decide +kernel) (by decide +kernel), jtb_at 77 (by decide +kernel) (by decide +kernel), kc_X5_diary, rfl, ⟨by decide, by decide, by decide +kernel⟩⟩
set_option maxRecDepth 100000 in
theorem kc_X6_diary : Cond.code yX6_diary cX6_diary 6 (some .int) ∈ jtb := jtb_at 1325 (by rfl) (by rfl)
theorem cv_L_145 : jcwV RL 145 RX6 yX6_diary cX6_diary 6 (some .int) 1 := ⟨jtb_at 1322 (by decide +kernel) (by decide +kernel), jtb_at 1323 (by decide +kernel) (by decide +kernel), jtb_at 1324 (by decide +kernel) (by decide +kernel), jtb_at 85 (by decide +kernel) (by decide +kernel), kc_X6_diary, rfl, ⟨by decide, by decide, by decide +kernel⟩⟩
set_option maxRecDepth 100000 in
theorem kc_X5_forged : Cond.code yX5_forged cX5_forged 4 (some .int) ∈ jtb := jtb_at 834 (by rfl) (by rfl)
theorem cv_L_146 : jcwV RL 146 RX5 yX5_forged cX5_forged 4 (some .int) 1 := ⟨jtb_at 831 (by decide +kernel) (by decide +kernel), jtb_at 832 (by decide +kernel) (by decide +kernel), jtb_at 833 (by decide +kernel) (by decide +kernel), jtb_at 77 (by decide +kernel) (by decide +kernel), kc_X5_forged, rfl, ⟨by decide, by decide, by decide +kernel⟩⟩
set_option maxRecDepth 100000 in
theorem kc_X6_forged : Cond.code yX6_forged cX6_forged 4 (some .int) ∈ jtb := jtb_at 1342 (by rfl) (by rfl)
theorem cv_L_149 : jcwV RL 149 RX6 yX6_forged cX6_forged 4 (some .int) 1 := ⟨jtb_at 1339 (by decide +kernel) (by decide +kernel), jtb_at 1340 (by decide +kernel) (by decide +kernel), jtb_at 1341 (by decide +kernel) (by decide +kernel), jtb_at 85 (by decide +kernel) (by decide +kernel), kc_X6_forged, rfl, ⟨by decide, by decide, by decide +kernel⟩⟩
set_option maxRecDepth 100000 in
theorem kc_X5_stolen : Cond.code yX5_stolen cX5_stolen 4 (some .int) ∈ jtb := jtb_at 838 (by rfl) (by rfl)
theorem cv_L_150 : jcwV RL 150 RX5 yX5_stolen cX5_stolen 4 (some .int) 2 := ⟨jtb_at 835 (by decide +kernel) (by decide +kernel), jtb_at 836 (by decide +kernel) (by decide +kernel), jtb_at 837 (by decide +kernel) (by decide +kernel), jtb_at 77 (by decide +kernel) (by decide +kernel), kc_X5_stolen, rfl, ⟨by decide, by decide, by decide +kernel⟩⟩
set_option maxRecDepth 100000 in
theorem kc_X6_stolen : Cond.code yX6_stolen cX6_stolen 5 (some .int) ∈ jtb := jtb_at 1346 (by rfl) (by rfl)
theorem cv_L_153 : jcwV RL 153 RX6 yX6_stolen cX6_stolen 5 (some .int) 2 := ⟨jtb_at 1343 (by decide +kernel) (by decide +kernel), jtb_at 1344 (by decide +kernel) (by decide +kernel), jtb_at 1345 (by decide +kernel) (by decide +kernel), jtb_at 85 (by decide +kernel) (by decide +kernel), kc_X6_stolen, rfl, ⟨by decide, by decide, by decide +kernel⟩⟩
set_option maxRecDepth 100000 in
theorem kc_X5_odds : Cond.code yX5_odds cX5_odds 8 (some .int) ∈ jtb := jtb_at 843 (by rfl) (by rfl)
theorem cv_L_154 : jcwV RL 154 RX5 yX5_odds cX5_odds 8 (some .int) 1 := ⟨jtb_at 840 (by decide +kernel) (by decide +kernel), jtb_at 841 (by decide +kernel) (by decide +kernel), jtb_at 842 (by decide +kernel) (by decide +kernel), jtb_at 77 (by decide +kernel) (by decide +kernel), kc_X5_odds, rfl, ⟨by decide, by decide, by decide +kernel⟩⟩
set_option maxRecDepth 100000 in
theorem kc_X6_odds : Cond.code yX6_odds cX6_odds 5 (some .int) ∈ jtb := jtb_at 1352 (by rfl) (by rfl)
theorem cv_L_157 : jcwV RL 157 RX6 yX6_odds cX6_odds 5 (some .int) 1 := ⟨jtb_at 1349 (by decide +kernel) (by decide +kernel), jtb_at 1350 (by decide +kernel) (by decide +kernel), jtb_at 1351 (by decide +kernel) (by decide +kernel), jtb_at 85 (by decide +kernel) (by decide +kernel), kc_X6_odds, rfl, ⟨by decide, by decide, by decide +kernel⟩⟩
set_option maxRecDepth 100000 in
theorem kc_X5_lots : Cond.code yX5_lots cX5_lots 7 (some .int) ∈ jtb := jtb_at 852 (by rfl) (by rfl)
theorem cv_L_158 : jcwV RL 158 RX5 yX5_lots cX5_lots 7 (some .int) 2 := ⟨jtb_at 849 (by decide +kernel) (by decide +kernel), jtb_at 850 (by decide +kernel) (by decide +kernel), jtb_at 851 (by decide +kernel) (by decide +kernel), jtb_at 77 (by decide +kernel) (by decide +kernel), kc_X5_lots, rfl, ⟨by decide, by decide, by decide +kernel⟩⟩
set_option maxRecDepth 100000 in
theorem kc_X6_lots : Cond.code yX6_lots cX6_lots 12 (some .int) ∈ jtb := jtb_at 1356 (by rfl) (by rfl)
theorem cv_L_161 : jcwV RL 161 RX6 yX6_lots cX6_lots 12 (some .int) 2 := ⟨jtb_at 1353 (by decide +kernel) (by decide +kernel), jtb_at 1354 (by decide +kernel) (by decide +kernel), jtb_at 1355 (by decide +kernel) (by decide +kernel), jtb_at 85 (by decide +kernel) (by decide +kernel), kc_X6_lots, rfl, ⟨by decide, by decide, by decide +kernel⟩⟩
set_option maxRecDepth 100000 in
theorem kc_X5_asked : Cond.code yX5_asked cX5_asked 1 (some .int) ∈ jtb := jtb_at 866 (by rfl) (by rfl)
theorem cv_L_162 : jcwV RL 162 RX5 yX5_asked cX5_asked 1 (some .int) 0 := ⟨jtb_at 863 (by decide +kernel) (by decide +kernel), jtb_at 864 (by decide +kernel) (by decide +kernel), jtb_at 865 (by decide +kernel) (by decide +kernel), jtb_at 77 (by decide +kernel) (by decide +kernel), kc_X5_asked, rfl, ⟨by decide, by decide, by decide +kernel⟩⟩
set_option maxRecDepth 100000 in
theorem kc_X6_asked : Cond.code yX6_asked cX6_asked 1 (some .int) ∈ jtb := jtb_at 1369 (by rfl) (by rfl)
theorem cv_L_165 : jcwV RL 165 RX6 yX6_asked cX6_asked 1 (some .int) 0 := ⟨jtb_at 1366 (by decide +kernel) (by decide +kernel), jtb_at 1367 (by decide +kernel) (by decide +kernel), jtb_at 1368 (by decide +kernel) (by decide +kernel), jtb_at 85 (by decide +kernel) (by decide +kernel), kc_X6_asked, rfl, ⟨by decide, by decide, by decide +kernel⟩⟩
set_option maxRecDepth 100000 in
theorem kc_X5_upper : Cond.code yX5_upper cX5_upper 1 (some .long) ∈ jtb := jtb_at 870 (by rfl) (by rfl)
theorem cv_L_166 : jcwV RL 166 RX5 yX5_upper cX5_upper 1 (some .long) 0 := ⟨jtb_at 867 (by decide +kernel) (by decide +kernel), jtb_at 868 (by decide +kernel) (by decide +kernel), jtb_at 869 (by decide +kernel) (by decide +kernel), jtb_at 77 (by decide +kernel) (by decide +kernel), kc_X5_upper, rfl, ⟨by decide, by decide, by decide +kernel⟩⟩
set_option maxRecDepth 100000 in
theorem kc_X6_upper : Cond.code yX6_upper cX6_upper 1 (some .long) ∈ jtb := jtb_at 1373 (by rfl) (by rfl)
theorem cv_L_170 : jcwV RL 170 RX6 yX6_upper cX6_upper 1 (some .long) 0 := ⟨jtb_at 1370 (by decide +kernel) (by decide +kernel), jtb_at 1371 (by decide +kernel) (by decide +kernel), jtb_at 1372 (by decide +kernel) (by decide +kernel), jtb_at 85 (by decide +kernel) (by decide +kernel), kc_X6_upper, rfl, ⟨by decide, by decide, by decide +kernel⟩⟩
set_option maxRecDepth 100000 in
theorem kc_X5_lower : Cond.code yX5_lower cX5_lower 1 (some .long) ∈ jtb := jtb_at 874 (by rfl) (by rfl)
theorem cv_L_171 : jcwV RL 171 RX5 yX5_lower cX5_lower 1 (some .long) 0 := ⟨jtb_at 871 (by decide +kernel) (by decide +kernel), jtb_at 872 (by decide +kernel) (by decide +kernel), jtb_at 873 (by decide +kernel) (by decide +kernel), jtb_at 77 (by decide +kernel) (by decide +kernel), kc_X5_lower, rfl, ⟨by decide, by decide, by decide +kernel⟩⟩
set_option maxRecDepth 100000 in
theorem kc_X6_lower : Cond.code yX6_lower cX6_lower 1 (some .long) ∈ jtb := jtb_at 1377 (by rfl) (by rfl)
theorem cv_L_174 : jcwV RL 174 RX6 yX6_lower cX6_lower 1 (some .long) 0 := ⟨jtb_at 1374 (by decide +kernel) (by decide +kernel), jtb_at 1375 (by decide +kernel) (by decide +kernel), jtb_at 1376 (by decide +kernel) (by decide +kernel), jtb_at 85 (by decide +kernel) (by decide +kernel), kc_X6_lower, rfl, ⟨by decide, by decide, by decide +kernel⟩⟩
set_option maxRecDepth 100000 in
theorem kc_X5_count : Cond.code yX5_count cX5_count 2 (some .int) ∈ jtb := jtb_at 878 (by rfl) (by rfl)
theorem cv_L_175 : jcwV RL 175 RX5 yX5_count cX5_count 2 (some .int) 1 := ⟨jtb_at 875 (by decide +kernel) (by decide +kernel), jtb_at 876 (by decide +kernel) (by decide +kernel), jtb_at 877 (by decide +kernel) (by decide +kernel), jtb_at 77 (by decide +kernel) (by decide +kernel), kc_X5_count, rfl, ⟨by decide, by decide, by decide +kernel⟩⟩
theorem cv_L_178 : jcwV RL 178 RX6 yX6_count cX6_count 4 (some .int) 1 := ⟨jtb_at 1378 (by decide +kernel) (by decide +kernel), jtb_at 1379 (by decide +kernel) (by decide +kernel), jtb_at 1380 (by decide +kernel) (by decide +kernel), jtb_at 85 (by decide +kernel) (by decide +kernel), kc_X6_count, rfl, ⟨by decide, by decide, by decide +kernel⟩⟩
set_option maxRecDepth 100000 in
theorem kc_X5_finding : Cond.code yX5_finding cX5_finding 1 (some .int) ∈ jtb := jtb_at 899 (by rfl) (by rfl)
theorem cv_L_179 : jcwV RL 179 RX5 yX5_finding cX5_finding 1 (some .int) 0 := ⟨jtb_at 896 (by decide +kernel) (by decide +kernel), jtb_at 897 (by decide +kernel) (by decide +kernel), jtb_at 898 (by decide +kernel) (by decide +kernel), jtb_at 77 (by decide +kernel) (by decide +kernel), kc_X5_finding, rfl, ⟨by decide, by decide, by decide +kernel⟩⟩
set_option maxRecDepth 100000 in
theorem kc_X6_finding : Cond.code yX6_finding cX6_finding 1 (some .int) ∈ jtb := jtb_at 1388 (by rfl) (by rfl)
theorem cv_L_182 : jcwV RL 182 RX6 yX6_finding cX6_finding 1 (some .int) 0 := ⟨jtb_at 1385 (by decide +kernel) (by decide +kernel), jtb_at 1386 (by decide +kernel) (by decide +kernel), jtb_at 1387 (by decide +kernel) (by decide +kernel), jtb_at 85 (by decide +kernel) (by decide +kernel), kc_X6_finding, rfl, ⟨by decide, by decide, by decide +kernel⟩⟩
set_option maxRecDepth 100000 in
theorem kc_X5_findings : Cond.code yX5_findings cX5_findings 2 (some .int) ∈ jtb := jtb_at 903 (by rfl) (by rfl)
theorem cv_L_183 : jcwV RL 183 RX5 yX5_findings cX5_findings 2 (some .int) 1 := ⟨jtb_at 900 (by decide +kernel) (by decide +kernel), jtb_at 901 (by decide +kernel) (by decide +kernel), jtb_at 902 (by decide +kernel) (by decide +kernel), jtb_at 77 (by decide +kernel) (by decide +kernel), kc_X5_findings, rfl, ⟨by decide, by decide, by decide +kernel⟩⟩
set_option maxRecDepth 100000 in
theorem kc_X6_findings : Cond.code yX6_findings cX6_findings 2 (some .int) ∈ jtb := jtb_at 1392 (by rfl) (by rfl)
theorem cv_L_186 : jcwV RL 186 RX6 yX6_findings cX6_findings 2 (some .int) 1 := ⟨jtb_at 1389 (by decide +kernel) (by decide +kernel), jtb_at 1390 (by decide +kernel) (by decide +kernel), jtb_at 1391 (by decide +kernel) (by decide +kernel), jtb_at 85 (by decide +kernel) (by decide +kernel), kc_X6_findings, rfl, ⟨by decide, by decide, by decide +kernel⟩⟩
set_option maxRecDepth 100000 in
theorem kc_X5_digest : Cond.code yX5_digest cX5_digest 5 (some .long) ∈ jtb := jtb_at 907 (by rfl) (by rfl)
theorem cv_L_187 : jcwV RL 187 RX5 yX5_digest cX5_digest 5 (some .long) 0 := ⟨jtb_at 904 (by decide +kernel) (by decide +kernel), jtb_at 905 (by decide +kernel) (by decide +kernel), jtb_at 906 (by decide +kernel) (by decide +kernel), jtb_at 77 (by decide +kernel) (by decide +kernel), kc_X5_digest, rfl, ⟨by decide, by decide, by decide +kernel⟩⟩
set_option maxRecDepth 100000 in
theorem kc_X6_digest : Cond.code yX6_digest cX6_digest 3 (some .long) ∈ jtb := jtb_at 1396 (by rfl) (by rfl)
theorem cv_L_190 : jcwV RL 190 RX6 yX6_digest cX6_digest 3 (some .long) 0 := ⟨jtb_at 1393 (by decide +kernel) (by decide +kernel), jtb_at 1394 (by decide +kernel) (by decide +kernel), jtb_at 1395 (by decide +kernel) (by decide +kernel), jtb_at 85 (by decide +kernel) (by decide +kernel), kc_X6_digest, rfl, ⟨by decide, by decide, by decide +kernel⟩⟩
