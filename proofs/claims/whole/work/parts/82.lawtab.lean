/-! THE LAW: its switch, its loop -/
theorem ym_P_part : ymeth 13 m_P_part 4 1 := ⟨xGT_in 412 (by decide +kernel) rfl, by decide +kernel, by decide +kernel, by decide +kernel, by decide +kernel, by decide +kernel⟩
theorem ym_M_part : ymeth 17 m_M_part 40 1 := ⟨xGT_in 1063 (by decide +kernel) rfl, by decide +kernel, by decide +kernel, by decide +kernel, by decide +kernel, by decide +kernel⟩
theorem yc_part : ycase 196 1 13 17 = true := by decide +kernel
theorem ym_P_partIs : ymeth 18 m_P_partIs 4 2 := ⟨xGT_in 431 (by decide +kernel) rfl, by decide +kernel, by decide +kernel, by decide +kernel, by decide +kernel, by decide +kernel⟩
theorem ym_M_partIs : ymeth 22 m_M_partIs 40 2 := ⟨xGT_in 1080 (by decide +kernel) rfl, by decide +kernel, by decide +kernel, by decide +kernel, by decide +kernel, by decide +kernel⟩
theorem yc_partIs : ycase 219 2 18 22 = true := by decide +kernel
theorem ym_P_become : ymeth 23 m_P_become 4 2 := ⟨xGT_in 459 (by decide +kernel) rfl, by decide +kernel, by decide +kernel, by decide +kernel, by decide +kernel, by decide +kernel⟩
theorem ym_M_become : ymeth 26 m_M_become 40 2 := ⟨xGT_in 1112 (by decide +kernel) rfl, by decide +kernel, by decide +kernel, by decide +kernel, by decide +kernel, by decide +kernel⟩
theorem yc_become : ycase 252 2 23 26 = true := by decide +kernel
theorem ym_P_as : ymeth 27 m_P_as 4 2 := ⟨xGT_in 463 (by decide +kernel) rfl, by decide +kernel, by decide +kernel, by decide +kernel, by decide +kernel, by decide +kernel⟩
theorem ym_M_as : ymeth 30 m_M_as 40 2 := ⟨xGT_in 1120 (by decide +kernel) rfl, by decide +kernel, by decide +kernel, by decide +kernel, by decide +kernel, by decide +kernel⟩
theorem yc_as : ycase 285 2 27 30 = true := by decide +kernel
theorem ym_P_child : ymeth 31 m_P_child 4 3 := ⟨xGT_in 473 (by decide +kernel) rfl, by decide +kernel, by decide +kernel, by decide +kernel, by decide +kernel, by decide +kernel⟩
theorem ym_M_child : ymeth 35 m_M_child 40 3 := ⟨xGT_in 1125 (by decide +kernel) rfl, by decide +kernel, by decide +kernel, by decide +kernel, by decide +kernel, by decide +kernel⟩
theorem yc_child : ycase 318 3 31 35 = true := by decide +kernel
theorem ym_P_childIs : ymeth 36 m_P_childIs 4 2 := ⟨xGT_in 481 (by decide +kernel) rfl, by decide +kernel, by decide +kernel, by decide +kernel, by decide +kernel, by decide +kernel⟩
theorem ym_M_childIs : ymeth 39 m_M_childIs 40 2 := ⟨xGT_in 1133 (by decide +kernel) rfl, by decide +kernel, by decide +kernel, by decide +kernel, by decide +kernel, by decide +kernel⟩
theorem yc_childIs : ycase 361 2 36 39 = true := by decide +kernel
theorem ym_P_wishes : ymeth 40 m_P_wishes 4 3 := ⟨xGT_in 528 (by decide +kernel) rfl, by decide +kernel, by decide +kernel, by decide +kernel, by decide +kernel, by decide +kernel⟩
theorem ym_M_wishes : ymeth 43 m_M_wishes 40 3 := ⟨xGT_in 1167 (by decide +kernel) rfl, by decide +kernel, by decide +kernel, by decide +kernel, by decide +kernel, by decide +kernel⟩
theorem yc_wishes : ycase 394 3 40 43 = true := by decide +kernel
theorem ym_P_falls : ymeth 44 m_P_falls 4 2 := ⟨xGT_in 537 (by decide +kernel) rfl, by decide +kernel, by decide +kernel, by decide +kernel, by decide +kernel, by decide +kernel⟩
theorem ym_M_falls : ymeth 47 m_M_falls 40 2 := ⟨xGT_in 1171 (by decide +kernel) rfl, by decide +kernel, by decide +kernel, by decide +kernel, by decide +kernel, by decide +kernel⟩
theorem yc_falls : ycase 437 2 44 47 = true := by decide +kernel
theorem ym_P_worth : ymeth 48 m_P_worth 4 2 := ⟨xGT_in 541 (by decide +kernel) rfl, by decide +kernel, by decide +kernel, by decide +kernel, by decide +kernel, by decide +kernel⟩
theorem ym_M_worth : ymeth 51 m_M_worth 40 2 := ⟨xGT_in 1175 (by decide +kernel) rfl, by decide +kernel, by decide +kernel, by decide +kernel, by decide +kernel, by decide +kernel⟩
theorem yc_worth : ycase 470 2 48 51 = true := by decide +kernel
theorem ym_P_cast : ymeth 52 m_P_cast 4 2 := ⟨xGT_in 546 (by decide +kernel) rfl, by decide +kernel, by decide +kernel, by decide +kernel, by decide +kernel, by decide +kernel⟩
theorem ym_M_cast : ymeth 55 m_M_cast 40 2 := ⟨xGT_in 1179 (by decide +kernel) rfl, by decide +kernel, by decide +kernel, by decide +kernel, by decide +kernel, by decide +kernel⟩
theorem yc_cast : ycase 503 2 52 55 = true := by decide +kernel
theorem ym_P_feed : ymeth 58 m_P_feed 4 2 := ⟨xGT_in 551 (by decide +kernel) rfl, by decide +kernel, by decide +kernel, by decide +kernel, by decide +kernel, by decide +kernel⟩
theorem ym_M_feed : ymeth 62 m_M_feed 40 2 := ⟨xGT_in 1184 (by decide +kernel) rfl, by decide +kernel, by decide +kernel, by decide +kernel, by decide +kernel, by decide +kernel⟩
theorem ym_P_text : ymeth 63 m_P_text 4 1 := ⟨xGT_in 555 (by decide +kernel) rfl, by decide +kernel, by decide +kernel, by decide +kernel, by decide +kernel, by decide +kernel⟩
theorem ym_M_text : ymeth 66 m_M_text 40 1 := ⟨xGT_in 1189 (by decide +kernel) rfl, by decide +kernel, by decide +kernel, by decide +kernel, by decide +kernel, by decide +kernel⟩
theorem yc_text : ycase 599 1 63 66 = true := by decide +kernel
theorem ym_P_untell : ymeth 67 m_P_untell 4 1 := ⟨xGT_in 694 (by decide +kernel) rfl, by decide +kernel, by decide +kernel, by decide +kernel, by decide +kernel, by decide +kernel⟩
theorem ym_M_untell : ymeth 70 m_M_untell 40 1 := ⟨xGT_in 1237 (by decide +kernel) rfl, by decide +kernel, by decide +kernel, by decide +kernel, by decide +kernel, by decide +kernel⟩
theorem yc_untell : ycase 622 1 67 70 = true := by decide +kernel
theorem ym_P_law : ymeth 71 m_P_law 4 4 := ⟨xGT_in 698 (by decide +kernel) rfl, by decide +kernel, by decide +kernel, by decide +kernel, by decide +kernel, by decide +kernel⟩
theorem ym_M_law : ymeth 75 m_M_law 40 4 := ⟨xGT_in 1241 (by decide +kernel) rfl, by decide +kernel, by decide +kernel, by decide +kernel, by decide +kernel, by decide +kernel⟩
theorem yc_law : ycase 645 4 71 75 = true := by decide +kernel
theorem ym_P_play : ymeth 76 m_P_play 4 0 := ⟨xGT_in 703 (by decide +kernel) rfl, by decide +kernel, by decide +kernel, by decide +kernel, by decide +kernel, by decide +kernel⟩
theorem ym_M_play : ymeth 80 m_M_play 40 0 := ⟨xGT_in 1245 (by decide +kernel) rfl, by decide +kernel, by decide +kernel, by decide +kernel, by decide +kernel, by decide +kernel⟩
theorem yc_play : ycase 698 0 76 80 = true := by decide +kernel
theorem ym_P_lots : ymeth 81 m_P_lots 4 0 := ⟨xGT_in 714 (by decide +kernel) rfl, by decide +kernel, by decide +kernel, by decide +kernel, by decide +kernel, by decide +kernel⟩
theorem ym_M_lots : ymeth 84 m_M_lots 40 0 := ⟨xGT_in 1259 (by decide +kernel) rfl, by decide +kernel, by decide +kernel, by decide +kernel, by decide +kernel, by decide +kernel⟩
theorem yc_lots : ycase 711 0 81 84 = true := by decide +kernel
theorem ym_P_loose : ymeth 85 m_P_loose 4 1 := ⟨xGT_in 740 (by decide +kernel) rfl, by decide +kernel, by decide +kernel, by decide +kernel, by decide +kernel, by decide +kernel⟩
theorem ym_M_loose : ymeth 88 m_M_loose 40 1 := ⟨xGT_in 1283 (by decide +kernel) rfl, by decide +kernel, by decide +kernel, by decide +kernel, by decide +kernel, by decide +kernel⟩
theorem yc_loose : ycase 724 1 85 88 = true := by decide +kernel
theorem ym_P_seed : ymeth 89 m_P_seed 4 1 := ⟨xGT_in 744 (by decide +kernel) rfl, by decide +kernel, by decide +kernel, by decide +kernel, by decide +kernel, by decide +kernel⟩
theorem ym_M_seed : ymeth 92 m_M_seed 40 1 := ⟨xGT_in 1287 (by decide +kernel) rfl, by decide +kernel, by decide +kernel, by decide +kernel, by decide +kernel, by decide +kernel⟩
theorem yc_seed : ycase 747 1 89 92 = true := by decide +kernel
theorem ym_P_best : ymeth 93 m_P_best 4 1 := ⟨xGT_in 748 (by decide +kernel) rfl, by decide +kernel, by decide +kernel, by decide +kernel, by decide +kernel, by decide +kernel⟩
theorem ym_M_best : ymeth 96 m_M_best 40 1 := ⟨xGT_in 1291 (by decide +kernel) rfl, by decide +kernel, by decide +kernel, by decide +kernel, by decide +kernel, by decide +kernel⟩
theorem yc_best : ycase 770 1 93 96 = true := by decide +kernel
theorem ym_P_wished : ymeth 97 m_P_wished 4 0 := ⟨xGT_in 787 (by decide +kernel) rfl, by decide +kernel, by decide +kernel, by decide +kernel, by decide +kernel, by decide +kernel⟩
theorem ym_M_wished : ymeth 100 m_M_wished 40 0 := ⟨xGT_in 1308 (by decide +kernel) rfl, by decide +kernel, by decide +kernel, by decide +kernel, by decide +kernel, by decide +kernel⟩
theorem yc_wished : ycase 793 0 97 100 = true := by decide +kernel
theorem ym_P_without : ymeth 101 m_P_without 4 1 := ⟨xGT_in 796 (by decide +kernel) rfl, by decide +kernel, by decide +kernel, by decide +kernel, by decide +kernel, by decide +kernel⟩
theorem ym_M_without : ymeth 104 m_M_without 40 1 := ⟨xGT_in 1312 (by decide +kernel) rfl, by decide +kernel, by decide +kernel, by decide +kernel, by decide +kernel, by decide +kernel⟩
theorem yc_without : ycase 806 1 101 104 = true := by decide +kernel
theorem ym_P_lies : ymeth 105 m_P_lies 4 2 := ⟨xGT_in 804 (by decide +kernel) rfl, by decide +kernel, by decide +kernel, by decide +kernel, by decide +kernel, by decide +kernel⟩
theorem ym_M_lies : ymeth 108 m_M_lies 40 2 := ⟨xGT_in 1316 (by decide +kernel) rfl, by decide +kernel, by decide +kernel, by decide +kernel, by decide +kernel, by decide +kernel⟩
theorem yc_lies : ycase 829 2 105 108 = true := by decide +kernel
theorem ym_P_odds : ymeth 109 m_P_odds 4 2 := ⟨xGT_in 841 (by decide +kernel) rfl, by decide +kernel, by decide +kernel, by decide +kernel, by decide +kernel, by decide +kernel⟩
theorem ym_M_odds : ymeth 112 m_M_odds 40 2 := ⟨xGT_in 1331 (by decide +kernel) rfl, by decide +kernel, by decide +kernel, by decide +kernel, by decide +kernel, by decide +kernel⟩
theorem yc_odds : ycase 862 2 109 112 = true := by decide +kernel
theorem ym_P_fits : ymeth 113 m_P_fits 4 2 := ⟨xGT_in 854 (by decide +kernel) rfl, by decide +kernel, by decide +kernel, by decide +kernel, by decide +kernel, by decide +kernel⟩
theorem ym_M_fits : ymeth 116 m_M_fits 40 2 := ⟨xGT_in 1335 (by decide +kernel) rfl, by decide +kernel, by decide +kernel, by decide +kernel, by decide +kernel, by decide +kernel⟩
theorem yc_fits : ycase 895 2 113 116 = true := by decide +kernel
theorem ym_P_voice : ymeth 117 m_P_voice 4 3 := ⟨xGT_in 866 (by decide +kernel) rfl, by decide +kernel, by decide +kernel, by decide +kernel, by decide +kernel, by decide +kernel⟩
theorem ym_M_voice : ymeth 120 m_M_voice 40 3 := ⟨xGT_in 1346 (by decide +kernel) rfl, by decide +kernel, by decide +kernel, by decide +kernel, by decide +kernel, by decide +kernel⟩
theorem yc_voice : ycase 928 3 117 120 = true := by decide +kernel
theorem ym_P_body : ymeth 121 m_P_body 4 1 := ⟨xGT_in 898 (by decide +kernel) rfl, by decide +kernel, by decide +kernel, by decide +kernel, by decide +kernel, by decide +kernel⟩
theorem ym_M_body : ymeth 124 m_M_body 40 1 := ⟨xGT_in 1395 (by decide +kernel) rfl, by decide +kernel, by decide +kernel, by decide +kernel, by decide +kernel, by decide +kernel⟩
theorem yc_body : ycase 971 1 121 124 = true := by decide +kernel
theorem ym_P_sheet : ymeth 125 m_P_sheet 4 3 := ⟨xGT_in 902 (by decide +kernel) rfl, by decide +kernel, by decide +kernel, by decide +kernel, by decide +kernel, by decide +kernel⟩
theorem ym_M_sheet : ymeth 128 m_M_sheet 40 3 := ⟨xGT_in 1399 (by decide +kernel) rfl, by decide +kernel, by decide +kernel, by decide +kernel, by decide +kernel, by decide +kernel⟩
theorem yc_sheet : ycase 994 3 125 128 = true := by decide +kernel
theorem ym_P_put : ymeth 129 m_P_put 4 3 := ⟨xGT_in 910 (by decide +kernel) rfl, by decide +kernel, by decide +kernel, by decide +kernel, by decide +kernel, by decide +kernel⟩
theorem ym_M_put : ymeth 132 m_M_put 40 3 := ⟨xGT_in 1403 (by decide +kernel) rfl, by decide +kernel, by decide +kernel, by decide +kernel, by decide +kernel, by decide +kernel⟩
theorem yc_put : ycase 1037 3 129 132 = true := by decide +kernel
theorem ym_P_move : ymeth 133 m_P_move 4 5 := ⟨xGT_in 918 (by decide +kernel) rfl, by decide +kernel, by decide +kernel, by decide +kernel, by decide +kernel, by decide +kernel⟩
theorem ym_M_move : ymeth 137 m_M_move 40 5 := ⟨xGT_in 1411 (by decide +kernel) rfl, by decide +kernel, by decide +kernel, by decide +kernel, by decide +kernel, by decide +kernel⟩
theorem yc_move : ycase 1080 5 133 137 = true := by decide +kernel
theorem ym_P_casts : ymeth 138 m_P_casts 4 1 := ⟨xGT_in 927 (by decide +kernel) rfl, by decide +kernel, by decide +kernel, by decide +kernel, by decide +kernel, by decide +kernel⟩
theorem ym_M_casts : ymeth 141 m_M_casts 40 1 := ⟨xGT_in 1419 (by decide +kernel) rfl, by decide +kernel, by decide +kernel, by decide +kernel, by decide +kernel, by decide +kernel⟩
theorem yc_casts : ycase 1143 1 138 141 = true := by decide +kernel
theorem ym_P_judge : ymeth 142 m_P_judge 4 1 := ⟨xGT_in 937 (by decide +kernel) rfl, by decide +kernel, by decide +kernel, by decide +kernel, by decide +kernel, by decide +kernel⟩
theorem ym_M_judge : ymeth 145 m_M_judge 40 1 := ⟨xGT_in 1423 (by decide +kernel) rfl, by decide +kernel, by decide +kernel, by decide +kernel, by decide +kernel, by decide +kernel⟩
theorem yc_judge : ycase 1166 1 142 145 = true := by decide +kernel
theorem ym_P_image : ymeth 146 m_P_image 4 0 := ⟨xGT_in 945 (by decide +kernel) rfl, by decide +kernel, by decide +kernel, by decide +kernel, by decide +kernel, by decide +kernel⟩
theorem ym_M_image : ymeth 149 m_M_image 40 0 := ⟨xGT_in 1427 (by decide +kernel) rfl, by decide +kernel, by decide +kernel, by decide +kernel, by decide +kernel, by decide +kernel⟩
theorem yc_image : ycase 1189 0 146 149 = true := by decide +kernel
theorem ym_P_restore : ymeth 150 m_P_restore 4 0 := ⟨xGT_in 964 (by decide +kernel) rfl, by decide +kernel, by decide +kernel, by decide +kernel, by decide +kernel, by decide +kernel⟩
theorem ym_M_restore : ymeth 153 m_M_restore 40 0 := ⟨xGT_in 1431 (by decide +kernel) rfl, by decide +kernel, by decide +kernel, by decide +kernel, by decide +kernel, by decide +kernel⟩
theorem yc_restore : ycase 1202 0 150 153 = true := by decide +kernel
theorem ym_P_tell : ymeth 154 m_P_tell 4 1 := ⟨xGT_in 968 (by decide +kernel) rfl, by decide +kernel, by decide +kernel, by decide +kernel, by decide +kernel, by decide +kernel⟩
theorem ym_M_tell : ymeth 157 m_M_tell 40 1 := ⟨xGT_in 1435 (by decide +kernel) rfl, by decide +kernel, by decide +kernel, by decide +kernel, by decide +kernel, by decide +kernel⟩
theorem yc_tell : ycase 1215 1 154 157 = true := by decide +kernel
theorem ym_P_check : ymeth 158 m_P_check 4 0 := ⟨xGT_in 972 (by decide +kernel) rfl, by decide +kernel, by decide +kernel, by decide +kernel, by decide +kernel, by decide +kernel⟩
theorem ym_M_check : ymeth 161 m_M_check 40 0 := ⟨xGT_in 1439 (by decide +kernel) rfl, by decide +kernel, by decide +kernel, by decide +kernel, by decide +kernel, by decide +kernel⟩
theorem yc_check : ycase 1238 0 158 161 = true := by decide +kernel
theorem ym_P_count : ymeth 162 m_P_count 4 1 := ⟨xGT_in 976 (by decide +kernel) rfl, by decide +kernel, by decide +kernel, by decide +kernel, by decide +kernel, by decide +kernel⟩
theorem ym_M_count : ymeth 165 m_M_count 40 1 := ⟨xGT_in 1443 (by decide +kernel) rfl, by decide +kernel, by decide +kernel, by decide +kernel, by decide +kernel, by decide +kernel⟩
theorem yc_count : ycase 1251 1 162 165 = true := by decide +kernel
theorem ym_P_told : ymeth 166 m_P_told 4 1 := ⟨xGT_in 980 (by decide +kernel) rfl, by decide +kernel, by decide +kernel, by decide +kernel, by decide +kernel, by decide +kernel⟩
theorem ym_M_told : ymeth 169 m_M_told 40 1 := ⟨xGT_in 1447 (by decide +kernel) rfl, by decide +kernel, by decide +kernel, by decide +kernel, by decide +kernel, by decide +kernel⟩
theorem yc_told : ycase 1274 1 166 169 = true := by decide +kernel
theorem yd_18 : decode code 18 = .ok (.iload_n 3, 1) := by decide +kernel
theorem yd_19 : decode code 19 = .ok (.aload_n 0, 1) := by decide +kernel
theorem yd_20 : decode code 20 = .ok (.arraylength, 1) := by decide +kernel
theorem yd_21 : decode code 21 = .ok (.bipush 6, 2) := by decide +kernel
theorem yd_23 : decode code 23 = .ok (.isub, 1) := by decide +kernel
theorem yd_24 : decode code 24 = .ok (.if_icmp .gt 1279, 3) := by decide +kernel
theorem yd_27 : decode code 27 = .ok (.aload_n 0, 1) := by decide +kernel
theorem yd_28 : decode code 28 = .ok (.iload_n 3, 1) := by decide +kernel
theorem yd_29 : decode code 29 = .ok (.iaload, 1) := by decide +kernel
theorem yd_30 : decode code 30 = .ok (.bipush 63, 2) := by decide +kernel
theorem yd_32 : decode code 32 = .ok (.iand, 1) := by decide +kernel
theorem yd_33 : decode code 33 = .ok (.tableswitch 1264 0 36 #[163, 186, 219, 252, 285, 328, 361, 404, 437, 470, 503, 566, 589, 612, 665, 678, 691, 714, 737, 760, 773, 796, 829, 862, 895, 938, 961, 1004, 1047, 1110, 1133, 1156, 1169, 1182, 1205, 1218, 1241], 163) := by decide +kernel
theorem yd_1297 : decode code 1297 = .ok (.iinc 3 6, 3) := by decide +kernel
theorem yd_1300 : decode code 1300 = .ok (.goto (-1282), 3) := by decide +kernel
theorem yd_1303 : decode code 1303 = .ok (.iconst 1, 1) := by decide +kernel
theorem yd_1304 : decode code 1304 = .ok (.ireturn, 1) := by decide +kernel
