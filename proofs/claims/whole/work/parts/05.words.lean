/-! the words of the tables, by their places -/
def xGT : List Cond := lw_tbl.filter fun w => k2_isCode w || goodWord w
theorem xGT_in {w : Cond} (i : Nat) (h : lw_tbl[i]? = some w) (hg : (k2_isCode w || goodWord w) = true) : w ∈ xGT := List.mem_filter.mpr ⟨List.mem_of_getElem? h, hg⟩
theorem xGT_good : ∀ w ∈ xGT, (w.onTables && w.keeps) = true ∨ ∃ ty, w = .arrayClass ty := by
  intro w hw
  have h := (List.mem_filter.mp hw).2
  rcases Bool.or_eq_true _ _ ▸ h with h | h
  · cases w <;> first | (simp [k2_isCode] at h; done) | exact Or.inl rfl
  · exact good_of_word h
theorem xas_mem {α : Type} : ∀ (l : List (Nat × α)) (k : Nat) (v : α), xas l k = some v → (k, v) ∈ l
  | [], _, _, h => by cases h
  | q :: r, k, v, h => by
    simp only [xas] at h
    cases hb : Nat.beq q.1 k with
    | true =>
      rw [hb] at h
      have e : q.1 = k := Nat.eq_of_beq_eq_true hb
      have e2 : q.2 = v := Option.some.inj h
      subst e; subst e2
      exact List.mem_cons_self
    | false =>
      rw [hb] at h
      exact List.mem_cons_of_mem _ (xas_mem r k v h)
theorem xnth_out {α : Type} (d : α) : ∀ (l : List α) (k : Nat), l.length ≤ k → xnth d l k = d
  | [], _, _ => rfl
  | _ :: r, 0, h => by simp at h
  | _ :: r, k + 1, h => xnth_out d r k (by simpa using h)
theorem xall_nth {α : Type} {d : List α} {T : List (List α)} {n : Nat} {f : Nat → α → Bool} (hn : T.length = n) (hd : d = []) (h : (List.range n).all (fun c => (xnth d T c).all (f c)) = true) : ∀ (c : Nat) (e : α), e ∈ xnth d T c → f c e = true := by
  intro c e he
  by_cases hc : c < n
  · exact List.all_eq_true.mp (List.all_eq_true.mp h c (List.mem_range.mpr hc)) e he
  · rw [xnth_out d T c (by omega), hd] at he
    cases he
def xfpT : List (List (Nat × (Nat × Bool))) := [[(10, (381, false)), (16, (382, false)), (22, (384, false)), (29, (385, false)), (36, (386, false)), (43, (387, false)), (49, (388, false)), (53, (389, false)), (57, (390, false)), (69, (189, true)), (73, (186, true)), (86, (119, true)), (89, (122, true)), (92, (199, true)), (111, (197, true)), (114, (193, true)), (136, (151, true)), (139, (144, true)), (150, (149, true)), (153, (207, true)), (156, (205, true)), (166, (209, true)), (170, (249, true)), (180, (176, true)), (195, (201, true)), (198, (203, true)), (214, (281, true)), (226, (310, true)), (229, (312, true)), (249, (371, true)), (264, (344, true)), (268, (342, true)), (271, (340, true)), (278, (373, true)), (281, (369, true)), (305, (383, false)), (308, (213, true)), (311, (211, true))], [(11, (185, false)), (19, (191, false)), (23, (202, false)), (27, (204, false)), (33, (208, false)), (37, (210, false)), (53, (190, false)), (56, (195, false)), (59, (198, false)), (62, (200, false)), (71, (206, false)), (74, (212, false)), (85, (148, true)), (92, (175, true)), (106, (146, true)), (109, (136, true)), (120, (141, true))], [(9, (117, false)), (15, (120, false)), (22, (143, true)), (27, (135, true)), (30, (138, true)), (33, (140, true))], [(9, (150, false)), (15, (134, false)), (19, (137, false)), (22, (139, false)), (25, (142, false)), (28, (145, false)), (31, (147, false))], [(9, (172, false)), (15, (177, false)), (18, (173, false))], [(12, (248, false)), (18, (250, false)), (24, (254, false)), (38, (251, false)), (52, (174, true)), (55, (252, false)), (58, (253, false))], [(11, (277, false)), (16, (278, false)), (19, (279, false)), (23, (194, true)), (29, (282, false)), (32, (188, true)), (35, (283, false)), (46, (192, true))], [(11, (302, false)), (15, (303, false)), (18, (304, false)), (22, (305, false)), (27, (306, false)), (30, (307, false)), (33, (187, true)), (39, (308, false)), (42, (309, false)), (45, (311, false)), (84, (280, true)), (87, (196, true))], [(11, (339, false)), (15, (345, false)), (19, (118, true)), (24, (346, false)), (25, (121, true)), (28, (347, false)), (29, (341, false)), (32, (343, false))], [(9, (368, false)), (15, (370, false)), (19, (372, false))], [(9, (990, false)), (13, (991, false)), (16, (992, false)), (19, (994, false)), (22, (995, false)), (25, (996, false)), (28, (997, false)), (31, (998, false)), (34, (999, false)), (37, (1000, false)), (40, (1001, false)), (43, (1007, false)), (46, (1008, false)), (49, (1009, false)), (52, (1010, false)), (55, (1011, false)), (127, (1003, false)), (131, (1002, false)), (134, (1006, false)), (141, (1005, false)), (149, (1004, false)), (236, (1012, false)), (263, (1013, false)), (283, (993, false))], [], [(9, (1453, false)), (15, (1452, false))], []]
def xcpT : List (List (Nat × Nat)) := [[(1, 97), (9, 102), (21, 241), (28, 271), (35, 297), (42, 335), (60, 364), (61, 416), (65, 422), (77, 427), (83, 435), (95, 439), (98, 443), (101, 447), (104, 467), (107, 419), (118, 477), (124, 485), (127, 489), (130, 524), (133, 532), (142, 545), (146, 550), (159, 559), (162, 562), (174, 689), (183, 702), (187, 707), (191, 718), (201, 752), (205, 758), (208, 775), (211, 779), (216, 791), (219, 800), (222, 808), (232, 845), (235, 846), (240, 847), (243, 851), (246, 858), (252, 861), (256, 862), (260, 870), (274, 906), (284, 914), (287, 922), (290, 926), (296, 931), (300, 941), (303, 949), (315, 518), (320, 521)], [(3, 105), (40, 113), (41, 130), (42, 168), (43, 953), (47, 957), (50, 962), (65, 963), (77, 536), (81, 455), (88, 451), (95, 505), (99, 515), (102, 497), (112, 501), (116, 493), (123, 711), (128, 726), (131, 730), (137, 737), (140, 722), (144, 935), (147, 936)], [(3, 116)], [(3, 133), (34, 961)], [(3, 171), (22, 693), (28, 509), (32, 512)], [(3, 244), (11, 246), (28, 566), (34, 567), (42, 568), (61, 573), (65, 682), (68, 577), (72, 581), (76, 686), (80, 592), (83, 585), (87, 588), (90, 596), (95, 678)], [(3, 274), (38, 756), (42, 757), (49, 795), (55, 762), (58, 766), (62, 770), (66, 774), (71, 783)], [(3, 300), (48, 812), (52, 824), (56, 833), (60, 837), (64, 816), (70, 817), (73, 818), (77, 819), (81, 820), (90, 821), (94, 828), (98, 829)], [(3, 338), (36, 874), (40, 886), (43, 890), (46, 894), (52, 878), (56, 882)], [(3, 367)], [(3, 989), (59, 1324), (63, 1070), (67, 1088), (71, 1100), (74, 1149), (77, 1153), (81, 1145), (84, 1141), (88, 1067), (93, 1074), (97, 1108), (101, 1084), (104, 1092), (107, 1096), (110, 1104), (113, 1116), (117, 1129), (121, 1137), (137, 1217), (145, 1225), (152, 1213), (155, 1193), (158, 1221), (161, 1229), (165, 1233), (168, 1209), (171, 1205), (174, 1201), (177, 1197), (180, 1161), (184, 1157), (187, 1164), (190, 1253), (195, 1249), (199, 1267), (202, 1271), (205, 1275), (208, 1280), (211, 1263), (214, 1304), (218, 1296), (221, 1300), (224, 1320), (227, 1327), (230, 1339), (233, 1342), (239, 1358), (242, 1362), (245, 1354), (248, 1350), (251, 1374), (254, 1370), (257, 1366), (260, 1382), (266, 1390), (269, 1378), (272, 1386), (276, 1407), (279, 1415)], [], [(335, 614), (492, 604), (505, 610), (633, 600), (637, 618)], [(38, 625), (88, 621), (92, 624), (95, 626)]]
def xkpT : List (List (Nat × Nat)) := [[(314, 426)], [(126, 712), (127, 713), (136, 736)], [], [], [], [], [], [], [], [], [(58, 1078), (92, 1073), (96, 1079), (116, 1124), (124, 1183), (193, 1257), (194, 1258), (198, 1279), (217, 1295), (275, 1394)], [(265, 733), (266, 734), (267, 735)], [], []]
def xlpT : List (List (Nat × Nat)) := [[], [], [], [], [], [], [], [], [], [], [(125, 1188)], [], [], []]
def xspT : List (List (Nat × Nat)) := [[], [], [(18, 471)], [], [], [], [], [], [(49, 885)], [], [], [], [(38, 608)], []]
def xFt (t : Nat) : u_T := cond (Nat.beq t 4) (xF_P) (cond (Nat.beq t 5) (xF_S) (cond (Nat.beq t 7) (xF_R) (cond (Nat.beq t 9) (xF_C) (cond (Nat.beq t 13) (xF_T) (cond (Nat.beq t 17) (xF_D) (cond (Nat.beq t 19) (xF_A) (cond (Nat.beq t 25) (xF_L) (cond (Nat.beq t 33) (xF_V) (cond (Nat.beq t 36) (xF_H) (cond (Nat.beq t 40) (xF_M) (cond (Nat.beq t 1) (fun k => xnth ("", "", "", false) [("java/lang/String", "value", "[B", true), ("java/lang/String", "coder", "B", true)] k) (fun _ => ("", "", "", false)))))))))))))
def xCt (t : Nat) : String := cond (Nat.beq t 4) (xR_P) (cond (Nat.beq t 5) (xR_S) (cond (Nat.beq t 7) (xR_R) (cond (Nat.beq t 9) (xR_C) (cond (Nat.beq t 13) (xR_T) (cond (Nat.beq t 17) (xR_D) (cond (Nat.beq t 19) (xR_A) (cond (Nat.beq t 25) (xR_L) (cond (Nat.beq t 33) (xR_V) (cond (Nat.beq t 36) (xR_H) (cond (Nat.beq t 40) (xR_M) (cond (Nat.beq t 1) ("java/lang/String") (""))))))))))))
def xfw (c x : Nat) (n : Bool) (q : Nat × Nat) : Cond := cond n (.fieldLinkNest (xnth "" xowL c) x (xCt q.1) (xFt q.1 q.2).2.1 (xFt q.1 q.2).2.2.1 "PlayParts") (.fieldLink (xnth "" xowL c) x (xCt q.1) (xFt q.1 q.2).2.1 (xFt q.1 q.2).2.2.1)
def xchF (c : Nat) (e : Nat × (Nat × Nat)) : Bool := match xas (xnth [] xfpT c) e.1 with
  | some p => decide (lw_tbl[p.1]? = some (xfw c e.1 p.2 e.2)) && (Nat.blt e.2.2 (xsz e.2.1) || Nat.beq e.2.1 1) && (Nat.beq (xkind e.2.1) 1 || Nat.beq e.2.1 1)
  | none => false
theorem xchF_ok : (List.range 14).all (fun c => (xnth [] xfldT c).all (xchF c)) = true := by decide +kernel
def xcw (c x : Nat) (q : Nat × Nat) : Cond := match q.2 with
  | 3 => .methodLinkNest (xnth "" xowL c) x (xy q.1).1 "PlayParts"
  | 4 => .methodLinkNest (xnth "" xowL c) x (xy q.1).1 "PlayParts"
  | 5 => .methodLink (xnth "" xowL c) x objectInit
  | 6 => .methodLink (xnth "" xowL c) x arraycopyName
  | 7 => .methodLink (xnth "" xowL c) x Lib.Math.max.name
  | 8 => .methodLink (xnth "" xowL c) x Lib.Math.min.name
  | _ => .methodLink (xnth "" xowL c) x (xy q.1).1
def xchC (c : Nat) (e : Nat × (Nat × Nat)) : Bool := match xas (xnth [] xcpT c) e.1 with
  | some p => decide (lw_tbl[p]? = some (xcw c e.1 e.2)) && (Nat.blt e.2.1 xN || Nat.beq e.2.1 999)
  | none => false
theorem xchC_ok : (List.range 14).all (fun c => (xnth [] xcalT c).all (xchC c)) = true := by decide +kernel
def xchK (c : Nat) (e : Nat × Int) : Bool := match xas (xnth [] xkpT c) e.1 with
  | some p => decide (lw_tbl[p]? = some (.constant (xnth "" xowL c) e.1 (Int32.ofInt e.2))) && decide (-2147483648 ≤ e.2 ∧ e.2 < 2147483648)
  | none => false
theorem xchK_ok : (List.range 14).all (fun c => (xnth [] xkonT c).all (xchK c)) = true := by decide +kernel
def xchL (c : Nat) (e : Nat × Int) : Bool := match xas (xnth [] xlpT c) e.1 with
  | some p => decide (lw_tbl[p]? = some (.constantLong (xnth "" xowL c) e.1 (Int64.ofInt e.2))) && decide (-9223372036854775808 ≤ e.2 ∧ e.2 < 9223372036854775808)
  | none => false
theorem xchL_ok : (List.range 14).all (fun c => (xnth [] xkonLT c).all (xchL c)) = true := by decide +kernel
def xchS (c : Nat) (e : Nat × Bool) : Bool := match xas (xnth [] xspT c) e.1 with
  | some p => decide (lw_tbl[p]? = some (cond e.2 (.fieldLinkNest (xnth "" xowL c) e.1 "PlayParts" "ABOVE" "[I" "PlayParts") (.fieldLink (xnth "" xowL c) e.1 "java/lang/String" "COMPACT_STRINGS" "Z")))
  | none => false
theorem xchS_ok : (List.range 14).all (fun c => (xnth [] xstaT c).all (xchS c)) = true := by decide +kernel
def xstrs : List (String × Nat × String × Nat) := [("PlayParts$Reader", 22, "", 1), ("PlayParts$Reader", 48, "wlv", 2), ("PlayParts$Reader", 50, "wsy", 3)]
def xchT (c : Nat) (e : Nat × Nat) : Bool := xstrs.any fun q => decide (q.1 = xnth "" xowL c ∧ q.2.1 = e.1 ∧ q.2.2.2 = e.2 ∧ 1 ≤ e.2 ∧ e.2 ≤ 3)
theorem xchT_ok : (List.range 14).all (fun c => (xnth [] xstrT c).all (xchT c)) = true := by decide +kernel
def xmp_0 : List (Nat × Nat × Nat × Nat) := [(96, 95, 0, 73), (415, 413, 414, 73), (434, 432, 433, 73), (462, 460, 461, 73), (466, 464, 465, 73), (476, 474, 475, 73), (484, 482, 483, 73), (531, 529, 530, 73), (540, 538, 539, 73), (544, 542, 543, 73), (549, 547, 548, 73), (554, 552, 553, 73), (558, 556, 557, 73), (697, 695, 696, 73), (701, 699, 700, 73), (706, 704, 705, 73)]
def xmp_1 : List (Nat × Nat × Nat × Nat) := [(717, 715, 716, 73), (743, 741, 742, 73), (747, 745, 746, 73), (751, 749, 750, 73), (790, 788, 789, 73), (799, 797, 798, 73), (807, 805, 806, 73), (844, 842, 843, 73), (857, 855, 856, 73), (869, 867, 868, 73), (901, 899, 900, 73), (905, 903, 904, 73), (913, 911, 912, 73), (921, 919, 920, 73), (930, 928, 929, 73), (940, 938, 939, 73)]
def xmp_2 : List (Nat × Nat × Nat × Nat) := [(948, 946, 947, 73), (967, 965, 966, 73), (971, 969, 970, 73), (975, 973, 974, 73), (979, 977, 978, 73), (983, 981, 982, 73), (425, 424, 0, 73), (421, 420, 0, 73), (418, 417, 0, 73), (561, 560, 0, 73), (860, 859, 0, 73), (853, 852, 0, 73), (517, 516, 0, 73), (104, 103, 0, 74), (952, 950, 951, 74), (438, 436, 437, 74)]
def xmp_3 : List (Nat × Nat × Nat × Nat) := [(535, 533, 534, 74), (488, 486, 487, 74), (454, 452, 453, 74), (446, 444, 445, 74), (450, 448, 449, 74), (729, 727, 728, 74), (504, 502, 503, 74), (496, 494, 495, 74), (832, 830, 831, 74), (492, 490, 491, 74), (710, 708, 709, 74), (725, 723, 724, 74), (739, 738, 0, 74), (721, 719, 720, 74), (934, 932, 933, 74), (944, 942, 943, 74)]
def xmp_4 : List (Nat × Nat × Nat × Nat) := [(115, 114, 0, 75), (430, 428, 429, 75), (956, 954, 955, 75), (470, 468, 469, 75), (458, 456, 457, 75), (442, 440, 441, 75), (132, 131, 0, 76), (480, 478, 479, 76), (960, 958, 959, 76), (527, 525, 526, 76), (500, 498, 499, 76), (850, 848, 849, 76), (170, 169, 0, 77), (595, 593, 594, 77), (692, 690, 691, 77), (508, 506, 507, 77)]
def xmp_5 : List (Nat × Nat × Nat × Nat) := [(511, 510, 0, 77), (514, 513, 0, 77), (243, 242, 0, 78), (565, 563, 564, 78), (685, 684, 6, 78), (584, 583, 3, 78), (587, 586, 0, 78), (688, 687, 0, 78), (576, 575, 1, 78), (580, 579, 2, 78), (681, 680, 5, 78), (591, 590, 4, 78), (273, 272, 0, 79), (755, 753, 754, 79), (794, 792, 793, 79), (803, 801, 802, 79)]
def xmp_6 : List (Nat × Nat × Nat × Nat) := [(761, 759, 760, 79), (765, 764, 7, 79), (769, 768, 8, 79), (773, 772, 9, 79), (778, 776, 777, 79), (782, 780, 781, 79), (786, 785, 10, 79), (299, 298, 0, 80), (811, 809, 810, 80), (815, 814, 11, 80), (823, 822, 0, 80), (827, 826, 12, 80), (840, 839, 14, 80), (836, 835, 13, 80), (337, 336, 0, 81), (873, 871, 872, 81)]
def xmp_7 : List (Nat × Nat × Nat × Nat) := [(881, 880, 16, 81), (884, 883, 0, 81), (877, 876, 15, 81), (889, 888, 17, 81), (893, 892, 18, 81), (897, 896, 19, 81), (366, 365, 0, 82), (909, 907, 908, 82), (917, 915, 916, 82), (925, 923, 924, 82), (865, 863, 864, 82), (988, 987, 0, 83), (1077, 1076, 20, 83), (1072, 1071, 0, 83), (1166, 1165, 0, 83), (1326, 1325, 0, 83)]
def xmp_8 : List (Nat × Nat × Nat × Nat) := [(1323, 1322, 56, 83), (1330, 1329, 57, 83), (1282, 1281, 0, 83), (1087, 1086, 21, 83), (1140, 1139, 30, 83), (1119, 1118, 28, 83), (1091, 1090, 22, 83), (1103, 1102, 25, 83), (1132, 1131, 29, 83), (1111, 1110, 27, 83), (1095, 1094, 23, 83), (1152, 1151, 33, 83), (1148, 1147, 32, 83), (1144, 1143, 31, 83), (1256, 1255, 48, 83), (1099, 1098, 24, 83)]
def xmp_9 : List (Nat × Nat × Nat × Nat) := [(1069, 1068, 0, 83), (1066, 1064, 1065, 83), (1107, 1106, 26, 83), (1083, 1081, 1082, 83), (1115, 1113, 1114, 83), (1123, 1121, 1122, 83), (1128, 1126, 1127, 83), (1136, 1134, 1135, 83), (1170, 1168, 1169, 83), (1174, 1172, 1173, 83), (1178, 1176, 1177, 83), (1182, 1180, 1181, 83), (1187, 1185, 1186, 83), (1220, 1219, 42, 83), (1228, 1227, 44, 83), (1224, 1223, 43, 83)]
def xmp_10 : List (Nat × Nat × Nat × Nat) := [(1236, 1235, 46, 83), (1232, 1231, 45, 83), (1216, 1215, 41, 83), (1212, 1211, 40, 83), (1208, 1207, 39, 83), (1204, 1203, 38, 83), (1200, 1199, 37, 83), (1196, 1195, 36, 83), (1192, 1190, 1191, 83), (1240, 1238, 1239, 83), (1163, 1162, 0, 83), (1160, 1159, 35, 83), (1156, 1155, 34, 83), (1244, 1242, 1243, 83), (1252, 1251, 47, 83), (1248, 1246, 1247, 83)]
def xmp_11 : List (Nat × Nat × Nat × Nat) := [(1278, 1277, 52, 83), (1274, 1273, 51, 83), (1270, 1269, 50, 83), (1266, 1265, 49, 83), (1262, 1260, 1261, 83), (1286, 1284, 1285, 83), (1290, 1288, 1289, 83), (1299, 1298, 53, 83), (1307, 1306, 55, 83), (1303, 1302, 54, 83), (1294, 1292, 1293, 83), (1311, 1309, 1310, 83), (1315, 1313, 1314, 83), (1319, 1317, 1318, 83), (1334, 1332, 1333, 83), (1345, 1344, 58, 83)]
def xmp_12 : List (Nat × Nat × Nat × Nat) := [(1338, 1336, 1337, 83), (1361, 1360, 61, 83), (1365, 1364, 62, 83), (1357, 1356, 60, 83), (1353, 1352, 59, 83), (1377, 1376, 65, 83), (1373, 1372, 64, 83), (1369, 1368, 63, 83), (1385, 1384, 67, 83), (1381, 1380, 66, 83), (1393, 1392, 69, 83), (1389, 1388, 68, 83), (1349, 1347, 1348, 83), (1398, 1396, 1397, 83), (1341, 1340, 0, 83), (1402, 1400, 1401, 83)]
def xmp_13 : List (Nat × Nat × Nat × Nat) := [(1410, 1409, 70, 83), (1406, 1404, 1405, 83), (1418, 1417, 71, 83), (1414, 1412, 1413, 83), (1422, 1420, 1421, 83), (1426, 1424, 1425, 83), (1430, 1428, 1429, 83), (1434, 1432, 1433, 83), (1438, 1436, 1437, 83), (1442, 1440, 1441, 83), (1446, 1444, 1445, 83), (1450, 1448, 1449, 83), (732, 731, 0, 91), (613, 611, 612, 86), (599, 597, 598, 86), (603, 601, 602, 86)]
def xmp_14 : List (Nat × Nat × Nat × Nat) := [(617, 615, 616, 86), (607, 605, 606, 86), (623, 622, 0, 87), (620, 619, 0, 87), (628, 627, 0, 87)]
def xmp (M : Nat) : Nat × Nat × Nat × Nat := xnth (0, 0, 0, 0) (xnth [] [xmp_0, xmp_1, xmp_2, xmp_3, xmp_4, xmp_5, xmp_6, xmp_7, xmp_8, xmp_9, xmp_10, xmp_11, xmp_12, xmp_13, xmp_14] (M / 16)) (M % 16)
def xcodeW (M : Nat) : Cond := .code (xy M).1 (xy M).2.1 (xrec M).2.1 (xy M).2.2
theorem xcodeP_0 : (List.range 16).all (fun k => decide (lw_tbl[(xmp (0 + k)).1]? = some (xcodeW (0 + k))) || Nat.ble xN (0 + k)) = true := by decide +kernel
theorem xcodeP_1 : (List.range 16).all (fun k => decide (lw_tbl[(xmp (16 + k)).1]? = some (xcodeW (16 + k))) || Nat.ble xN (16 + k)) = true := by decide +kernel
theorem xcodeP_2 : (List.range 16).all (fun k => decide (lw_tbl[(xmp (32 + k)).1]? = some (xcodeW (32 + k))) || Nat.ble xN (32 + k)) = true := by decide +kernel
theorem xcodeP_3 : (List.range 16).all (fun k => decide (lw_tbl[(xmp (48 + k)).1]? = some (xcodeW (48 + k))) || Nat.ble xN (48 + k)) = true := by decide +kernel
theorem xcodeP_4 : (List.range 16).all (fun k => decide (lw_tbl[(xmp (64 + k)).1]? = some (xcodeW (64 + k))) || Nat.ble xN (64 + k)) = true := by decide +kernel
theorem xcodeP_5 : (List.range 16).all (fun k => decide (lw_tbl[(xmp (80 + k)).1]? = some (xcodeW (80 + k))) || Nat.ble xN (80 + k)) = true := by decide +kernel
theorem xcodeP_6 : (List.range 16).all (fun k => decide (lw_tbl[(xmp (96 + k)).1]? = some (xcodeW (96 + k))) || Nat.ble xN (96 + k)) = true := by decide +kernel
theorem xcodeP_7 : (List.range 16).all (fun k => decide (lw_tbl[(xmp (112 + k)).1]? = some (xcodeW (112 + k))) || Nat.ble xN (112 + k)) = true := by decide +kernel
theorem xcodeP_8 : (List.range 16).all (fun k => decide (lw_tbl[(xmp (128 + k)).1]? = some (xcodeW (128 + k))) || Nat.ble xN (128 + k)) = true := by decide +kernel
theorem xcodeP_9 : (List.range 16).all (fun k => decide (lw_tbl[(xmp (144 + k)).1]? = some (xcodeW (144 + k))) || Nat.ble xN (144 + k)) = true := by decide +kernel
theorem xcodeP_10 : (List.range 16).all (fun k => decide (lw_tbl[(xmp (160 + k)).1]? = some (xcodeW (160 + k))) || Nat.ble xN (160 + k)) = true := by decide +kernel
theorem xcodeP_11 : (List.range 16).all (fun k => decide (lw_tbl[(xmp (176 + k)).1]? = some (xcodeW (176 + k))) || Nat.ble xN (176 + k)) = true := by decide +kernel
theorem xcodeP_12 : (List.range 16).all (fun k => decide (lw_tbl[(xmp (192 + k)).1]? = some (xcodeW (192 + k))) || Nat.ble xN (192 + k)) = true := by decide +kernel
theorem xcodeP_13 : (List.range 16).all (fun k => decide (lw_tbl[(xmp (208 + k)).1]? = some (xcodeW (208 + k))) || Nat.ble xN (208 + k)) = true := by decide +kernel
theorem xcodeP_14 : (List.range 16).all (fun k => decide (lw_tbl[(xmp (224 + k)).1]? = some (xcodeW (224 + k))) || Nat.ble xN (224 + k)) = true := by decide +kernel
def xrkOk (M : Nat) : Bool := match (xy M).2.2, (xrec M).2.2.1 with
  | none, 0 => true
  | some .int, 1 => true
  | some .boolean, 2 => true
  | some .byte, 3 => true
  | _, _ => false
def xchM (M : Nat) : Bool :=
  let q := xmp M
  let y := (xy M).1
  let s := Nat.beq (xrec M).2.2.2.1 0
  let ini := decide (y.name = "<init>")
  decide (lw_tbl[q.2.1]? = some (cond s (.static y) (.instanceMethod y))) && (s || ini || decide (lw_tbl[q.2.2.1]? = some (.selects y.cls y y))) && decide (lw_tbl[q.2.2.2]? = some (.initialized y.cls)) && xrkOk M && decide (y.cls = xnth "" xowL (xrec M).1) && (s || decide (xCt (xrec M).2.2.2.1 = y.cls)) && decide (y.cls ≠ "java/lang/invoke/MethodHandle" ∧ y.cls ≠ "java/lang/invoke/VarHandle") && decide ((parseMethodDescriptor y.desc).map (fun d => d.parameters.length) = some ((xrec M).2.2.2.2 - cond s 0 1)) && plainName y.cls && Nat.ble (xrec M).2.1 9 && Nat.ble (xrec M).2.2.2.2 9 && (s || (Nat.blt 0 (xrec M).2.2.2.2 && (Nat.beq (xkind (xrec M).2.2.2.1) 1 || Nat.beq (xrec M).2.2.2.1 1)))
theorem xchM_0 : (List.range 16).all (fun k => xchM (0 + k) || Nat.ble xN (0 + k)) = true := by decide +kernel
theorem xchM_1 : (List.range 16).all (fun k => xchM (16 + k) || Nat.ble xN (16 + k)) = true := by decide +kernel
theorem xchM_2 : (List.range 16).all (fun k => xchM (32 + k) || Nat.ble xN (32 + k)) = true := by decide +kernel
theorem xchM_3 : (List.range 16).all (fun k => xchM (48 + k) || Nat.ble xN (48 + k)) = true := by decide +kernel
theorem xchM_4 : (List.range 16).all (fun k => xchM (64 + k) || Nat.ble xN (64 + k)) = true := by decide +kernel
theorem xchM_5 : (List.range 16).all (fun k => xchM (80 + k) || Nat.ble xN (80 + k)) = true := by decide +kernel
theorem xchM_6 : (List.range 16).all (fun k => xchM (96 + k) || Nat.ble xN (96 + k)) = true := by decide +kernel
theorem xchM_7 : (List.range 16).all (fun k => xchM (112 + k) || Nat.ble xN (112 + k)) = true := by decide +kernel
theorem xchM_8 : (List.range 16).all (fun k => xchM (128 + k) || Nat.ble xN (128 + k)) = true := by decide +kernel
theorem xchM_9 : (List.range 16).all (fun k => xchM (144 + k) || Nat.ble xN (144 + k)) = true := by decide +kernel
theorem xchM_10 : (List.range 16).all (fun k => xchM (160 + k) || Nat.ble xN (160 + k)) = true := by decide +kernel
theorem xchM_11 : (List.range 16).all (fun k => xchM (176 + k) || Nat.ble xN (176 + k)) = true := by decide +kernel
theorem xchM_12 : (List.range 16).all (fun k => xchM (192 + k) || Nat.ble xN (192 + k)) = true := by decide +kernel
theorem xchM_13 : (List.range 16).all (fun k => xchM (208 + k) || Nat.ble xN (208 + k)) = true := by decide +kernel
theorem xchM_14 : (List.range 16).all (fun k => xchM (224 + k) || Nat.ble xN (224 + k)) = true := by decide +kernel
theorem xw_max_code : Cond.code Lib.Math.max.name Lib.Math.max.code 2 (some .int) ∈ xGT := xGT_in 523 (by decide +kernel) (by decide +kernel)
theorem xw_max_static : Cond.static Lib.Math.max.name ∈ xGT := xGT_in 522 (by decide +kernel) (by decide +kernel)
theorem xw_min_code : Cond.code Lib.Math.min.name Lib.Math.min.code 2 (some .int) ∈ xGT := xGT_in 520 (by decide +kernel) (by decide +kernel)
theorem xw_min_static : Cond.static Lib.Math.min.name ∈ xGT := xGT_in 519 (by decide +kernel) (by decide +kernel)
theorem xw_math : Cond.initialized "java/lang/Math" ∈ xGT := xGT_in 84 (by decide +kernel) (by decide +kernel)
theorem xw_sys : Cond.initialized "java/lang/System" ∈ xGT := xGT_in 85 (by decide +kernel) (by decide +kernel)
theorem xw_ac_static : Cond.static arraycopyName ∈ xGT := xGT_in 569 (by decide +kernel) (by decide +kernel)
theorem xw_ac_native : Cond.native arraycopyName ∈ xGT := xGT_in 570 (by decide +kernel) (by decide +kernel)
theorem xw_obj_inst : Cond.instanceMethod objectInit ∈ xGT := xGT_in 98 (by decide +kernel) (by decide +kernel)
theorem xw_obj_code : Cond.code objectInit ⟨#[0xb1]⟩ 1 none ∈ xGT := xGT_in 99 (by decide +kernel) (by decide +kernel)
theorem xw_ai : Cond.arrayClass .int ∈ xGT := xGT_in 128 (by decide +kernel) (by decide +kernel)
theorem xw_az : Cond.arrayClass .boolean ∈ xGT := xGT_in 332 (by decide +kernel) (by decide +kernel)
theorem xlay_P : ∀ w ∈ u_ws xR_P xF_P 10, w ∈ xGT := by
  have h : (u_ws xR_P xF_P 10).all (fun w => decide (w ∈ lw_tbl) && (k2_isCode w || goodWord w)) = true := by decide +kernel
  intro w hw
  have h1 := List.all_eq_true.mp h w hw
  simp only [Bool.and_eq_true, decide_eq_true_eq] at h1
  exact List.mem_filter.mpr h1
theorem xlay_S : ∀ w ∈ u_ws xR_S xF_S 12, w ∈ xGT := by
  have h : (u_ws xR_S xF_S 12).all (fun w => decide (w ∈ lw_tbl) && (k2_isCode w || goodWord w)) = true := by decide +kernel
  intro w hw
  have h1 := List.all_eq_true.mp h w hw
  simp only [Bool.and_eq_true, decide_eq_true_eq] at h1
  exact List.mem_filter.mpr h1
theorem xlay_R : ∀ w ∈ u_ws xR_R xF_R 2, w ∈ xGT := by
  have h : (u_ws xR_R xF_R 2).all (fun w => decide (w ∈ lw_tbl) && (k2_isCode w || goodWord w)) = true := by decide +kernel
  intro w hw
  have h1 := List.all_eq_true.mp h w hw
  simp only [Bool.and_eq_true, decide_eq_true_eq] at h1
  exact List.mem_filter.mpr h1
theorem xlay_C : ∀ w ∈ u_ws xR_C xF_C 7, w ∈ xGT := by
  have h : (u_ws xR_C xF_C 7).all (fun w => decide (w ∈ lw_tbl) && (k2_isCode w || goodWord w)) = true := by decide +kernel
  intro w hw
  have h1 := List.all_eq_true.mp h w hw
  simp only [Bool.and_eq_true, decide_eq_true_eq] at h1
  exact List.mem_filter.mpr h1
theorem xlay_T : ∀ w ∈ u_ws xR_T xF_T 3, w ∈ xGT := by
  have h : (u_ws xR_T xF_T 3).all (fun w => decide (w ∈ lw_tbl) && (k2_isCode w || goodWord w)) = true := by decide +kernel
  intro w hw
  have h1 := List.all_eq_true.mp h w hw
  simp only [Bool.and_eq_true, decide_eq_true_eq] at h1
  exact List.mem_filter.mpr h1
theorem xlay_D : ∀ w ∈ u_ws xR_D xF_D 6, w ∈ xGT := by
  have h : (u_ws xR_D xF_D 6).all (fun w => decide (w ∈ lw_tbl) && (k2_isCode w || goodWord w)) = true := by decide +kernel
  intro w hw
  have h1 := List.all_eq_true.mp h w hw
  simp only [Bool.and_eq_true, decide_eq_true_eq] at h1
  exact List.mem_filter.mpr h1
theorem xlay_A : ∀ w ∈ u_ws xR_A xF_A 5, w ∈ xGT := by
  have h : (u_ws xR_A xF_A 5).all (fun w => decide (w ∈ lw_tbl) && (k2_isCode w || goodWord w)) = true := by decide +kernel
  intro w hw
  have h1 := List.all_eq_true.mp h w hw
  simp only [Bool.and_eq_true, decide_eq_true_eq] at h1
  exact List.mem_filter.mpr h1
theorem xlay_L : ∀ w ∈ u_ws xR_L xF_L 9, w ∈ xGT := by
  have h : (u_ws xR_L xF_L 9).all (fun w => decide (w ∈ lw_tbl) && (k2_isCode w || goodWord w)) = true := by decide +kernel
  intro w hw
  have h1 := List.all_eq_true.mp h w hw
  simp only [Bool.and_eq_true, decide_eq_true_eq] at h1
  exact List.mem_filter.mpr h1
theorem xlay_V : ∀ w ∈ u_ws xR_V xF_V 6, w ∈ xGT := by
  have h : (u_ws xR_V xF_V 6).all (fun w => decide (w ∈ lw_tbl) && (k2_isCode w || goodWord w)) = true := by decide +kernel
  intro w hw
  have h1 := List.all_eq_true.mp h w hw
  simp only [Bool.and_eq_true, decide_eq_true_eq] at h1
  exact List.mem_filter.mpr h1
theorem xlay_H : ∀ w ∈ u_ws xR_H xF_H 3, w ∈ xGT := by
  have h : (u_ws xR_H xF_H 3).all (fun w => decide (w ∈ lw_tbl) && (k2_isCode w || goodWord w)) = true := by decide +kernel
  intro w hw
  have h1 := List.all_eq_true.mp h w hw
  simp only [Bool.and_eq_true, decide_eq_true_eq] at h1
  exact List.mem_filter.mpr h1
theorem xlay_M : ∀ w ∈ u_ws xR_M xF_M 24, w ∈ xGT := by
  have h : (u_ws xR_M xF_M 24).all (fun w => decide (w ∈ lw_tbl) && (k2_isCode w || goodWord w)) = true := by decide +kernel
  intro w hw
  have h1 := List.all_eq_true.mp h w hw
  simp only [Bool.and_eq_true, decide_eq_true_eq] at h1
  exact List.mem_filter.mpr h1
