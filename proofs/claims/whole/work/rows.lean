section
-- ===== PART A: goes FIRST, ahead of the names: the tables' words, and 'selects' of the private methods out of them =====
/-- a private method of a class that the tables say can be made, by its rows of tables_1 -/
def lw_okq (q : MethodName × Nat) : Prop := (q.1.cls ≠ "java/lang/invoke/MethodHandle" ∧ q.1.cls ≠ "java/lang/invoke/VarHandle") ∧ Cond.instantiable q.1.cls q.2 ∈ tables_1 ∧ Cond.privateMethod q.1 ∈ tables_1 ∧ Cond.instanceMethod q.1 ∈ tables_1
theorem lw_p0 : lw_okq (⟨"PlayParts", "fail", "(I)I"⟩, 10) := ⟨⟨by decide +kernel, by decide +kernel⟩, List.mem_of_getElem? (i := 21) (by decide +kernel), List.mem_of_getElem? (i := 351) (by decide +kernel), List.mem_of_getElem? (i := 352) (by decide +kernel)⟩
theorem lw_p1 : lw_okq (⟨"PlayParts$Reader", "readLevel", "(II)V"⟩, 6) := ⟨⟨by decide +kernel, by decide +kernel⟩, List.mem_of_getElem? (i := 168) (by decide +kernel), List.mem_of_getElem? (i := 502) (by decide +kernel), List.mem_of_getElem? (i := 503) (by decide +kernel)⟩
theorem lw_p2 : lw_okq (⟨"PlayParts$Reader", "readFactor", "(I)V"⟩, 6) := ⟨⟨by decide +kernel, by decide +kernel⟩, List.mem_of_getElem? (i := 168) (by decide +kernel), List.mem_of_getElem? (i := 506) (by decide +kernel), List.mem_of_getElem? (i := 507) (by decide +kernel)⟩
theorem lw_p3 : lw_okq (⟨"PlayParts$Reader", "next", "()I"⟩, 6) := ⟨⟨by decide +kernel, by decide +kernel⟩, List.mem_of_getElem? (i := 168) (by decide +kernel), List.mem_of_getElem? (i := 510) (by decide +kernel), List.mem_of_getElem? (i := 511) (by decide +kernel)⟩
theorem lw_p4 : lw_okq (⟨"PlayParts$Reader", "readNumber", "()V"⟩, 6) := ⟨⟨by decide +kernel, by decide +kernel⟩, List.mem_of_getElem? (i := 168) (by decide +kernel), List.mem_of_getElem? (i := 517) (by decide +kernel), List.mem_of_getElem? (i := 518) (by decide +kernel)⟩
theorem lw_p5 : lw_okq (⟨"PlayParts$Reader", "readClosing", "()V"⟩, 6) := ⟨⟨by decide +kernel, by decide +kernel⟩, List.mem_of_getElem? (i := 168) (by decide +kernel), List.mem_of_getElem? (i := 607) (by decide +kernel), List.mem_of_getElem? (i := 608) (by decide +kernel)⟩
theorem lw_p6 : lw_okq (⟨"PlayParts$Reader", "failHere", "()V"⟩, 6) := ⟨⟨by decide +kernel, by decide +kernel⟩, List.mem_of_getElem? (i := 168) (by decide +kernel), List.mem_of_getElem? (i := 611) (by decide +kernel), List.mem_of_getElem? (i := 612) (by decide +kernel)⟩
theorem lw_p7 : lw_okq (⟨"PlayParts$Caster", "mostFrom", "(II)I"⟩, 5) := ⟨⟨by decide +kernel, by decide +kernel⟩, List.mem_of_getElem? (i := 198) (by decide +kernel), List.mem_of_getElem? (i := 691) (by decide +kernel), List.mem_of_getElem? (i := 692) (by decide +kernel)⟩
theorem lw_p8 : lw_okq (⟨"PlayParts$Caster", "isFree", "(III)Z"⟩, 5) := ⟨⟨by decide +kernel, by decide +kernel⟩, List.mem_of_getElem? (i := 198) (by decide +kernel), List.mem_of_getElem? (i := 695) (by decide +kernel), List.mem_of_getElem? (i := 696) (by decide +kernel)⟩
theorem lw_p9 : lw_okq (⟨"PlayParts$Caster", "comesTo", "(III)I"⟩, 5) := ⟨⟨by decide +kernel, by decide +kernel⟩, List.mem_of_getElem? (i := 198) (by decide +kernel), List.mem_of_getElem? (i := 699) (by decide +kernel), List.mem_of_getElem? (i := 700) (by decide +kernel)⟩
theorem lw_p10 : lw_okq (⟨"PlayParts$Caster", "leastPart", "(II)I"⟩, 5) := ⟨⟨by decide +kernel, by decide +kernel⟩, List.mem_of_getElem? (i := 198) (by decide +kernel), List.mem_of_getElem? (i := 712) (by decide +kernel), List.mem_of_getElem? (i := 713) (by decide +kernel)⟩
theorem lw_p11 : lw_okq (⟨"PlayParts$Liar", "learnOthers", "(LPlayParts$Stage;LPlayParts$Caster;I)V"⟩, 9) := ⟨⟨by decide +kernel, by decide +kernel⟩, List.mem_of_getElem? (i := 224) (by decide +kernel), List.mem_of_getElem? (i := 741) (by decide +kernel), List.mem_of_getElem? (i := 742) (by decide +kernel)⟩
theorem lw_p12 : lw_okq (⟨"PlayParts$Liar", "learnWorth", "(LPlayParts$Stage;I)V"⟩, 9) := ⟨⟨by decide +kernel, by decide +kernel⟩, List.mem_of_getElem? (i := 224) (by decide +kernel), List.mem_of_getElem? (i := 753) (by decide +kernel), List.mem_of_getElem? (i := 754) (by decide +kernel)⟩
theorem lw_p13 : lw_okq (⟨"PlayParts$Liar", "chosenBy", "([I)I"⟩, 9) := ⟨⟨by decide +kernel, by decide +kernel⟩, List.mem_of_getElem? (i := 224) (by decide +kernel), List.mem_of_getElem? (i := 762) (by decide +kernel), List.mem_of_getElem? (i := 763) (by decide +kernel)⟩
theorem lw_p14 : lw_okq (⟨"PlayParts$Liar", "claim", "(II)V"⟩, 9) := ⟨⟨by decide +kernel, by decide +kernel⟩, List.mem_of_getElem? (i := 224) (by decide +kernel), List.mem_of_getElem? (i := 766) (by decide +kernel), List.mem_of_getElem? (i := 767) (by decide +kernel)⟩
theorem lw_p15 : lw_okq (⟨"PlayParts$Voices", "says", "(II)I"⟩, 6) := ⟨⟨by decide +kernel, by decide +kernel⟩, List.mem_of_getElem? (i := 262) (by decide +kernel), List.mem_of_getElem? (i := 803) (by decide +kernel), List.mem_of_getElem? (i := 804) (by decide +kernel)⟩
def lw_privs_1 : List (MethodName × Nat) := [(⟨"PlayParts", "fail", "(I)I"⟩, 10), (⟨"PlayParts$Reader", "readLevel", "(II)V"⟩, 6), (⟨"PlayParts$Reader", "readFactor", "(I)V"⟩, 6), (⟨"PlayParts$Reader", "next", "()I"⟩, 6), (⟨"PlayParts$Reader", "readNumber", "()V"⟩, 6), (⟨"PlayParts$Reader", "readClosing", "()V"⟩, 6), (⟨"PlayParts$Reader", "failHere", "()V"⟩, 6), (⟨"PlayParts$Caster", "mostFrom", "(II)I"⟩, 5), (⟨"PlayParts$Caster", "isFree", "(III)Z"⟩, 5), (⟨"PlayParts$Caster", "comesTo", "(III)I"⟩, 5), (⟨"PlayParts$Caster", "leastPart", "(II)I"⟩, 5), (⟨"PlayParts$Liar", "learnOthers", "(LPlayParts$Stage;LPlayParts$Caster;I)V"⟩, 9), (⟨"PlayParts$Liar", "learnWorth", "(LPlayParts$Stage;I)V"⟩, 9), (⟨"PlayParts$Liar", "chosenBy", "([I)I"⟩, 9), (⟨"PlayParts$Liar", "claim", "(II)V"⟩, 9), (⟨"PlayParts$Voices", "says", "(II)I"⟩, 6)]
theorem lw_r1 : ∀ q ∈ lw_privs_1, lw_okq q := List.forall_mem_cons.mpr ⟨lw_p0, List.forall_mem_cons.mpr ⟨lw_p1, List.forall_mem_cons.mpr ⟨lw_p2, List.forall_mem_cons.mpr ⟨lw_p3, List.forall_mem_cons.mpr ⟨lw_p4, List.forall_mem_cons.mpr ⟨lw_p5, List.forall_mem_cons.mpr ⟨lw_p6, List.forall_mem_cons.mpr ⟨lw_p7, List.forall_mem_cons.mpr ⟨lw_p8, List.forall_mem_cons.mpr ⟨lw_p9, List.forall_mem_cons.mpr ⟨lw_p10, List.forall_mem_cons.mpr ⟨lw_p11, List.forall_mem_cons.mpr ⟨lw_p12, List.forall_mem_cons.mpr ⟨lw_p13, List.forall_mem_cons.mpr ⟨lw_p14, List.forall_mem_cons.mpr ⟨lw_p15, fun _ h => absurd h List.not_mem_nil⟩⟩⟩⟩⟩⟩⟩⟩⟩⟩⟩⟩⟩⟩⟩⟩
theorem lw_p16 : lw_okq (⟨"PlayParts$Voices", "begin", "(I)V"⟩, 6) := ⟨⟨by decide +kernel, by decide +kernel⟩, List.mem_of_getElem? (i := 262) (by decide +kernel), List.mem_of_getElem? (i := 807) (by decide +kernel), List.mem_of_getElem? (i := 808) (by decide +kernel)⟩
theorem lw_p17 : lw_okq (⟨"PlayParts$Voices", "sings", "(II)I"⟩, 6) := ⟨⟨by decide +kernel, by decide +kernel⟩, List.mem_of_getElem? (i := 262) (by decide +kernel), List.mem_of_getElem? (i := 815) (by decide +kernel), List.mem_of_getElem? (i := 816) (by decide +kernel)⟩
theorem lw_p18 : lw_okq (⟨"PlayParts$Voices", "waits", "(II)I"⟩, 6) := ⟨⟨by decide +kernel, by decide +kernel⟩, List.mem_of_getElem? (i := 262) (by decide +kernel), List.mem_of_getElem? (i := 819) (by decide +kernel), List.mem_of_getElem? (i := 820) (by decide +kernel)⟩
theorem lw_p19 : lw_okq (⟨"PlayParts$Voices", "parts", "(II)I"⟩, 6) := ⟨⟨by decide +kernel, by decide +kernel⟩, List.mem_of_getElem? (i := 262) (by decide +kernel), List.mem_of_getElem? (i := 823) (by decide +kernel), List.mem_of_getElem? (i := 824) (by decide +kernel)⟩
theorem lw_p20 : lw_okq (⟨"PlayPartsModel", "error", "(I)I"⟩, 24) := ⟨⟨by decide +kernel, by decide +kernel⟩, List.mem_of_getElem? (i := 913) (by decide +kernel), List.mem_of_getElem? (i := 1003) (by decide +kernel), List.mem_of_getElem? (i := 1004) (by decide +kernel)⟩
theorem lw_p21 : lw_okq (⟨"PlayPartsModel", "isPart", "(I)Z"⟩, 24) := ⟨⟨by decide +kernel, by decide +kernel⟩, List.mem_of_getElem? (i := 913) (by decide +kernel), List.mem_of_getElem? (i := 1013) (by decide +kernel), List.mem_of_getElem? (i := 1014) (by decide +kernel)⟩
theorem lw_p22 : lw_okq (⟨"PlayPartsModel", "of", "(II)I"⟩, 24) := ⟨⟨by decide +kernel, by decide +kernel⟩, List.mem_of_getElem? (i := 913) (by decide +kernel), List.mem_of_getElem? (i := 1017) (by decide +kernel), List.mem_of_getElem? (i := 1018) (by decide +kernel)⟩
theorem lw_p23 : lw_okq (⟨"PlayPartsModel", "linesOf", "(I)I"⟩, 24) := ⟨⟨by decide +kernel, by decide +kernel⟩, List.mem_of_getElem? (i := 913) (by decide +kernel), List.mem_of_getElem? (i := 1021) (by decide +kernel), List.mem_of_getElem? (i := 1022) (by decide +kernel)⟩
theorem lw_p24 : lw_okq (⟨"PlayPartsModel", "whoHas", "(I)I"⟩, 24) := ⟨⟨by decide +kernel, by decide +kernel⟩, List.mem_of_getElem? (i := 913) (by decide +kernel), List.mem_of_getElem? (i := 1025) (by decide +kernel), List.mem_of_getElem? (i := 1026) (by decide +kernel)⟩
theorem lw_p25 : lw_okq (⟨"PlayPartsModel", "about", "(II)I"⟩, 24) := ⟨⟨by decide +kernel, by decide +kernel⟩, List.mem_of_getElem? (i := 913) (by decide +kernel), List.mem_of_getElem? (i := 1029) (by decide +kernel), List.mem_of_getElem? (i := 1030) (by decide +kernel)⟩
theorem lw_p26 : lw_okq (⟨"PlayPartsModel", "whoMay", "(I)I"⟩, 24) := ⟨⟨by decide +kernel, by decide +kernel⟩, List.mem_of_getElem? (i := 913) (by decide +kernel), List.mem_of_getElem? (i := 1033) (by decide +kernel), List.mem_of_getElem? (i := 1034) (by decide +kernel)⟩
theorem lw_p27 : lw_okq (⟨"PlayPartsModel", "mayPlay", "(II)Z"⟩, 24) := ⟨⟨by decide +kernel, by decide +kernel⟩, List.mem_of_getElem? (i := 913) (by decide +kernel), List.mem_of_getElem? (i := 1037) (by decide +kernel), List.mem_of_getElem? (i := 1038) (by decide +kernel)⟩
theorem lw_p28 : lw_okq (⟨"PlayPartsModel", "becomes", "(II)I"⟩, 24) := ⟨⟨by decide +kernel, by decide +kernel⟩, List.mem_of_getElem? (i := 913) (by decide +kernel), List.mem_of_getElem? (i := 1045) (by decide +kernel), List.mem_of_getElem? (i := 1046) (by decide +kernel)⟩
theorem lw_p29 : lw_okq (⟨"PlayPartsModel", "lets", "(III)V"⟩, 24) := ⟨⟨by decide +kernel, by decide +kernel⟩, List.mem_of_getElem? (i := 913) (by decide +kernel), List.mem_of_getElem? (i := 1058) (by decide +kernel), List.mem_of_getElem? (i := 1059) (by decide +kernel)⟩
theorem lw_p30 : lw_okq (⟨"PlayPartsModel", "isChild", "(I)Z"⟩, 24) := ⟨⟨by decide +kernel, by decide +kernel⟩, List.mem_of_getElem? (i := 913) (by decide +kernel), List.mem_of_getElem? (i := 1066) (by decide +kernel), List.mem_of_getElem? (i := 1067) (by decide +kernel)⟩
theorem lw_p31 : lw_okq (⟨"PlayPartsModel", "joyOf", "(I)I"⟩, 24) := ⟨⟨by decide +kernel, by decide +kernel⟩, List.mem_of_getElem? (i := 913) (by decide +kernel), List.mem_of_getElem? (i := 1070) (by decide +kernel), List.mem_of_getElem? (i := 1071) (by decide +kernel)⟩
def lw_privs_2 : List (MethodName × Nat) := [(⟨"PlayParts$Voices", "begin", "(I)V"⟩, 6), (⟨"PlayParts$Voices", "sings", "(II)I"⟩, 6), (⟨"PlayParts$Voices", "waits", "(II)I"⟩, 6), (⟨"PlayParts$Voices", "parts", "(II)I"⟩, 6), (⟨"PlayPartsModel", "error", "(I)I"⟩, 24), (⟨"PlayPartsModel", "isPart", "(I)Z"⟩, 24), (⟨"PlayPartsModel", "of", "(II)I"⟩, 24), (⟨"PlayPartsModel", "linesOf", "(I)I"⟩, 24), (⟨"PlayPartsModel", "whoHas", "(I)I"⟩, 24), (⟨"PlayPartsModel", "about", "(II)I"⟩, 24), (⟨"PlayPartsModel", "whoMay", "(I)I"⟩, 24), (⟨"PlayPartsModel", "mayPlay", "(II)Z"⟩, 24), (⟨"PlayPartsModel", "becomes", "(II)I"⟩, 24), (⟨"PlayPartsModel", "lets", "(III)V"⟩, 24), (⟨"PlayPartsModel", "isChild", "(I)Z"⟩, 24), (⟨"PlayPartsModel", "joyOf", "(I)I"⟩, 24)]
theorem lw_r2 : ∀ q ∈ lw_privs_2, lw_okq q := List.forall_mem_cons.mpr ⟨lw_p16, List.forall_mem_cons.mpr ⟨lw_p17, List.forall_mem_cons.mpr ⟨lw_p18, List.forall_mem_cons.mpr ⟨lw_p19, List.forall_mem_cons.mpr ⟨lw_p20, List.forall_mem_cons.mpr ⟨lw_p21, List.forall_mem_cons.mpr ⟨lw_p22, List.forall_mem_cons.mpr ⟨lw_p23, List.forall_mem_cons.mpr ⟨lw_p24, List.forall_mem_cons.mpr ⟨lw_p25, List.forall_mem_cons.mpr ⟨lw_p26, List.forall_mem_cons.mpr ⟨lw_p27, List.forall_mem_cons.mpr ⟨lw_p28, List.forall_mem_cons.mpr ⟨lw_p29, List.forall_mem_cons.mpr ⟨lw_p30, List.forall_mem_cons.mpr ⟨lw_p31, fun _ h => absurd h List.not_mem_nil⟩⟩⟩⟩⟩⟩⟩⟩⟩⟩⟩⟩⟩⟩⟩⟩
theorem lw_p32 : lw_okq (⟨"PlayPartsModel", "worthTo", "(II)I"⟩, 24) := ⟨⟨by decide +kernel, by decide +kernel⟩, List.mem_of_getElem? (i := 913) (by decide +kernel), List.mem_of_getElem? (i := 1074) (by decide +kernel), List.mem_of_getElem? (i := 1075) (by decide +kernel)⟩
theorem lw_p33 : lw_okq (⟨"PlayPartsModel", "dearTo", "(II)I"⟩, 24) := ⟨⟨by decide +kernel, by decide +kernel⟩, List.mem_of_getElem? (i := 913) (by decide +kernel), List.mem_of_getElem? (i := 1078) (by decide +kernel), List.mem_of_getElem? (i := 1079) (by decide +kernel)⟩
theorem lw_p34 : lw_okq (⟨"PlayPartsModel", "gives", "(IIII)I"⟩, 24) := ⟨⟨by decide +kernel, by decide +kernel⟩, List.mem_of_getElem? (i := 913) (by decide +kernel), List.mem_of_getElem? (i := 1082) (by decide +kernel), List.mem_of_getElem? (i := 1083) (by decide +kernel)⟩
theorem lw_p35 : lw_okq (⟨"PlayPartsModel", "works", "(I)I"⟩, 24) := ⟨⟨by decide +kernel, by decide +kernel⟩, List.mem_of_getElem? (i := 913) (by decide +kernel), List.mem_of_getElem? (i := 1086) (by decide +kernel), List.mem_of_getElem? (i := 1087) (by decide +kernel)⟩
theorem lw_p36 : lw_okq (⟨"PlayPartsModel", "any", "()V"⟩, 24) := ⟨⟨by decide +kernel, by decide +kernel⟩, List.mem_of_getElem? (i := 913) (by decide +kernel), List.mem_of_getElem? (i := 1122) (by decide +kernel), List.mem_of_getElem? (i := 1123) (by decide +kernel)⟩
theorem lw_p37 : lw_okq (⟨"PlayPartsModel", "all", "()V"⟩, 24) := ⟨⟨by decide +kernel, by decide +kernel⟩, List.mem_of_getElem? (i := 913) (by decide +kernel), List.mem_of_getElem? (i := 1126) (by decide +kernel), List.mem_of_getElem? (i := 1127) (by decide +kernel)⟩
theorem lw_p38 : lw_okq (⟨"PlayPartsModel", "compares", "()V"⟩, 24) := ⟨⟨by decide +kernel, by decide +kernel⟩, List.mem_of_getElem? (i := 913) (by decide +kernel), List.mem_of_getElem? (i := 1130) (by decide +kernel), List.mem_of_getElem? (i := 1131) (by decide +kernel)⟩
theorem lw_p39 : lw_okq (⟨"PlayPartsModel", "sum", "()V"⟩, 24) := ⟨⟨by decide +kernel, by decide +kernel⟩, List.mem_of_getElem? (i := 913) (by decide +kernel), List.mem_of_getElem? (i := 1134) (by decide +kernel), List.mem_of_getElem? (i := 1135) (by decide +kernel)⟩
theorem lw_p40 : lw_okq (⟨"PlayPartsModel", "times", "()V"⟩, 24) := ⟨⟨by decide +kernel, by decide +kernel⟩, List.mem_of_getElem? (i := 913) (by decide +kernel), List.mem_of_getElem? (i := 1138) (by decide +kernel), List.mem_of_getElem? (i := 1139) (by decide +kernel)⟩
theorem lw_p41 : lw_okq (⟨"PlayPartsModel", "one", "()V"⟩, 24) := ⟨⟨by decide +kernel, by decide +kernel⟩, List.mem_of_getElem? (i := 913) (by decide +kernel), List.mem_of_getElem? (i := 1142) (by decide +kernel), List.mem_of_getElem? (i := 1143) (by decide +kernel)⟩
theorem lw_p42 : lw_okq (⟨"PlayPartsModel", "look", "()I"⟩, 24) := ⟨⟨by decide +kernel, by decide +kernel⟩, List.mem_of_getElem? (i := 913) (by decide +kernel), List.mem_of_getElem? (i := 1146) (by decide +kernel), List.mem_of_getElem? (i := 1147) (by decide +kernel)⟩
theorem lw_p43 : lw_okq (⟨"PlayPartsModel", "nameOf", "(I)I"⟩, 24) := ⟨⟨by decide +kernel, by decide +kernel⟩, List.mem_of_getElem? (i := 913) (by decide +kernel), List.mem_of_getElem? (i := 1150) (by decide +kernel), List.mem_of_getElem? (i := 1151) (by decide +kernel)⟩
theorem lw_p44 : lw_okq (⟨"PlayPartsModel", "step", "(II)V"⟩, 24) := ⟨⟨by decide +kernel, by decide +kernel⟩, List.mem_of_getElem? (i := 913) (by decide +kernel), List.mem_of_getElem? (i := 1154) (by decide +kernel), List.mem_of_getElem? (i := 1155) (by decide +kernel)⟩
theorem lw_p45 : lw_okq (⟨"PlayPartsModel", "opens", "(I)V"⟩, 24) := ⟨⟨by decide +kernel, by decide +kernel⟩, List.mem_of_getElem? (i := 913) (by decide +kernel), List.mem_of_getElem? (i := 1158) (by decide +kernel), List.mem_of_getElem? (i := 1159) (by decide +kernel)⟩
theorem lw_p46 : lw_okq (⟨"PlayPartsModel", "number", "()V"⟩, 24) := ⟨⟨by decide +kernel, by decide +kernel⟩, List.mem_of_getElem? (i := 913) (by decide +kernel), List.mem_of_getElem? (i := 1162) (by decide +kernel), List.mem_of_getElem? (i := 1163) (by decide +kernel)⟩
theorem lw_p47 : lw_okq (⟨"PlayPartsModel", "plays", "()I"⟩, 24) := ⟨⟨by decide +kernel, by decide +kernel⟩, List.mem_of_getElem? (i := 913) (by decide +kernel), List.mem_of_getElem? (i := 1178) (by decide +kernel), List.mem_of_getElem? (i := 1179) (by decide +kernel)⟩
def lw_privs_3 : List (MethodName × Nat) := [(⟨"PlayPartsModel", "worthTo", "(II)I"⟩, 24), (⟨"PlayPartsModel", "dearTo", "(II)I"⟩, 24), (⟨"PlayPartsModel", "gives", "(IIII)I"⟩, 24), (⟨"PlayPartsModel", "works", "(I)I"⟩, 24), (⟨"PlayPartsModel", "any", "()V"⟩, 24), (⟨"PlayPartsModel", "all", "()V"⟩, 24), (⟨"PlayPartsModel", "compares", "()V"⟩, 24), (⟨"PlayPartsModel", "sum", "()V"⟩, 24), (⟨"PlayPartsModel", "times", "()V"⟩, 24), (⟨"PlayPartsModel", "one", "()V"⟩, 24), (⟨"PlayPartsModel", "look", "()I"⟩, 24), (⟨"PlayPartsModel", "nameOf", "(I)I"⟩, 24), (⟨"PlayPartsModel", "step", "(II)V"⟩, 24), (⟨"PlayPartsModel", "opens", "(I)V"⟩, 24), (⟨"PlayPartsModel", "number", "()V"⟩, 24), (⟨"PlayPartsModel", "plays", "()I"⟩, 24)]
theorem lw_r3 : ∀ q ∈ lw_privs_3, lw_okq q := List.forall_mem_cons.mpr ⟨lw_p32, List.forall_mem_cons.mpr ⟨lw_p33, List.forall_mem_cons.mpr ⟨lw_p34, List.forall_mem_cons.mpr ⟨lw_p35, List.forall_mem_cons.mpr ⟨lw_p36, List.forall_mem_cons.mpr ⟨lw_p37, List.forall_mem_cons.mpr ⟨lw_p38, List.forall_mem_cons.mpr ⟨lw_p39, List.forall_mem_cons.mpr ⟨lw_p40, List.forall_mem_cons.mpr ⟨lw_p41, List.forall_mem_cons.mpr ⟨lw_p42, List.forall_mem_cons.mpr ⟨lw_p43, List.forall_mem_cons.mpr ⟨lw_p44, List.forall_mem_cons.mpr ⟨lw_p45, List.forall_mem_cons.mpr ⟨lw_p46, List.forall_mem_cons.mpr ⟨lw_p47, fun _ h => absurd h List.not_mem_nil⟩⟩⟩⟩⟩⟩⟩⟩⟩⟩⟩⟩⟩⟩⟩⟩
theorem lw_p48 : lw_okq (⟨"PlayPartsModel", "joyOfAll", "()I"⟩, 24) := ⟨⟨by decide +kernel, by decide +kernel⟩, List.mem_of_getElem? (i := 913) (by decide +kernel), List.mem_of_getElem? (i := 1182) (by decide +kernel), List.mem_of_getElem? (i := 1183) (by decide +kernel)⟩
theorem lw_p49 : lw_okq (⟨"PlayPartsModel", "drawn", "()I"⟩, 24) := ⟨⟨by decide +kernel, by decide +kernel⟩, List.mem_of_getElem? (i := 913) (by decide +kernel), List.mem_of_getElem? (i := 1192) (by decide +kernel), List.mem_of_getElem? (i := 1193) (by decide +kernel)⟩
theorem lw_p50 : lw_okq (⟨"PlayPartsModel", "nobodyHas", "()V"⟩, 24) := ⟨⟨by decide +kernel, by decide +kernel⟩, List.mem_of_getElem? (i := 913) (by decide +kernel), List.mem_of_getElem? (i := 1196) (by decide +kernel), List.mem_of_getElem? (i := 1197) (by decide +kernel)⟩
theorem lw_p51 : lw_okq (⟨"PlayPartsModel", "freeFor", "(I)I"⟩, 24) := ⟨⟨by decide +kernel, by decide +kernel⟩, List.mem_of_getElem? (i := 913) (by decide +kernel), List.mem_of_getElem? (i := 1200) (by decide +kernel), List.mem_of_getElem? (i := 1201) (by decide +kernel)⟩
theorem lw_p52 : lw_okq (⟨"PlayPartsModel", "draw", "()I"⟩, 24) := ⟨⟨by decide +kernel, by decide +kernel⟩, List.mem_of_getElem? (i := 913) (by decide +kernel), List.mem_of_getElem? (i := 1204) (by decide +kernel), List.mem_of_getElem? (i := 1205) (by decide +kernel)⟩
theorem lw_p53 : lw_okq (⟨"PlayPartsModel", "findWorths", "()V"⟩, 24) := ⟨⟨by decide +kernel, by decide +kernel⟩, List.mem_of_getElem? (i := 913) (by decide +kernel), List.mem_of_getElem? (i := 1225) (by decide +kernel), List.mem_of_getElem? (i := 1226) (by decide +kernel)⟩
theorem lw_p54 : lw_okq (⟨"PlayPartsModel", "findBest", "()V"⟩, 24) := ⟨⟨by decide +kernel, by decide +kernel⟩, List.mem_of_getElem? (i := 913) (by decide +kernel), List.mem_of_getElem? (i := 1229) (by decide +kernel), List.mem_of_getElem? (i := 1230) (by decide +kernel)⟩
theorem lw_p55 : lw_okq (⟨"PlayPartsModel", "findValues", "()V"⟩, 24) := ⟨⟨by decide +kernel, by decide +kernel⟩, List.mem_of_getElem? (i := 913) (by decide +kernel), List.mem_of_getElem? (i := 1233) (by decide +kernel), List.mem_of_getElem? (i := 1234) (by decide +kernel)⟩
theorem lw_p56 : lw_okq (⟨"PlayPartsModel", "thinks", "()V"⟩, 24) := ⟨⟨by decide +kernel, by decide +kernel⟩, List.mem_of_getElem? (i := 913) (by decide +kernel), List.mem_of_getElem? (i := 1249) (by decide +kernel), List.mem_of_getElem? (i := 1250) (by decide +kernel)⟩
theorem lw_p57 : lw_okq (⟨"PlayPartsModel", "putsBack", "()V"⟩, 24) := ⟨⟨by decide +kernel, by decide +kernel⟩, List.mem_of_getElem? (i := 913) (by decide +kernel), List.mem_of_getElem? (i := 1256) (by decide +kernel), List.mem_of_getElem? (i := 1257) (by decide +kernel)⟩
theorem lw_p58 : lw_okq (⟨"PlayPartsModel", "rightOf", "(I)I"⟩, 24) := ⟨⟨by decide +kernel, by decide +kernel⟩, List.mem_of_getElem? (i := 913) (by decide +kernel), List.mem_of_getElem? (i := 1271) (by decide +kernel), List.mem_of_getElem? (i := 1272) (by decide +kernel)⟩
theorem lw_p59 : lw_okq (⟨"PlayPartsModel", "says", "(II)I"⟩, 24) := ⟨⟨by decide +kernel, by decide +kernel⟩, List.mem_of_getElem? (i := 913) (by decide +kernel), List.mem_of_getElem? (i := 1279) (by decide +kernel), List.mem_of_getElem? (i := 1280) (by decide +kernel)⟩
theorem lw_p60 : lw_okq (⟨"PlayPartsModel", "speakerSays", "(II)I"⟩, 24) := ⟨⟨by decide +kernel, by decide +kernel⟩, List.mem_of_getElem? (i := 913) (by decide +kernel), List.mem_of_getElem? (i := 1283) (by decide +kernel), List.mem_of_getElem? (i := 1284) (by decide +kernel)⟩
theorem lw_p61 : lw_okq (⟨"PlayPartsModel", "begins", "(I)V"⟩, 24) := ⟨⟨by decide +kernel, by decide +kernel⟩, List.mem_of_getElem? (i := 913) (by decide +kernel), List.mem_of_getElem? (i := 1287) (by decide +kernel), List.mem_of_getElem? (i := 1288) (by decide +kernel)⟩
theorem lw_p62 : lw_okq (⟨"PlayPartsModel", "plainSays", "(II)I"⟩, 24) := ⟨⟨by decide +kernel, by decide +kernel⟩, List.mem_of_getElem? (i := 913) (by decide +kernel), List.mem_of_getElem? (i := 1291) (by decide +kernel), List.mem_of_getElem? (i := 1292) (by decide +kernel)⟩
theorem lw_p63 : lw_okq (⟨"PlayPartsModel", "sings", "(II)I"⟩, 24) := ⟨⟨by decide +kernel, by decide +kernel⟩, List.mem_of_getElem? (i := 913) (by decide +kernel), List.mem_of_getElem? (i := 1295) (by decide +kernel), List.mem_of_getElem? (i := 1296) (by decide +kernel)⟩
def lw_privs_4 : List (MethodName × Nat) := [(⟨"PlayPartsModel", "joyOfAll", "()I"⟩, 24), (⟨"PlayPartsModel", "drawn", "()I"⟩, 24), (⟨"PlayPartsModel", "nobodyHas", "()V"⟩, 24), (⟨"PlayPartsModel", "freeFor", "(I)I"⟩, 24), (⟨"PlayPartsModel", "draw", "()I"⟩, 24), (⟨"PlayPartsModel", "findWorths", "()V"⟩, 24), (⟨"PlayPartsModel", "findBest", "()V"⟩, 24), (⟨"PlayPartsModel", "findValues", "()V"⟩, 24), (⟨"PlayPartsModel", "thinks", "()V"⟩, 24), (⟨"PlayPartsModel", "putsBack", "()V"⟩, 24), (⟨"PlayPartsModel", "rightOf", "(I)I"⟩, 24), (⟨"PlayPartsModel", "says", "(II)I"⟩, 24), (⟨"PlayPartsModel", "speakerSays", "(II)I"⟩, 24), (⟨"PlayPartsModel", "begins", "(I)V"⟩, 24), (⟨"PlayPartsModel", "plainSays", "(II)I"⟩, 24), (⟨"PlayPartsModel", "sings", "(II)I"⟩, 24)]
theorem lw_r4 : ∀ q ∈ lw_privs_4, lw_okq q := List.forall_mem_cons.mpr ⟨lw_p48, List.forall_mem_cons.mpr ⟨lw_p49, List.forall_mem_cons.mpr ⟨lw_p50, List.forall_mem_cons.mpr ⟨lw_p51, List.forall_mem_cons.mpr ⟨lw_p52, List.forall_mem_cons.mpr ⟨lw_p53, List.forall_mem_cons.mpr ⟨lw_p54, List.forall_mem_cons.mpr ⟨lw_p55, List.forall_mem_cons.mpr ⟨lw_p56, List.forall_mem_cons.mpr ⟨lw_p57, List.forall_mem_cons.mpr ⟨lw_p58, List.forall_mem_cons.mpr ⟨lw_p59, List.forall_mem_cons.mpr ⟨lw_p60, List.forall_mem_cons.mpr ⟨lw_p61, List.forall_mem_cons.mpr ⟨lw_p62, List.forall_mem_cons.mpr ⟨lw_p63, fun _ h => absurd h List.not_mem_nil⟩⟩⟩⟩⟩⟩⟩⟩⟩⟩⟩⟩⟩⟩⟩⟩
theorem lw_p64 : lw_okq (⟨"PlayPartsModel", "crownSings", "(II)I"⟩, 24) := ⟨⟨by decide +kernel, by decide +kernel⟩, List.mem_of_getElem? (i := 913) (by decide +kernel), List.mem_of_getElem? (i := 1299) (by decide +kernel), List.mem_of_getElem? (i := 1300) (by decide +kernel)⟩
theorem lw_p65 : lw_okq (⟨"PlayPartsModel", "plainSings", "(II)I"⟩, 24) := ⟨⟨by decide +kernel, by decide +kernel⟩, List.mem_of_getElem? (i := 913) (by decide +kernel), List.mem_of_getElem? (i := 1303) (by decide +kernel), List.mem_of_getElem? (i := 1304) (by decide +kernel)⟩
theorem lw_p66 : lw_okq (⟨"PlayPartsModel", "waits", "(II)I"⟩, 24) := ⟨⟨by decide +kernel, by decide +kernel⟩, List.mem_of_getElem? (i := 913) (by decide +kernel), List.mem_of_getElem? (i := 1307) (by decide +kernel), List.mem_of_getElem? (i := 1308) (by decide +kernel)⟩
theorem lw_p67 : lw_okq (⟨"PlayPartsModel", "plainWaits", "(II)I"⟩, 24) := ⟨⟨by decide +kernel, by decide +kernel⟩, List.mem_of_getElem? (i := 913) (by decide +kernel), List.mem_of_getElem? (i := 1311) (by decide +kernel), List.mem_of_getElem? (i := 1312) (by decide +kernel)⟩
theorem lw_p68 : lw_okq (⟨"PlayPartsModel", "partsBy", "(II)I"⟩, 24) := ⟨⟨by decide +kernel, by decide +kernel⟩, List.mem_of_getElem? (i := 913) (by decide +kernel), List.mem_of_getElem? (i := 1315) (by decide +kernel), List.mem_of_getElem? (i := 1316) (by decide +kernel)⟩
theorem lw_p69 : lw_okq (⟨"PlayPartsModel", "plainParts", "(II)I"⟩, 24) := ⟨⟨by decide +kernel, by decide +kernel⟩, List.mem_of_getElem? (i := 913) (by decide +kernel), List.mem_of_getElem? (i := 1319) (by decide +kernel), List.mem_of_getElem? (i := 1320) (by decide +kernel)⟩
theorem lw_p70 : lw_okq (⟨"PlayPartsModel", "notThere", "(I)I"⟩, 24) := ⟨⟨by decide +kernel, by decide +kernel⟩, List.mem_of_getElem? (i := 913) (by decide +kernel), List.mem_of_getElem? (i := 1336) (by decide +kernel), List.mem_of_getElem? (i := 1337) (by decide +kernel)⟩
theorem lw_p71 : lw_okq (⟨"PlayPartsModel", "notMoved", "(IIIII)I"⟩, 24) := ⟨⟨by decide +kernel, by decide +kernel⟩, List.mem_of_getElem? (i := 913) (by decide +kernel), List.mem_of_getElem? (i := 1344) (by decide +kernel), List.mem_of_getElem? (i := 1345) (by decide +kernel)⟩
def lw_privs_5 : List (MethodName × Nat) := [(⟨"PlayPartsModel", "crownSings", "(II)I"⟩, 24), (⟨"PlayPartsModel", "plainSings", "(II)I"⟩, 24), (⟨"PlayPartsModel", "waits", "(II)I"⟩, 24), (⟨"PlayPartsModel", "plainWaits", "(II)I"⟩, 24), (⟨"PlayPartsModel", "partsBy", "(II)I"⟩, 24), (⟨"PlayPartsModel", "plainParts", "(II)I"⟩, 24), (⟨"PlayPartsModel", "notThere", "(I)I"⟩, 24), (⟨"PlayPartsModel", "notMoved", "(IIIII)I"⟩, 24)]
theorem lw_r5 : ∀ q ∈ lw_privs_5, lw_okq q := List.forall_mem_cons.mpr ⟨lw_p64, List.forall_mem_cons.mpr ⟨lw_p65, List.forall_mem_cons.mpr ⟨lw_p66, List.forall_mem_cons.mpr ⟨lw_p67, List.forall_mem_cons.mpr ⟨lw_p68, List.forall_mem_cons.mpr ⟨lw_p69, List.forall_mem_cons.mpr ⟨lw_p70, List.forall_mem_cons.mpr ⟨lw_p71, fun _ h => absurd h List.not_mem_nil⟩⟩⟩⟩⟩⟩⟩⟩
def lw_privs : List (MethodName × Nat) := lw_privs_1 ++ (lw_privs_2 ++ (lw_privs_3 ++ (lw_privs_4 ++ (lw_privs_5))))
def lw_tbl : List Cond := k2_sels lw_privs ++ tables_1
theorem lw_privs_ok : ∀ q ∈ lw_privs, lw_okq q := by
  show ∀ q ∈ lw_privs_1 ++ (lw_privs_2 ++ (lw_privs_3 ++ (lw_privs_4 ++ (lw_privs_5)))), lw_okq q
  exact List.forall_mem_append.mpr ⟨lw_r1, List.forall_mem_append.mpr ⟨lw_r2, List.forall_mem_append.mpr ⟨lw_r3, List.forall_mem_append.mpr ⟨lw_r4, lw_r5⟩⟩⟩⟩
end
section
/-! the methods: decoded instructions (place, instruction, length), names, bytes -/
def xc_P_init : List (Nat × Instr × Nat) := [(0, .aload_n 0, 1), (1, .invokespecial 1, 3), (4, .aload_n 0, 1), (5, .new 7, 3), (8, .dup, 1), (9, .invokespecial 9, 3), (12, .putfield 10, 3), (15, .aload_n 0, 1), (16, .new 7, 3), (19, .dup, 1), (20, .invokespecial 9, 3), (23, .putfield 16, 3), (26, .aload_n 0, 1), (27, .new 19, 3), (30, .dup, 1), (31, .invokespecial 21, 3), (34, .putfield 22, 3), (37, .aload_n 0, 1), (38, .new 26, 3), (41, .dup, 1), (42, .invokespecial 28, 3), (45, .putfield 29, 3), (48, .aload_n 0, 1), (49, .new 33, 3), (52, .dup, 1), (53, .invokespecial 35, 3), (56, .putfield 36, 3), (59, .aload_n 0, 1), (60, .new 40, 3), (63, .dup, 1), (64, .invokespecial 42, 3), (67, .putfield 43, 3), (70, .aload_n 0, 1), (71, .iconst 4, 1), (72, .anewarray 47, 3), (75, .putfield 49, 3), (78, .aload_n 0, 1), (79, .bipush 7, 2), (81, .newarray .int, 2), (83, .putfield 53, 3), (86, .aload_n 0, 1), (87, .bipush 7, 2), (89, .newarray .int, 2), (91, .putfield 57, 3), (94, .iconst 0, 1), (95, .istore_n 1, 1), (96, .iload_n 1, 1), (97, .iconst 4, 1), (98, .if_icmp .ge 22, 3), (101, .aload_n 0, 1), (102, .getfield 49, 3), (105, .iload_n 1, 1), (106, .new 47, 3), (109, .dup, 1), (110, .invokespecial 60, 3), (113, .aastore, 1), (114, .iinc 1 1, 3), (117, .goto (-21), 3), (120, .return_, 1)]
theorem xd_P_init : xc_P_init.all (fun q => decide (decode prog_1_method_1_code q.1 = .ok (q.2.1, q.2.2))) = true := by decide +kernel
def xc_P_part : List (Nat × Instr × Nat) := [(0, .iload_n 1, 1), (1, .invokestatic 61, 3), (4, .ifCond .ne 9, 3), (7, .aload_n 0, 1), (8, .iconst 1, 1), (9, .invokevirtual 65, 3), (12, .ireturn, 1), (13, .aload_n 0, 1), (14, .getfield 10, 3), (17, .getfield 69, 3), (20, .bipush 7, 2), (22, .if_icmp .lt 9, 3), (25, .aload_n 0, 1), (26, .iconst 4, 1), (27, .invokevirtual 65, 3), (30, .ireturn, 1), (31, .aload_n 0, 1), (32, .getfield 10, 3), (35, .dup, 1), (36, .getfield 69, 3), (39, .iconst 1, 1), (40, .iadd, 1), (41, .putfield 69, 3), (44, .aload_n 0, 1), (45, .getfield 10, 3), (48, .getfield 73, 3), (51, .aload_n 0, 1), (52, .getfield 10, 3), (55, .getfield 69, 3), (58, .iconst 1, 1), (59, .isub, 1), (60, .aaload, 1), (61, .iload_n 1, 1), (62, .invokevirtual 77, 3), (65, .aload_n 0, 1), (66, .getfield 10, 3), (69, .getfield 69, 3), (72, .iconst 1, 1), (73, .isub, 1), (74, .ireturn, 1)]
theorem xd_P_part : xc_P_part.all (fun q => decide (decode prog_1_method_2_code q.1 = .ok (q.2.1, q.2.2))) = true := by decide +kernel
def xc_P_partIs : List (Nat × Instr × Nat) := [(0, .aload_n 0, 1), (1, .getfield 10, 3), (4, .iload_n 1, 1), (5, .invokevirtual 83, 3), (8, .ifCond .eq 12, 3), (11, .iload_n 2, 1), (12, .ifCond .lt 8, 3), (15, .iload_n 2, 1), (16, .iconst 4, 1), (17, .if_icmp .le 9, 3), (20, .aload_n 0, 1), (21, .iconst 1, 1), (22, .invokevirtual 65, 3), (25, .ireturn, 1), (26, .iload_n 2, 1), (27, .tableswitch 84 0 3 #[29, 42, 55, 75], 29), (56, .aload_n 0, 1), (57, .getfield 10, 3), (60, .getfield 73, 3), (63, .iload_n 1, 1), (64, .aaload, 1), (65, .getfield 86, 3), (68, .ireturn, 1), (69, .aload_n 0, 1), (70, .getfield 10, 3), (73, .getfield 73, 3), (76, .iload_n 1, 1), (77, .aaload, 1), (78, .getfield 89, 3), (81, .ireturn, 1), (82, .aload_n 0, 1), (83, .getfield 10, 3), (86, .getfield 73, 3), (89, .iload_n 1, 1), (90, .aaload, 1), (91, .aload_n 0, 1), (92, .getfield 10, 3), (95, .getfield 92, 3), (98, .invokevirtual 95, 3), (101, .ireturn, 1), (102, .aload_n 0, 1), (103, .getfield 10, 3), (106, .iload_n 1, 1), (107, .invokevirtual 98, 3), (110, .ireturn, 1), (111, .aload_n 0, 1), (112, .getfield 10, 3), (115, .iload_n 1, 1), (116, .invokevirtual 101, 3), (119, .ireturn, 1)]
theorem xd_P_partIs : xc_P_partIs.all (fun q => decide (decode prog_1_method_3_code q.1 = .ok (q.2.1, q.2.2))) = true := by decide +kernel
def xc_P_become : List (Nat × Instr × Nat) := [(0, .aload_n 0, 1), (1, .getfield 10, 3), (4, .iload_n 1, 1), (5, .invokevirtual 83, 3), (8, .ifCond .eq 10, 3), (11, .iload_n 2, 1), (12, .invokestatic 61, 3), (15, .ifCond .ne 9, 3), (18, .aload_n 0, 1), (19, .iconst 1, 1), (20, .invokevirtual 65, 3), (23, .ireturn, 1), (24, .aload_n 0, 1), (25, .getfield 10, 3), (28, .getfield 73, 3), (31, .iload_n 1, 1), (32, .aaload, 1), (33, .getfield 86, 3), (36, .istore_n 3, 1), (37, .aload_n 0, 1), (38, .getfield 10, 3), (41, .getfield 73, 3), (44, .iload_n 1, 1), (45, .aaload, 1), (46, .iload_n 2, 1), (47, .invokevirtual 77, 3), (50, .iload_n 3, 1), (51, .ireturn, 1)]
theorem xd_P_become : xc_P_become.all (fun q => decide (decode prog_1_method_4_code q.1 = .ok (q.2.1, q.2.2))) = true := by decide +kernel
def xc_P_as : List (Nat × Instr × Nat) := [(0, .aload_n 0, 1), (1, .getfield 10, 3), (4, .iload_n 1, 1), (5, .invokevirtual 83, 3), (8, .ifCond .eq 13, 3), (11, .iload_n 2, 1), (12, .ifCond .lt 9, 3), (15, .iload_n 2, 1), (16, .bipush 7, 2), (18, .if_icmp .lt 9, 3), (21, .aload_n 0, 1), (22, .iconst 1, 1), (23, .invokevirtual 65, 3), (26, .ireturn, 1), (27, .aload_n 0, 1), (28, .getfield 10, 3), (31, .getfield 73, 3), (34, .iload_n 1, 1), (35, .aaload, 1), (36, .iload_n 2, 1), (37, .invokevirtual 104, 3), (40, .ifCond .ne 9, 3), (43, .aload_n 0, 1), (44, .iconst 5, 1), (45, .invokevirtual 65, 3), (48, .ireturn, 1), (49, .aload_n 0, 1), (50, .getfield 10, 3), (53, .getfield 73, 3), (56, .iload_n 1, 1), (57, .aaload, 1), (58, .getfield 89, 3), (61, .ireturn, 1)]
theorem xd_P_as : xc_P_as.all (fun q => decide (decode prog_1_method_5_code q.1 = .ok (q.2.1, q.2.2))) = true := by decide +kernel
def xc_P_child : List (Nat × Instr × Nat) := [(0, .iload_n 1, 1), (1, .iconst 0, 1), (2, .bipush 9, 2), (4, .invokestatic 107, 3), (7, .ifCond .eq 22, 3), (10, .iload_n 2, 1), (11, .iconst 1, 1), (12, .bipush 9, 2), (14, .invokestatic 107, 3), (17, .ifCond .eq 12, 3), (20, .iload_n 3, 1), (21, .iconst 0, 1), (22, .iconst 1, 1), (23, .invokestatic 107, 3), (26, .ifCond .ne 9, 3), (29, .aload_n 0, 1), (30, .iconst 1, 1), (31, .invokevirtual 65, 3), (34, .ireturn, 1), (35, .aload_n 0, 1), (36, .getfield 10, 3), (39, .getfield 111, 3), (42, .bipush 7, 2), (44, .if_icmp .lt 9, 3), (47, .aload_n 0, 1), (48, .iconst 4, 1), (49, .invokevirtual 65, 3), (52, .ireturn, 1), (53, .aload_n 0, 1), (54, .getfield 10, 3), (57, .dup, 1), (58, .getfield 111, 3), (61, .iconst 1, 1), (62, .iadd, 1), (63, .putfield 111, 3), (66, .aload_n 0, 1), (67, .getfield 10, 3), (70, .getfield 114, 3), (73, .aload_n 0, 1), (74, .getfield 10, 3), (77, .getfield 111, 3), (80, .iconst 1, 1), (81, .isub, 1), (82, .aaload, 1), (83, .iload_n 1, 1), (84, .iload_n 2, 1), (85, .iload_n 3, 1), (86, .invokevirtual 118, 3), (89, .aload_n 0, 1), (90, .getfield 10, 3), (93, .getfield 111, 3), (96, .iconst 1, 1), (97, .isub, 1), (98, .ireturn, 1)]
theorem xd_P_child : xc_P_child.all (fun q => decide (decode prog_1_method_6_code q.1 = .ok (q.2.1, q.2.2))) = true := by decide +kernel
def xc_P_childIs : List (Nat × Instr × Nat) := [(0, .aload_n 0, 1), (1, .getfield 10, 3), (4, .iload_n 1, 1), (5, .invokevirtual 124, 3), (8, .ifCond .eq 13, 3), (11, .iload_n 2, 1), (12, .ifCond .lt 9, 3), (15, .iload_n 2, 1), (16, .bipush 9, 2), (18, .if_icmp .le 9, 3), (21, .aload_n 0, 1), (22, .iconst 1, 1), (23, .invokevirtual 65, 3), (26, .ireturn, 1), (27, .iload_n 2, 1), (28, .bipush 9, 2), (30, .if_icmp .ne 12, 3), (33, .aload_n 0, 1), (34, .getfield 10, 3), (37, .iload_n 1, 1), (38, .invokevirtual 127, 3), (41, .ireturn, 1), (42, .aload_n 0, 1), (43, .getfield 10, 3), (46, .getfield 114, 3), (49, .iload_n 1, 1), (50, .aaload, 1), (51, .iload_n 2, 1), (52, .invokevirtual 130, 3), (55, .ireturn, 1)]
theorem xd_P_childIs : xc_P_childIs.all (fun q => decide (decode prog_1_method_7_code q.1 = .ok (q.2.1, q.2.2))) = true := by decide +kernel
def xc_P_wishes : List (Nat × Instr × Nat) := [(0, .aload_n 0, 1), (1, .getfield 10, 3), (4, .iload_n 1, 1), (5, .invokevirtual 124, 3), (8, .ifCond .eq 23, 3), (11, .iload_n 2, 1), (12, .iconst 0, 1), (13, .iconst 2, 1), (14, .invokestatic 107, 3), (17, .ifCond .eq 14, 3), (20, .aload_n 0, 1), (21, .getfield 10, 3), (24, .iload_n 3, 1), (25, .invokevirtual 133, 3), (28, .ifCond .ne 9, 3), (31, .aload_n 0, 1), (32, .iconst 1, 1), (33, .invokevirtual 65, 3), (36, .ireturn, 1), (37, .aload_n 0, 1), (38, .getfield 10, 3), (41, .getfield 114, 3), (44, .iload_n 1, 1), (45, .aaload, 1), (46, .getfield 136, 3), (49, .iload_n 2, 1), (50, .iaload, 1), (51, .istore 4, 2), (53, .aload_n 0, 1), (54, .getfield 10, 3), (57, .getfield 114, 3), (60, .iload_n 1, 1), (61, .aaload, 1), (62, .getfield 136, 3), (65, .iload_n 2, 1), (66, .iload_n 3, 1), (67, .iastore, 1), (68, .iload 4, 2), (70, .ireturn, 1)]
theorem xd_P_wishes : xc_P_wishes.all (fun q => decide (decode prog_1_method_8_code q.1 = .ok (q.2.1, q.2.2))) = true := by decide +kernel
def xc_P_falls : List (Nat × Instr × Nat) := [(0, .aload_n 0, 1), (1, .getfield 10, 3), (4, .iload_n 1, 1), (5, .invokevirtual 124, 3), (8, .ifCond .eq 12, 3), (11, .iload_n 2, 1), (12, .iconst 0, 1), (13, .iconst 1, 1), (14, .invokestatic 107, 3), (17, .ifCond .ne 9, 3), (20, .aload_n 0, 1), (21, .iconst 1, 1), (22, .invokevirtual 65, 3), (25, .ireturn, 1), (26, .aload_n 0, 1), (27, .getfield 10, 3), (30, .getfield 114, 3), (33, .iload_n 1, 1), (34, .aaload, 1), (35, .getfield 139, 3), (38, .istore_n 3, 1), (39, .aload_n 0, 1), (40, .getfield 10, 3), (43, .getfield 114, 3), (46, .iload_n 1, 1), (47, .aaload, 1), (48, .iload_n 2, 1), (49, .putfield 139, 3), (52, .iload_n 3, 1), (53, .ireturn, 1)]
theorem xd_P_falls : xc_P_falls.all (fun q => decide (decode prog_1_method_9_code q.1 = .ok (q.2.1, q.2.2))) = true := by decide +kernel
def xc_P_worth : List (Nat × Instr × Nat) := [(0, .aload_n 0, 1), (1, .getfield 10, 3), (4, .iload_n 1, 1), (5, .invokevirtual 124, 3), (8, .ifCond .eq 14, 3), (11, .aload_n 0, 1), (12, .getfield 10, 3), (15, .iload_n 2, 1), (16, .invokevirtual 83, 3), (19, .ifCond .ne 9, 3), (22, .aload_n 0, 1), (23, .iconst 1, 1), (24, .invokevirtual 65, 3), (27, .ireturn, 1), (28, .aload_n 0, 1), (29, .getfield 10, 3), (32, .iload_n 1, 1), (33, .iload_n 2, 1), (34, .invokevirtual 142, 3), (37, .ireturn, 1)]
theorem xd_P_worth : xc_P_worth.all (fun q => decide (decode prog_1_method_10_code q.1 = .ok (q.2.1, q.2.2))) = true := by decide +kernel
def xc_P_cast : List (Nat × Instr × Nat) := [(0, .aload_n 0, 1), (1, .getfield 10, 3), (4, .iload_n 1, 1), (5, .invokevirtual 124, 3), (8, .ifCond .eq 14, 3), (11, .aload_n 0, 1), (12, .getfield 10, 3), (15, .iload_n 2, 1), (16, .invokevirtual 133, 3), (19, .ifCond .ne 9, 3), (22, .aload_n 0, 1), (23, .iconst 1, 1), (24, .invokevirtual 65, 3), (27, .ireturn, 1), (28, .iload_n 2, 1), (29, .iconst (-1), 1), (30, .if_icmp .eq 40, 3), (33, .aload_n 0, 1), (34, .getfield 10, 3), (37, .iload_n 2, 1), (38, .invokevirtual 98, 3), (41, .istore_n 3, 1), (42, .aload_n 0, 1), (43, .getfield 10, 3), (46, .iload_n 1, 1), (47, .iload_n 2, 1), (48, .invokevirtual 146, 3), (51, .ifCond .eq 13, 3), (54, .iload_n 3, 1), (55, .iconst (-1), 1), (56, .if_icmp .eq 14, 3), (59, .iload_n 3, 1), (60, .iload_n 1, 1), (61, .if_icmp .eq 9, 3), (64, .aload_n 0, 1), (65, .iconst 3, 1), (66, .invokevirtual 65, 3), (69, .ireturn, 1), (70, .aload_n 0, 1), (71, .getfield 10, 3), (74, .getfield 114, 3), (77, .iload_n 1, 1), (78, .aaload, 1), (79, .getfield 150, 3), (82, .istore_n 3, 1), (83, .aload_n 0, 1), (84, .getfield 10, 3), (87, .getfield 114, 3), (90, .iload_n 1, 1), (91, .aaload, 1), (92, .iload_n 2, 1), (93, .putfield 150, 3), (96, .iload_n 3, 1), (97, .ireturn, 1)]
theorem xd_P_cast : xc_P_cast.all (fun q => decide (decode prog_1_method_11_code q.1 = .ok (q.2.1, q.2.2))) = true := by decide +kernel
def xc_P_feed : List (Nat × Instr × Nat) := [(0, .iload_n 3, 1), (1, .iconst 1, 1), (2, .bipush 8, 2), (4, .invokestatic 107, 3), (7, .ifCond .ne 9, 3), (10, .aload_n 0, 1), (11, .iconst 1, 1), (12, .invokevirtual 65, 3), (15, .ireturn, 1), (16, .aload_n 0, 1), (17, .getfield 10, 3), (20, .getfield 153, 3), (23, .iload_n 3, 1), (24, .iadd, 1), (25, .bipush 60, 2), (27, .if_icmp .le 9, 3), (30, .aload_n 0, 1), (31, .iconst 4, 1), (32, .invokevirtual 65, 3), (35, .ireturn, 1), (36, .iconst 0, 1), (37, .istore 4, 2), (39, .iload 4, 2), (41, .iload_n 3, 1), (42, .if_icmp .ge 39, 3), (45, .aload_n 0, 1), (46, .getfield 10, 3), (49, .getfield 156, 3), (52, .aload_n 0, 1), (53, .getfield 10, 3), (56, .getfield 153, 3), (59, .iload 4, 2), (61, .iadd, 1), (62, .lload_n 1, 1), (63, .bipush 8, 2), (65, .iload 4, 2), (67, .imul, 1), (68, .lushr, 1), (69, .l2i, 1), (70, .sipush 255, 3), (73, .iand, 1), (74, .iastore, 1), (75, .iinc 4 1, 3), (78, .goto (-39), 3), (81, .aload_n 0, 1), (82, .getfield 10, 3), (85, .dup, 1), (86, .getfield 153, 3), (89, .iload_n 3, 1), (90, .iadd, 1), (91, .putfield 153, 3), (94, .aload_n 0, 1), (95, .getfield 10, 3), (98, .getfield 153, 3), (101, .ireturn, 1)]
theorem xd_P_feed : xc_P_feed.all (fun q => decide (decode prog_1_method_12_code q.1 = .ok (q.2.1, q.2.2))) = true := by decide +kernel
def xc_P_text : List (Nat × Instr × Nat) := [(0, .iload_n 1, 1), (1, .invokestatic 159, 3), (4, .ifCond .ne 9, 3), (7, .aload_n 0, 1), (8, .iconst 1, 1), (9, .invokevirtual 65, 3), (12, .ireturn, 1), (13, .aload_n 0, 1), (14, .getfield 22, 3), (17, .aload_n 0, 1), (18, .getfield 10, 3), (21, .getfield 156, 3), (24, .aload_n 0, 1), (25, .getfield 10, 3), (28, .getfield 153, 3), (31, .iload_n 1, 1), (32, .invokevirtual 162, 3), (35, .istore_n 2, 1), (36, .aload_n 0, 1), (37, .getfield 10, 3), (40, .iconst 0, 1), (41, .putfield 153, 3), (44, .iload_n 2, 1), (45, .ifCond .lt 8, 3), (48, .bipush (-10), 2), (50, .iload_n 2, 1), (51, .isub, 1), (52, .ireturn, 1), (53, .aload_n 0, 1), (54, .getfield 10, 3), (57, .getfield 166, 3), (60, .iload_n 1, 1), (61, .aaload, 1), (62, .aload_n 0, 1), (63, .getfield 22, 3), (66, .getfield 170, 3), (69, .invokevirtual 174, 3), (72, .iconst 1, 1), (73, .ireturn, 1)]
theorem xd_P_text : xc_P_text.all (fun q => decide (decode prog_1_method_13_code q.1 = .ok (q.2.1, q.2.2))) = true := by decide +kernel
def xc_P_untell : List (Nat × Instr × Nat) := [(0, .iload_n 1, 1), (1, .invokestatic 159, 3), (4, .ifCond .ne 9, 3), (7, .aload_n 0, 1), (8, .iconst 1, 1), (9, .invokevirtual 65, 3), (12, .ireturn, 1), (13, .aload_n 0, 1), (14, .getfield 10, 3), (17, .getfield 166, 3), (20, .iload_n 1, 1), (21, .aaload, 1), (22, .getfield 180, 3), (25, .ifCond .le 7, 3), (28, .iconst 1, 1), (29, .goto 4, 3), (32, .iconst 0, 1), (33, .istore_n 2, 1), (34, .aload_n 0, 1), (35, .getfield 10, 3), (38, .getfield 166, 3), (41, .iload_n 1, 1), (42, .aaload, 1), (43, .iconst 0, 1), (44, .putfield 180, 3), (47, .iload_n 2, 1), (48, .ireturn, 1)]
theorem xd_P_untell : xc_P_untell.all (fun q => decide (decode prog_1_method_14_code q.1 = .ok (q.2.1, q.2.2))) = true := by decide +kernel
def xc_P_law : List (Nat × Instr × Nat) := [(0, .iload_n 1, 1), (1, .invokestatic 159, 3), (4, .ifCond .ne 9, 3), (7, .aload_n 0, 1), (8, .iconst 1, 1), (9, .invokevirtual 65, 3), (12, .ireturn, 1), (13, .aload_n 0, 1), (14, .getfield 10, 3), (17, .iload_n 1, 1), (18, .iload_n 2, 1), (19, .iload_n 3, 1), (20, .iload 4, 2), (22, .invokevirtual 183, 3), (25, .ireturn, 1)]
theorem xd_P_law : xc_P_law.all (fun q => decide (decode prog_1_method_15_code q.1 = .ok (q.2.1, q.2.2))) = true := by decide +kernel
def xc_P_play : List (Nat × Instr × Nat) := [(0, .aload_n 0, 1), (1, .getfield 10, 3), (4, .getfield 92, 3), (7, .sipush 9999, 3), (10, .if_icmp .lt 9, 3), (13, .aload_n 0, 1), (14, .iconst 3, 1), (15, .invokevirtual 65, 3), (18, .ireturn, 1), (19, .aload_n 0, 1), (20, .getfield 10, 3), (23, .invokevirtual 187, 3), (26, .ireturn, 1)]
theorem xd_P_play : xc_P_play.all (fun q => decide (decode prog_1_method_16_code q.1 = .ok (q.2.1, q.2.2))) = true := by decide +kernel
def xc_P_lots : List (Nat × Instr × Nat) := [(0, .aload_n 0, 1), (1, .getfield 10, 3), (4, .aload_n 0, 1), (5, .getfield 53, 3), (8, .invokevirtual 191, 3), (11, .ireturn, 1)]
theorem xd_P_lots : xc_P_lots.all (fun q => decide (decode prog_1_method_17_code q.1 = .ok (q.2.1, q.2.2))) = true := by decide +kernel
def xc_P_loose : List (Nat × Instr × Nat) := [(0, .iload_n 1, 1), (1, .iconst 1, 1), (2, .bipush 20, 2), (4, .invokestatic 107, 3), (7, .ifCond .ne 9, 3), (10, .aload_n 0, 1), (11, .iconst 1, 1), (12, .invokevirtual 65, 3), (15, .ireturn, 1), (16, .aload_n 0, 1), (17, .getfield 10, 3), (20, .getfield 92, 3), (23, .iload_n 1, 1), (24, .iadd, 1), (25, .sipush 9999, 3), (28, .if_icmp .le 9, 3), (31, .aload_n 0, 1), (32, .iconst 3, 1), (33, .invokevirtual 65, 3), (36, .ireturn, 1), (37, .iconst 0, 1), (38, .istore_n 2, 1), (39, .iload_n 2, 1), (40, .iload_n 1, 1), (41, .if_icmp .ge 29, 3), (44, .aload_n 0, 1), (45, .getfield 10, 3), (48, .aload_n 0, 1), (49, .getfield 53, 3), (52, .invokevirtual 191, 3), (55, .pop, 1), (56, .aload_n 0, 1), (57, .getfield 10, 3), (60, .invokevirtual 187, 3), (63, .pop, 1), (64, .iinc 2 1, 3), (67, .goto (-28), 3), (70, .aload_n 0, 1), (71, .getfield 10, 3), (74, .getfield 195, 3), (77, .ireturn, 1)]
theorem xd_P_loose : xc_P_loose.all (fun q => decide (decode prog_1_method_18_code q.1 = .ok (q.2.1, q.2.2))) = true := by decide +kernel
def xc_P_seed : List (Nat × Instr × Nat) := [(0, .aload_n 0, 1), (1, .getfield 10, 3), (4, .getfield 198, 3), (7, .istore_n 2, 1), (8, .aload_n 0, 1), (9, .getfield 10, 3), (12, .iload_n 1, 1), (13, .putfield 198, 3), (16, .iload_n 2, 1), (17, .ireturn, 1)]
theorem xd_P_seed : xc_P_seed.all (fun q => decide (decode prog_1_method_19_code q.1 = .ok (q.2.1, q.2.2))) = true := by decide +kernel
def xc_P_best : List (Nat × Instr × Nat) := [(0, .iload_n 1, 1), (1, .iconst (-1), 1), (2, .bipush 6, 2), (4, .invokestatic 107, 3), (7, .ifCond .ne 9, 3), (10, .aload_n 0, 1), (11, .iconst 1, 1), (12, .invokevirtual 65, 3), (15, .ireturn, 1), (16, .iload_n 1, 1), (17, .aload_n 0, 1), (18, .getfield 10, 3), (21, .getfield 111, 3), (24, .if_icmp .lt 9, 3), (27, .aload_n 0, 1), (28, .iconst 2, 1), (29, .invokevirtual 65, 3), (32, .ireturn, 1), (33, .aload_n 0, 1), (34, .getfield 29, 3), (37, .aload_n 0, 1), (38, .getfield 10, 3), (41, .invokevirtual 201, 3), (44, .aload_n 0, 1), (45, .getfield 29, 3), (48, .invokevirtual 205, 3), (51, .iload_n 1, 1), (52, .ifCond .ge 12, 3), (55, .aload_n 0, 1), (56, .getfield 29, 3), (59, .iconst 0, 1), (60, .invokevirtual 208, 3), (63, .ireturn, 1), (64, .aload_n 0, 1), (65, .getfield 29, 3), (68, .iconst 0, 1), (69, .invokevirtual 211, 3), (72, .aload_n 0, 1), (73, .getfield 29, 3), (76, .getfield 214, 3), (79, .iload_n 1, 1), (80, .iaload, 1), (81, .ireturn, 1)]
theorem xd_P_best : xc_P_best.all (fun q => decide (decode prog_1_method_20_code q.1 = .ok (q.2.1, q.2.2))) = true := by decide +kernel
def xc_P_wished : List (Nat × Instr × Nat) := [(0, .aload_n 0, 1), (1, .getfield 29, 3), (4, .aload_n 0, 1), (5, .getfield 10, 3), (8, .invokevirtual 216, 3), (11, .aload_n 0, 1), (12, .getfield 29, 3), (15, .invokevirtual 205, 3), (18, .aload_n 0, 1), (19, .getfield 29, 3), (22, .iconst 0, 1), (23, .invokevirtual 208, 3), (26, .ireturn, 1)]
theorem xd_P_wished : xc_P_wished.all (fun q => decide (decode prog_1_method_21_code q.1 = .ok (q.2.1, q.2.2))) = true := by decide +kernel
def xc_P_without : List (Nat × Instr × Nat) := [(0, .aload_n 0, 1), (1, .getfield 10, 3), (4, .iload_n 1, 1), (5, .invokevirtual 124, 3), (8, .ifCond .ne 9, 3), (11, .aload_n 0, 1), (12, .iconst 1, 1), (13, .invokevirtual 65, 3), (16, .ireturn, 1), (17, .aload_n 0, 1), (18, .getfield 29, 3), (21, .aload_n 0, 1), (22, .getfield 10, 3), (25, .invokevirtual 201, 3), (28, .aload_n 0, 1), (29, .getfield 29, 3), (32, .invokevirtual 205, 3), (35, .aload_n 0, 1), (36, .getfield 29, 3), (39, .iconst 0, 1), (40, .invokevirtual 208, 3), (43, .istore_n 2, 1), (44, .aload_n 0, 1), (45, .getfield 29, 3), (48, .iload_n 1, 1), (49, .invokevirtual 219, 3), (52, .aload_n 0, 1), (53, .getfield 29, 3), (56, .invokevirtual 205, 3), (59, .iload_n 2, 1), (60, .aload_n 0, 1), (61, .getfield 29, 3), (64, .iconst 0, 1), (65, .invokevirtual 208, 3), (68, .isub, 1), (69, .ireturn, 1)]
theorem xd_P_without : xc_P_without.all (fun q => decide (decode prog_1_method_22_code q.1 = .ok (q.2.1, q.2.2))) = true := by decide +kernel
def xc_P_lies : List (Nat × Instr × Nat) := [(0, .aload_n 0, 1), (1, .getfield 10, 3), (4, .iload_n 1, 1), (5, .invokevirtual 124, 3), (8, .ifCond .eq 12, 3), (11, .iload_n 2, 1), (12, .iconst 0, 1), (13, .iconst 1, 1), (14, .invokestatic 107, 3), (17, .ifCond .ne 9, 3), (20, .aload_n 0, 1), (21, .iconst 1, 1), (22, .invokevirtual 65, 3), (25, .ireturn, 1), (26, .aload_n 0, 1), (27, .getfield 29, 3), (30, .aload_n 0, 1), (31, .getfield 10, 3), (34, .invokevirtual 201, 3), (37, .aload_n 0, 1), (38, .getfield 36, 3), (41, .aload_n 0, 1), (42, .getfield 10, 3), (45, .aload_n 0, 1), (46, .getfield 29, 3), (49, .iload_n 1, 1), (50, .invokevirtual 222, 3), (53, .iload_n 2, 1), (54, .ifCond .ne 13, 3), (57, .aload_n 0, 1), (58, .getfield 36, 3), (61, .getfield 226, 3), (64, .goto 10, 3), (67, .aload_n 0, 1), (68, .getfield 36, 3), (71, .getfield 229, 3), (74, .ireturn, 1)]
theorem xd_P_lies : xc_P_lies.all (fun q => decide (decode prog_1_method_23_code q.1 = .ok (q.2.1, q.2.2))) = true := by decide +kernel
def xc_P_odds : List (Nat × Instr × Nat) := [(0, .aload_n 0, 1), (1, .getfield 10, 3), (4, .iload_n 1, 1), (5, .invokevirtual 124, 3), (8, .ifCond .eq 12, 3), (11, .iload_n 2, 1), (12, .iconst 0, 1), (13, .iconst 1, 1), (14, .invokestatic 107, 3), (17, .ifCond .ne 9, 3), (20, .aload_n 0, 1), (21, .iconst 1, 1), (22, .invokevirtual 65, 3), (25, .ireturn, 1), (26, .aload_n 0, 1), (27, .getfield 10, 3), (30, .iload_n 1, 1), (31, .invokevirtual 232, 3), (34, .istore_n 3, 1), (35, .iload_n 3, 1), (36, .invokestatic 235, 3), (39, .istore 4, 2), (41, .iload 4, 2), (43, .ifCond .ne 9, 3), (46, .aload_n 0, 1), (47, .iconst 3, 1), (48, .invokevirtual 65, 3), (51, .ireturn, 1), (52, .iload_n 3, 1), (53, .aload_n 0, 1), (54, .getfield 10, 3), (57, .getfield 114, 3), (60, .iload_n 1, 1), (61, .aaload, 1), (62, .invokevirtual 240, 3), (65, .iand, 1), (66, .invokestatic 235, 3), (69, .istore 5, 2), (71, .iload 4, 2), (73, .iload 5, 2), (75, .invokestatic 243, 3), (78, .istore 6, 2), (80, .iload 6, 2), (82, .ifCond .ne 5, 3), (85, .iconst 0, 1), (86, .ireturn, 1), (87, .iload_n 2, 1), (88, .ifCond .ne 11, 3), (91, .iload 5, 2), (93, .iload 6, 2), (95, .idiv, 1), (96, .goto 8, 3), (99, .iload 4, 2), (101, .iload 6, 2), (103, .idiv, 1), (104, .ireturn, 1)]
theorem xd_P_odds : xc_P_odds.all (fun q => decide (decode prog_1_method_24_code q.1 = .ok (q.2.1, q.2.2))) = true := by decide +kernel
def xc_P_fits : List (Nat × Instr × Nat) := [(0, .iload_n 1, 1), (1, .invokestatic 246, 3), (4, .ifCond .eq 12, 3), (7, .iload_n 2, 1), (8, .iconst 0, 1), (9, .iconst 1, 1), (10, .invokestatic 107, 3), (13, .ifCond .ne 9, 3), (16, .aload_n 0, 1), (17, .iconst 1, 1), (18, .invokevirtual 65, 3), (21, .ireturn, 1), (22, .aload_n 0, 1), (23, .getfield 49, 3), (26, .iload_n 1, 1), (27, .aaload, 1), (28, .getfield 249, 3), (31, .ifCond .ne 9, 3), (34, .aload_n 0, 1), (35, .iconst 2, 1), (36, .invokevirtual 65, 3), (39, .ireturn, 1), (40, .iconst 0, 1), (41, .istore_n 3, 1), (42, .iconst (-1), 1), (43, .istore 4, 2), (45, .iconst 0, 1), (46, .istore 5, 2), (48, .iload 5, 2), (50, .sipush 256, 3), (53, .if_icmp .ge 63, 3), (56, .aload_n 0, 1), (57, .getfield 10, 3), (60, .iload 5, 2), (62, .aload_n 0, 1), (63, .getfield 53, 3), (66, .invokevirtual 252, 3), (69, .pop, 1), (70, .aload_n 0, 1), (71, .getfield 49, 3), (74, .iload_n 1, 1), (75, .aaload, 1), (76, .aload_n 0, 1), (77, .getfield 53, 3), (80, .aload_n 0, 1), (81, .getfield 10, 3), (84, .getfield 111, 3), (87, .invokevirtual 256, 3), (90, .ifCond .eq 20, 3), (93, .iinc 3 1, 3), (96, .iload 4, 2), (98, .ifCond .ge 8, 3), (101, .iload 5, 2), (103, .goto 5, 3), (106, .iload 4, 2), (108, .istore 4, 2), (110, .iinc 5 1, 3), (113, .goto (-65), 3), (116, .iload_n 2, 1), (117, .ifCond .ne 5, 3), (120, .iload_n 3, 1), (121, .ireturn, 1), (122, .iload 4, 2), (124, .ifCond .ge 11, 3), (127, .aload_n 0, 1), (128, .iconst 2, 1), (129, .invokevirtual 65, 3), (132, .goto 5, 3), (135, .iload 4, 2), (137, .ireturn, 1)]
theorem xd_P_fits : xc_P_fits.all (fun q => decide (decode prog_1_method_25_code q.1 = .ok (q.2.1, q.2.2))) = true := by decide +kernel
def xc_P_voice : List (Nat × Instr × Nat) := [(0, .aload_n 0, 1), (1, .getfield 10, 3), (4, .iload_n 1, 1), (5, .invokevirtual 83, 3), (8, .ifCond .eq 12, 3), (11, .iload_n 2, 1), (12, .iconst 0, 1), (13, .iconst 3, 1), (14, .invokestatic 107, 3), (17, .ifCond .ne 9, 3), (20, .aload_n 0, 1), (21, .iconst 1, 1), (22, .invokevirtual 65, 3), (25, .ireturn, 1), (26, .aload_n 0, 1), (27, .getfield 43, 3), (30, .iload_n 1, 1), (31, .aload_n 0, 1), (32, .getfield 10, 3), (35, .getfield 73, 3), (38, .iload_n 1, 1), (39, .aaload, 1), (40, .iload_n 2, 1), (41, .iload_n 3, 1), (42, .invokevirtual 260, 3), (45, .istore 4, 2), (47, .aload_n 0, 1), (48, .getfield 43, 3), (51, .getfield 264, 3), (54, .ifCond .eq 12, 3), (57, .aload_n 0, 1), (58, .bipush 6, 2), (60, .invokevirtual 65, 3), (63, .goto 5, 3), (66, .iload 4, 2), (68, .ireturn, 1)]
theorem xd_P_voice : xc_P_voice.all (fun q => decide (decode prog_1_method_26_code q.1 = .ok (q.2.1, q.2.2))) = true := by decide +kernel
def xc_P_body : List (Nat × Instr × Nat) := [(0, .iload_n 1, 1), (1, .ifCond .lt 14, 3), (4, .iload_n 1, 1), (5, .aload_n 0, 1), (6, .getfield 43, 3), (9, .getfield 268, 3), (12, .if_icmp .lt 9, 3), (15, .aload_n 0, 1), (16, .iconst 2, 1), (17, .invokevirtual 65, 3), (20, .ireturn, 1), (21, .aload_n 0, 1), (22, .getfield 43, 3), (25, .getfield 271, 3), (28, .iload_n 1, 1), (29, .iaload, 1), (30, .ireturn, 1)]
theorem xd_P_body : xc_P_body.all (fun q => decide (decode prog_1_method_27_code q.1 = .ok (q.2.1, q.2.2))) = true := by decide +kernel
def xc_P_sheet : List (Nat × Instr × Nat) := [(0, .iload_n 1, 1), (1, .invokestatic 246, 3), (4, .ifCond .eq 25, 3), (7, .iload_n 2, 1), (8, .ifCond .eq 27, 3), (11, .iload_n 2, 1), (12, .bipush 8, 2), (14, .if_icmp .eq 21, 3), (17, .iload_n 2, 1), (18, .bipush 16, 2), (20, .if_icmp .eq 15, 3), (23, .iload_n 2, 1), (24, .bipush 32, 2), (26, .if_icmp .eq 9, 3), (29, .aload_n 0, 1), (30, .iconst 1, 1), (31, .invokevirtual 65, 3), (34, .ireturn, 1), (35, .iload_n 2, 1), (36, .ifCond .eq 13, 3), (39, .iload_n 3, 1), (40, .ifCond .ge 9, 3), (43, .aload_n 0, 1), (44, .iconst 3, 1), (45, .invokevirtual 65, 3), (48, .ireturn, 1), (49, .iload_n 2, 1), (50, .ifCond .eq 15, 3), (53, .iload_n 3, 1), (54, .bipush 24, 2), (56, .if_icmp .le 9, 3), (59, .aload_n 0, 1), (60, .iconst 1, 1), (61, .invokevirtual 65, 3), (64, .ireturn, 1), (65, .aload_n 0, 1), (66, .getfield 49, 3), (69, .iload_n 1, 1), (70, .aaload, 1), (71, .iload_n 2, 1), (72, .iload_n 2, 1), (73, .ifCond .ne 7, 3), (76, .iconst 0, 1), (77, .goto 4, 3), (80, .iload_n 3, 1), (81, .invokevirtual 274, 3), (84, .iconst 1, 1), (85, .ireturn, 1)]
theorem xd_P_sheet : xc_P_sheet.all (fun q => decide (decode prog_1_method_28_code q.1 = .ok (q.2.1, q.2.2))) = true := by decide +kernel
def xc_P_put : List (Nat × Instr × Nat) := [(0, .iload_n 1, 1), (1, .invokestatic 246, 3), (4, .ifCond .ne 9, 3), (7, .aload_n 0, 1), (8, .iconst 1, 1), (9, .invokevirtual 65, 3), (12, .ireturn, 1), (13, .aload_n 0, 1), (14, .getfield 49, 3), (17, .iload_n 1, 1), (18, .aaload, 1), (19, .getfield 249, 3), (22, .ifCond .ne 9, 3), (25, .aload_n 0, 1), (26, .iconst 2, 1), (27, .invokevirtual 65, 3), (30, .ireturn, 1), (31, .iload_n 2, 1), (32, .ifCond .lt 16, 3), (35, .iload_n 2, 1), (36, .aload_n 0, 1), (37, .getfield 49, 3), (40, .iload_n 1, 1), (41, .aaload, 1), (42, .getfield 278, 3), (45, .if_icmp .lt 9, 3), (48, .aload_n 0, 1), (49, .iconst 1, 1), (50, .invokevirtual 65, 3), (53, .ireturn, 1), (54, .aload_n 0, 1), (55, .getfield 49, 3), (58, .iload_n 1, 1), (59, .aaload, 1), (60, .getfield 281, 3), (63, .iload_n 2, 1), (64, .aload_n 0, 1), (65, .getfield 49, 3), (68, .iload_n 1, 1), (69, .aaload, 1), (70, .iload_n 3, 1), (71, .invokevirtual 284, 3), (74, .iastore, 1), (75, .iconst 1, 1), (76, .ireturn, 1)]
theorem xd_P_put : xc_P_put.all (fun q => decide (decode prog_1_method_29_code q.1 = .ok (q.2.1, q.2.2))) = true := by decide +kernel
def xc_P_move : List (Nat × Instr × Nat) := [(0, .iload_n 1, 1), (1, .invokestatic 246, 3), (4, .ifCond .eq 10, 3), (7, .iload_n 3, 1), (8, .invokestatic 246, 3), (11, .ifCond .ne 9, 3), (14, .aload_n 0, 1), (15, .iconst 1, 1), (16, .invokevirtual 65, 3), (19, .ireturn, 1), (20, .aload_n 0, 1), (21, .getfield 49, 3), (24, .iload_n 1, 1), (25, .aaload, 1), (26, .astore 6, 2), (28, .aload_n 0, 1), (29, .getfield 49, 3), (32, .iload_n 3, 1), (33, .aaload, 1), (34, .astore 7, 2), (36, .aload 6, 2), (38, .getfield 249, 3), (41, .ifCond .eq 11, 3), (44, .aload 7, 2), (46, .getfield 249, 3), (49, .ifCond .ne 9, 3), (52, .aload_n 0, 1), (53, .iconst 2, 1), (54, .invokevirtual 65, 3), (57, .ireturn, 1), (58, .aload 6, 2), (60, .getfield 249, 3), (63, .aload 7, 2), (65, .getfield 249, 3), (68, .if_icmp .eq 9, 3), (71, .aload_n 0, 1), (72, .iconst 5, 1), (73, .invokevirtual 65, 3), (76, .ireturn, 1), (77, .aload 6, 2), (79, .iload_n 2, 1), (80, .iload 5, 2), (82, .invokevirtual 287, 3), (85, .ifCond .eq 15, 3), (88, .aload 7, 2), (90, .iload 4, 2), (92, .iload 5, 2), (94, .invokevirtual 287, 3), (97, .ifCond .ne 9, 3), (100, .aload_n 0, 1), (101, .iconst 1, 1), (102, .invokevirtual 65, 3), (105, .ireturn, 1), (106, .aload 6, 2), (108, .getfield 281, 3), (111, .iload_n 2, 1), (112, .aload 7, 2), (114, .getfield 281, 3), (117, .iload 4, 2), (119, .iload 5, 2), (121, .invokestatic 290, 3), (124, .iload 5, 2), (126, .ireturn, 1)]
theorem xd_P_move : xc_P_move.all (fun q => decide (decode prog_1_method_30_code q.1 = .ok (q.2.1, q.2.2))) = true := by decide +kernel
def xc_P_casts : List (Nat × Instr × Nat) := [(0, .iload_n 1, 1), (1, .invokestatic 246, 3), (4, .ifCond .ne 9, 3), (7, .aload_n 0, 1), (8, .iconst 1, 1), (9, .invokevirtual 65, 3), (12, .ireturn, 1), (13, .aload_n 0, 1), (14, .getfield 49, 3), (17, .iload_n 1, 1), (18, .aaload, 1), (19, .getfield 249, 3), (22, .ifCond .ne 9, 3), (25, .aload_n 0, 1), (26, .iconst 2, 1), (27, .invokevirtual 65, 3), (30, .ireturn, 1), (31, .aload_n 0, 1), (32, .getfield 10, 3), (35, .aload_n 0, 1), (36, .getfield 49, 3), (39, .iload_n 1, 1), (40, .aaload, 1), (41, .getfield 281, 3), (44, .aload_n 0, 1), (45, .getfield 49, 3), (48, .iload_n 1, 1), (49, .aaload, 1), (50, .getfield 278, 3), (53, .invokevirtual 296, 3), (56, .ireturn, 1)]
theorem xd_P_casts : xc_P_casts.all (fun q => decide (decode prog_1_method_31_code q.1 = .ok (q.2.1, q.2.2))) = true := by decide +kernel
def xc_P_judge : List (Nat × Instr × Nat) := [(0, .iload_n 1, 1), (1, .invokestatic 246, 3), (4, .ifCond .ne 9, 3), (7, .aload_n 0, 1), (8, .iconst 1, 1), (9, .invokevirtual 65, 3), (12, .ireturn, 1), (13, .aload_n 0, 1), (14, .getfield 49, 3), (17, .iload_n 1, 1), (18, .aaload, 1), (19, .getfield 249, 3), (22, .ifCond .ne 9, 3), (25, .aload_n 0, 1), (26, .iconst 2, 1), (27, .invokevirtual 65, 3), (30, .ireturn, 1), (31, .aload_n 0, 1), (32, .getfield 10, 3), (35, .aload_n 0, 1), (36, .getfield 49, 3), (39, .iload_n 1, 1), (40, .aaload, 1), (41, .getfield 281, 3), (44, .aload_n 0, 1), (45, .getfield 49, 3), (48, .iload_n 1, 1), (49, .aaload, 1), (50, .getfield 278, 3), (53, .invokevirtual 300, 3), (56, .ireturn, 1)]
theorem xd_P_judge : xc_P_judge.all (fun q => decide (decode prog_1_method_32_code q.1 = .ok (q.2.1, q.2.2))) = true := by decide +kernel
def xc_P_image : List (Nat × Instr × Nat) := [(0, .aload_n 0, 1), (1, .getfield 16, 3), (4, .aload_n 0, 1), (5, .getfield 10, 3), (8, .invokevirtual 303, 3), (11, .aload_n 0, 1), (12, .dup, 1), (13, .getfield 305, 3), (16, .iconst 1, 1), (17, .iadd, 1), (18, .putfield 305, 3), (21, .aload_n 0, 1), (22, .getfield 305, 3), (25, .ireturn, 1)]
theorem xd_P_image : xc_P_image.all (fun q => decide (decode prog_1_method_33_code q.1 = .ok (q.2.1, q.2.2))) = true := by decide +kernel
def xc_P_restore : List (Nat × Instr × Nat) := [(0, .aload_n 0, 1), (1, .getfield 305, 3), (4, .ifCond .ne 9, 3), (7, .aload_n 0, 1), (8, .iconst 2, 1), (9, .invokevirtual 65, 3), (12, .ireturn, 1), (13, .aload_n 0, 1), (14, .getfield 10, 3), (17, .aload_n 0, 1), (18, .getfield 16, 3), (21, .invokevirtual 303, 3), (24, .aload_n 0, 1), (25, .getfield 10, 3), (28, .getfield 92, 3), (31, .ireturn, 1)]
theorem xd_P_restore : xc_P_restore.all (fun q => decide (decode prog_1_method_34_code q.1 = .ok (q.2.1, q.2.2))) = true := by decide +kernel
def xc_P_tell : List (Nat × Instr × Nat) := [(0, .aload_n 0, 1), (1, .getfield 10, 3), (4, .getfield 308, 3), (7, .bipush 24, 2), (9, .if_icmp .lt 9, 3), (12, .aload_n 0, 1), (13, .iconst 4, 1), (14, .invokevirtual 65, 3), (17, .ireturn, 1), (18, .aload_n 0, 1), (19, .getfield 10, 3), (22, .getfield 311, 3), (25, .aload_n 0, 1), (26, .getfield 10, 3), (29, .getfield 308, 3), (32, .iload_n 1, 1), (33, .iastore, 1), (34, .aload_n 0, 1), (35, .getfield 10, 3), (38, .dup, 1), (39, .getfield 308, 3), (42, .iconst 1, 1), (43, .iadd, 1), (44, .putfield 308, 3), (47, .aload_n 0, 1), (48, .getfield 10, 3), (51, .getfield 308, 3), (54, .ireturn, 1)]
theorem xd_P_tell : xc_P_tell.all (fun q => decide (decode prog_1_method_35_code q.1 = .ok (q.2.1, q.2.2))) = true := by decide +kernel
def xc_P_check : List (Nat × Instr × Nat) := [(0, .aload_n 0, 1), (1, .getfield 10, 3), (4, .getfield 308, 3), (7, .istore_n 1, 1), (8, .aload_n 0, 1), (9, .getfield 10, 3), (12, .iconst 0, 1), (13, .putfield 308, 3), (16, .iconst 0, 1), (17, .istore_n 2, 1), (18, .iload_n 2, 1), (19, .iload_n 1, 1), (20, .if_icmp .ge 44, 3), (23, .iload_n 2, 1), (24, .aload_n 0, 1), (25, .getfield 10, 3), (28, .getfield 111, 3), (31, .if_icmp .ge 23, 3), (34, .aload_n 0, 1), (35, .getfield 10, 3), (38, .getfield 311, 3), (41, .iload_n 2, 1), (42, .iaload, 1), (43, .aload_n 0, 1), (44, .getfield 10, 3), (47, .iload_n 2, 1), (48, .invokevirtual 127, 3), (51, .if_icmp .eq 7, 3), (54, .iconst 1, 1), (55, .iload_n 2, 1), (56, .iadd, 1), (57, .ireturn, 1), (58, .iinc 2 1, 3), (61, .goto (-43), 3), (64, .iconst 0, 1), (65, .ireturn, 1)]
theorem xd_P_check : xc_P_check.all (fun q => decide (decode prog_1_method_36_code q.1 = .ok (q.2.1, q.2.2))) = true := by decide +kernel
def xc_P_count : List (Nat × Instr × Nat) := [(0, .iload_n 1, 1), (1, .tableswitch 111 0 7 #[47, 55, 63, 71, 79, 87, 95, 103], 47), (48, .aload_n 0, 1), (49, .getfield 10, 3), (52, .getfield 69, 3), (55, .ireturn, 1), (56, .aload_n 0, 1), (57, .getfield 10, 3), (60, .getfield 111, 3), (63, .ireturn, 1), (64, .aload_n 0, 1), (65, .getfield 10, 3), (68, .getfield 92, 3), (71, .ireturn, 1), (72, .aload_n 0, 1), (73, .getfield 10, 3), (76, .getfield 195, 3), (79, .ireturn, 1), (80, .aload_n 0, 1), (81, .getfield 10, 3), (84, .getfield 153, 3), (87, .ireturn, 1), (88, .aload_n 0, 1), (89, .getfield 10, 3), (92, .getfield 308, 3), (95, .ireturn, 1), (96, .aload_n 0, 1), (97, .getfield 43, 3), (100, .getfield 268, 3), (103, .ireturn, 1), (104, .aload_n 0, 1), (105, .getfield 10, 3), (108, .getfield 198, 3), (111, .ireturn, 1), (112, .aload_n 0, 1), (113, .iconst 1, 1), (114, .invokevirtual 65, 3), (117, .ireturn, 1)]
theorem xd_P_count : xc_P_count.all (fun q => decide (decode prog_1_method_37_code q.1 = .ok (q.2.1, q.2.2))) = true := by decide +kernel
def xc_P_told : List (Nat × Instr × Nat) := [(0, .iload_n 1, 1), (1, .iconst 1, 1), (2, .if_icmp .lt 9, 3), (5, .iload_n 1, 1), (6, .bipush 6, 2), (8, .if_icmp .le 9, 3), (11, .aload_n 0, 1), (12, .iconst 1, 1), (13, .invokevirtual 65, 3), (16, .ireturn, 1), (17, .aload_n 0, 1), (18, .getfield 57, 3), (21, .iload_n 1, 1), (22, .iaload, 1), (23, .ireturn, 1)]
theorem xd_P_told : xc_P_told.all (fun q => decide (decode prog_1_method_38_code q.1 = .ok (q.2.1, q.2.2))) = true := by decide +kernel
def xc_P_fail : List (Nat × Instr × Nat) := [(0, .aload_n 0, 1), (1, .getfield 57, 3), (4, .iload_n 1, 1), (5, .dup2, 1), (6, .iaload, 1), (7, .iconst 1, 1), (8, .iadd, 1), (9, .iastore, 1), (10, .ldc_w 314, 3), (13, .iload_n 1, 1), (14, .isub, 1), (15, .ireturn, 1)]
theorem xd_P_fail : xc_P_fail.all (fun q => decide (decode prog_1_method_39_code q.1 = .ok (q.2.1, q.2.2))) = true := by decide +kernel
def xc_P_isWithin : List (Nat × Instr × Nat) := [(0, .iload_n 0, 1), (1, .iload_n 1, 1), (2, .if_icmp .lt 12, 3), (5, .iload_n 0, 1), (6, .iload_n 2, 1), (7, .if_icmp .gt 7, 3), (10, .iconst 1, 1), (11, .goto 4, 3), (14, .iconst 0, 1), (15, .ireturn, 1)]
theorem xd_P_isWithin : xc_P_isWithin.all (fun q => decide (decode prog_1_method_40_code q.1 = .ok (q.2.1, q.2.2))) = true := by decide +kernel
def xc_P_isKindAndNumber : List (Nat × Instr × Nat) := [(0, .iload_n 0, 1), (1, .iconst 0, 1), (2, .bipush 69, 2), (4, .invokestatic 107, 3), (7, .ireturn, 1)]
theorem xd_P_isKindAndNumber : xc_P_isKindAndNumber.all (fun q => decide (decode prog_1_method_41_code q.1 = .ok (q.2.1, q.2.2))) = true := by decide +kernel
def xc_P_isUse : List (Nat × Instr × Nat) := [(0, .iload_n 0, 1), (1, .iconst 0, 1), (2, .iconst 1, 1), (3, .invokestatic 107, 3), (6, .ireturn, 1)]
theorem xd_P_isUse : xc_P_isUse.all (fun q => decide (decode prog_1_method_42_code q.1 = .ok (q.2.1, q.2.2))) = true := by decide +kernel
def xc_P_isSheet : List (Nat × Instr × Nat) := [(0, .iload_n 0, 1), (1, .iconst 0, 1), (2, .iconst 3, 1), (3, .invokestatic 107, 3), (6, .ireturn, 1)]
theorem xd_P_isSheet : xc_P_isSheet.all (fun q => decide (decode prog_1_method_43_code q.1 = .ok (q.2.1, q.2.2))) = true := by decide +kernel
def xc_P_commonDivisor : List (Nat × Instr × Nat) := [(0, .iload_n 0, 1), (1, .istore_n 2, 1), (2, .iload_n 1, 1), (3, .istore_n 3, 1), (4, .iconst 0, 1), (5, .istore 4, 2), (7, .iload 4, 2), (9, .bipush 100, 2), (11, .if_icmp .ge 23, 3), (14, .iload_n 3, 1), (15, .ifCond .eq 19, 3), (18, .iload_n 2, 1), (19, .iload_n 3, 1), (20, .irem, 1), (21, .istore 5, 2), (23, .iload_n 3, 1), (24, .istore_n 2, 1), (25, .iload 5, 2), (27, .istore_n 3, 1), (28, .iinc 4 1, 3), (31, .goto (-24), 3), (34, .iload_n 2, 1), (35, .ireturn, 1)]
theorem xd_P_commonDivisor : xc_P_commonDivisor.all (fun q => decide (decode prog_1_method_44_code q.1 = .ok (q.2.1, q.2.2))) = true := by decide +kernel
def xc_P_held : List (Nat × Instr × Nat) := [(0, .iload_n 1, 1), (1, .iload_n 2, 1), (2, .iload_n 0, 1), (3, .invokestatic 315, 3), (6, .invokestatic 320, 3), (9, .ireturn, 1)]
theorem xd_P_held : xc_P_held.all (fun q => decide (decode prog_1_method_45_code q.1 = .ok (q.2.1, q.2.2))) = true := by decide +kernel
def xc_S_init : List (Nat × Instr × Nat) := [(0, .aload_n 0, 1), (1, .invokespecial 3, 3), (4, .aload_n 0, 1), (5, .bipush 7, 2), (7, .anewarray 9, 3), (10, .putfield 11, 3), (13, .aload_n 0, 1), (14, .bipush 7, 2), (16, .anewarray 17, 3), (19, .putfield 19, 3), (22, .aload_n 0, 1), (23, .iconst 1, 1), (24, .putfield 23, 3), (27, .aload_n 0, 1), (28, .bipush 60, 2), (30, .newarray .int, 2), (32, .putfield 27, 3), (35, .aload_n 0, 1), (36, .iconst 2, 1), (37, .anewarray 31, 3), (40, .putfield 33, 3), (43, .aload_n 0, 1), (44, .bipush 24, 2), (46, .newarray .int, 2), (48, .putfield 37, 3), (51, .iconst 0, 1), (52, .istore_n 1, 1), (53, .iload_n 1, 1), (54, .bipush 7, 2), (56, .if_icmp .ge 22, 3), (59, .aload_n 0, 1), (60, .getfield 11, 3), (63, .iload_n 1, 1), (64, .new 9, 3), (67, .dup, 1), (68, .invokespecial 40, 3), (71, .aastore, 1), (72, .iinc 1 1, 3), (75, .goto (-22), 3), (78, .iconst 0, 1), (79, .istore_n 1, 1), (80, .iload_n 1, 1), (81, .bipush 7, 2), (83, .if_icmp .ge 22, 3), (86, .aload_n 0, 1), (87, .getfield 19, 3), (90, .iload_n 1, 1), (91, .new 17, 3), (94, .dup, 1), (95, .invokespecial 41, 3), (98, .aastore, 1), (99, .iinc 1 1, 3), (102, .goto (-22), 3), (105, .iconst 0, 1), (106, .istore_n 1, 1), (107, .iload_n 1, 1), (108, .iconst 2, 1), (109, .if_icmp .ge 22, 3), (112, .aload_n 0, 1), (113, .getfield 33, 3), (116, .iload_n 1, 1), (117, .new 31, 3), (120, .dup, 1), (121, .invokespecial 42, 3), (124, .aastore, 1), (125, .iinc 1 1, 3), (128, .goto (-21), 3), (131, .return_, 1)]
theorem xd_S_init : xc_S_init.all (fun q => decide (decode prog_8_method_1_code q.1 = .ok (q.2.1, q.2.2))) = true := by decide +kernel
def xc_S_copyFrom : List (Nat × Instr × Nat) := [(0, .iconst 0, 1), (1, .istore_n 2, 1), (2, .iload_n 2, 1), (3, .bipush 7, 2), (5, .if_icmp .ge 24, 3), (8, .aload_n 0, 1), (9, .getfield 11, 3), (12, .iload_n 2, 1), (13, .aaload, 1), (14, .aload_n 1, 1), (15, .getfield 11, 3), (18, .iload_n 2, 1), (19, .aaload, 1), (20, .invokevirtual 43, 3), (23, .iinc 2 1, 3), (26, .goto (-24), 3), (29, .iconst 0, 1), (30, .istore_n 2, 1), (31, .iload_n 2, 1), (32, .bipush 7, 2), (34, .if_icmp .ge 24, 3), (37, .aload_n 0, 1), (38, .getfield 19, 3), (41, .iload_n 2, 1), (42, .aaload, 1), (43, .aload_n 1, 1), (44, .getfield 19, 3), (47, .iload_n 2, 1), (48, .aaload, 1), (49, .invokevirtual 47, 3), (52, .iinc 2 1, 3), (55, .goto (-24), 3), (58, .iconst 0, 1), (59, .istore_n 2, 1), (60, .iload_n 2, 1), (61, .iconst 2, 1), (62, .if_icmp .ge 24, 3), (65, .aload_n 0, 1), (66, .getfield 33, 3), (69, .iload_n 2, 1), (70, .aaload, 1), (71, .aload_n 1, 1), (72, .getfield 33, 3), (75, .iload_n 2, 1), (76, .aaload, 1), (77, .invokevirtual 50, 3), (80, .iinc 2 1, 3), (83, .goto (-23), 3), (86, .aload_n 0, 1), (87, .aload_n 1, 1), (88, .getfield 53, 3), (91, .putfield 53, 3), (94, .aload_n 0, 1), (95, .aload_n 1, 1), (96, .getfield 56, 3), (99, .putfield 56, 3), (102, .aload_n 0, 1), (103, .aload_n 1, 1), (104, .getfield 59, 3), (107, .putfield 59, 3), (110, .aload_n 0, 1), (111, .aload_n 1, 1), (112, .getfield 62, 3), (115, .putfield 62, 3), (118, .aload_n 0, 1), (119, .aload_n 1, 1), (120, .getfield 23, 3), (123, .putfield 23, 3), (126, .aload_n 1, 1), (127, .getfield 27, 3), (130, .iconst 0, 1), (131, .aload_n 0, 1), (132, .getfield 27, 3), (135, .iconst 0, 1), (136, .bipush 60, 2), (138, .invokestatic 65, 3), (141, .aload_n 0, 1), (142, .aload_n 1, 1), (143, .getfield 71, 3), (146, .putfield 71, 3), (149, .aload_n 1, 1), (150, .getfield 37, 3), (153, .iconst 0, 1), (154, .aload_n 0, 1), (155, .getfield 37, 3), (158, .iconst 0, 1), (159, .bipush 24, 2), (161, .invokestatic 65, 3), (164, .aload_n 0, 1), (165, .aload_n 1, 1), (166, .getfield 74, 3), (169, .putfield 74, 3), (172, .return_, 1)]
theorem xd_S_copyFrom : xc_S_copyFrom.all (fun q => decide (decode prog_8_method_2_code q.1 = .ok (q.2.1, q.2.2))) = true := by decide +kernel
def xc_S_hasPart : List (Nat × Instr × Nat) := [(0, .iload_n 1, 1), (1, .ifCond .lt 15, 3), (4, .iload_n 1, 1), (5, .aload_n 0, 1), (6, .getfield 53, 3), (9, .if_icmp .ge 7, 3), (12, .iconst 1, 1), (13, .goto 4, 3), (16, .iconst 0, 1), (17, .ireturn, 1)]
theorem xd_S_hasPart : xc_S_hasPart.all (fun q => decide (decode prog_8_method_3_code q.1 = .ok (q.2.1, q.2.2))) = true := by decide +kernel
def xc_S_hasPartOrNone : List (Nat × Instr × Nat) := [(0, .iload_n 1, 1), (1, .iconst (-1), 1), (2, .if_icmp .eq 11, 3), (5, .aload_n 0, 1), (6, .iload_n 1, 1), (7, .invokevirtual 77, 3), (10, .ifCond .eq 7, 3), (13, .iconst 1, 1), (14, .goto 4, 3), (17, .iconst 0, 1), (18, .ireturn, 1)]
theorem xd_S_hasPartOrNone : xc_S_hasPartOrNone.all (fun q => decide (decode prog_8_method_4_code q.1 = .ok (q.2.1, q.2.2))) = true := by decide +kernel
def xc_S_hasChild : List (Nat × Instr × Nat) := [(0, .iload_n 1, 1), (1, .ifCond .lt 15, 3), (4, .iload_n 1, 1), (5, .aload_n 0, 1), (6, .getfield 56, 3), (9, .if_icmp .ge 7, 3), (12, .iconst 1, 1), (13, .goto 4, 3), (16, .iconst 0, 1), (17, .ireturn, 1)]
theorem xd_S_hasChild : xc_S_hasChild.all (fun q => decide (decode prog_8_method_5_code q.1 = .ok (q.2.1, q.2.2))) = true := by decide +kernel
def xc_S_mayPlay : List (Nat × Instr × Nat) := [(0, .aload_n 0, 1), (1, .getfield 11, 3), (4, .iload_n 2, 1), (5, .aaload, 1), (6, .aload_n 0, 1), (7, .getfield 19, 3), (10, .iload_n 1, 1), (11, .aaload, 1), (12, .invokevirtual 81, 3), (15, .ireturn, 1)]
theorem xd_S_mayPlay : xc_S_mayPlay.all (fun q => decide (decode prog_8_method_6_code q.1 = .ok (q.2.1, q.2.2))) = true := by decide +kernel
def xc_S_holderOf : List (Nat × Instr × Nat) := [(0, .iconst 0, 1), (1, .istore_n 2, 1), (2, .iload_n 2, 1), (3, .aload_n 0, 1), (4, .getfield 56, 3), (7, .if_icmp .ge 24, 3), (10, .aload_n 0, 1), (11, .getfield 19, 3), (14, .iload_n 2, 1), (15, .aaload, 1), (16, .getfield 85, 3), (19, .iload_n 1, 1), (20, .if_icmp .ne 5, 3), (23, .iload_n 2, 1), (24, .ireturn, 1), (25, .iinc 2 1, 3), (28, .goto (-26), 3), (31, .iconst (-1), 1), (32, .ireturn, 1)]
theorem xd_S_holderOf : xc_S_holderOf.all (fun q => decide (decode prog_8_method_7_code q.1 = .ok (q.2.1, q.2.2))) = true := by decide +kernel
def xc_S_childrenFor : List (Nat × Instr × Nat) := [(0, .iconst 0, 1), (1, .istore_n 2, 1), (2, .iconst 0, 1), (3, .istore_n 3, 1), (4, .iload_n 3, 1), (5, .aload_n 0, 1), (6, .getfield 56, 3), (9, .if_icmp .ge 24, 3), (12, .aload_n 0, 1), (13, .iload_n 3, 1), (14, .iload_n 1, 1), (15, .invokevirtual 88, 3), (18, .ifCond .eq 9, 3), (21, .iload_n 2, 1), (22, .iconst 1, 1), (23, .iload_n 3, 1), (24, .ishl, 1), (25, .ior, 1), (26, .istore_n 2, 1), (27, .iinc 3 1, 3), (30, .goto (-26), 3), (33, .iload_n 2, 1), (34, .ireturn, 1)]
theorem xd_S_childrenFor : xc_S_childrenFor.all (fun q => decide (decode prog_8_method_8_code q.1 = .ok (q.2.1, q.2.2))) = true := by decide +kernel
def xc_S_partsFor : List (Nat × Instr × Nat) := [(0, .iconst 0, 1), (1, .istore_n 2, 1), (2, .iconst 0, 1), (3, .istore_n 3, 1), (4, .iload_n 3, 1), (5, .aload_n 0, 1), (6, .getfield 53, 3), (9, .if_icmp .ge 24, 3), (12, .aload_n 0, 1), (13, .iload_n 1, 1), (14, .iload_n 3, 1), (15, .invokevirtual 88, 3), (18, .ifCond .eq 9, 3), (21, .iload_n 2, 1), (22, .iconst 1, 1), (23, .iload_n 3, 1), (24, .ishl, 1), (25, .ior, 1), (26, .istore_n 2, 1), (27, .iinc 3 1, 3), (30, .goto (-26), 3), (33, .iload_n 2, 1), (34, .ireturn, 1)]
theorem xd_S_partsFor : xc_S_partsFor.all (fun q => decide (decode prog_8_method_9_code q.1 = .ok (q.2.1, q.2.2))) = true := by decide +kernel
def xc_S_given : List (Nat × Instr × Nat) := [(0, .aload_n 0, 1), (1, .getfield 33, 3), (4, .iload_n 1, 1), (5, .aaload, 1), (6, .getfield 92, 3), (9, .ifCond .le 7, 3), (12, .iconst 1, 1), (13, .goto 4, 3), (16, .iconst 0, 1), (17, .istore 5, 2), (19, .iload_n 1, 1), (20, .ifCond .ne 35, 3), (23, .iload 5, 2), (25, .ifCond .eq 19, 3), (28, .aload_n 0, 1), (29, .getfield 33, 3), (32, .iload_n 1, 1), (33, .aaload, 1), (34, .iload_n 2, 1), (35, .iload_n 3, 1), (36, .iload 4, 2), (38, .invokevirtual 95, 3), (41, .goto 7, 3), (44, .bipush 10, 2), (46, .iload_n 2, 1), (47, .imul, 1), (48, .iconst 0, 1), (49, .bipush 99, 2), (51, .invokestatic 99, 3), (54, .ireturn, 1), (55, .iload 5, 2), (57, .ifCond .eq 19, 3), (60, .aload_n 0, 1), (61, .getfield 33, 3), (64, .iload_n 1, 1), (65, .aaload, 1), (66, .iload_n 2, 1), (67, .iload_n 3, 1), (68, .iload 4, 2), (70, .invokevirtual 95, 3), (73, .goto 4, 3), (76, .iload_n 2, 1), (77, .bipush (-99), 2), (79, .bipush 99, 2), (81, .invokestatic 99, 3), (84, .ireturn, 1)]
theorem xd_S_given : xc_S_given.all (fun q => decide (decode prog_8_method_10_code q.1 = .ok (q.2.1, q.2.2))) = true := by decide +kernel
def xc_S_worthOf : List (Nat × Instr × Nat) := [(0, .aload_n 0, 1), (1, .getfield 19, 3), (4, .iload_n 1, 1), (5, .aaload, 1), (6, .astore_n 3, 1), (7, .aload_n 0, 1), (8, .iconst 0, 1), (9, .aload_n 3, 1), (10, .iload_n 2, 1), (11, .invokevirtual 102, 3), (14, .aload_n 3, 1), (15, .getfield 106, 3), (18, .iload_n 2, 1), (19, .if_icmp .ne 7, 3), (22, .iconst 1, 1), (23, .goto 4, 3), (26, .iconst 0, 1), (27, .aload_n 3, 1), (28, .getfield 109, 3), (31, .invokevirtual 112, 3), (34, .ireturn, 1)]
theorem xd_S_worthOf : xc_S_worthOf.all (fun q => decide (decode prog_8_method_11_code q.1 = .ok (q.2.1, q.2.2))) = true := by decide +kernel
def xc_S_worthIfDear : List (Nat × Instr × Nat) := [(0, .aload_n 0, 1), (1, .getfield 19, 3), (4, .iload_n 1, 1), (5, .aaload, 1), (6, .astore 4, 2), (8, .aload_n 0, 1), (9, .iconst 0, 1), (10, .iload_n 3, 1), (11, .aload 4, 2), (13, .getfield 106, 3), (16, .iload_n 2, 1), (17, .if_icmp .ne 7, 3), (20, .iconst 1, 1), (21, .goto 4, 3), (24, .iconst 0, 1), (25, .aload 4, 2), (27, .getfield 109, 3), (30, .invokevirtual 112, 3), (33, .ireturn, 1)]
theorem xd_S_worthIfDear : xc_S_worthIfDear.all (fun q => decide (decode prog_8_method_12_code q.1 = .ok (q.2.1, q.2.2))) = true := by decide +kernel
def xc_S_joyOf : List (Nat × Instr × Nat) := [(0, .aload_n 0, 1), (1, .getfield 19, 3), (4, .iload_n 1, 1), (5, .aaload, 1), (6, .astore_n 2, 1), (7, .aload_n 2, 1), (8, .getfield 85, 3), (11, .iconst (-1), 1), (12, .if_icmp .ne 7, 3), (15, .iconst 0, 1), (16, .goto 12, 3), (19, .aload_n 0, 1), (20, .iload_n 1, 1), (21, .aload_n 2, 1), (22, .getfield 85, 3), (25, .invokevirtual 116, 3), (28, .istore_n 3, 1), (29, .aload_n 0, 1), (30, .iconst 1, 1), (31, .iload_n 3, 1), (32, .aload_n 2, 1), (33, .getfield 120, 3), (36, .aload_n 0, 1), (37, .getfield 59, 3), (40, .bipush 7, 2), (42, .irem, 1), (43, .invokevirtual 112, 3), (46, .ireturn, 1)]
theorem xd_S_joyOf : xc_S_joyOf.all (fun q => decide (decode prog_8_method_13_code q.1 = .ok (q.2.1, q.2.2))) = true := by decide +kernel
def xc_S_theyPlay : List (Nat × Instr × Nat) := [(0, .iconst 0, 1), (1, .istore_n 1, 1), (2, .iconst 0, 1), (3, .istore_n 2, 1), (4, .iload_n 2, 1), (5, .aload_n 0, 1), (6, .getfield 56, 3), (9, .if_icmp .ge 17, 3), (12, .iload_n 1, 1), (13, .aload_n 0, 1), (14, .iload_n 2, 1), (15, .invokevirtual 123, 3), (18, .iadd, 1), (19, .istore_n 1, 1), (20, .iinc 2 1, 3), (23, .goto (-19), 3), (26, .iconst 0, 1), (27, .istore_n 2, 1), (28, .iload_n 2, 1), (29, .aload_n 0, 1), (30, .getfield 56, 3), (33, .if_icmp .ge 50, 3), (36, .aload_n 0, 1), (37, .getfield 19, 3), (40, .iload_n 2, 1), (41, .aaload, 1), (42, .getfield 85, 3), (45, .iconst (-1), 1), (46, .if_icmp .eq 21, 3), (49, .aload_n 0, 1), (50, .getfield 19, 3), (53, .iload_n 2, 1), (54, .aaload, 1), (55, .aload_n 0, 1), (56, .getfield 19, 3), (59, .iload_n 2, 1), (60, .aaload, 1), (61, .getfield 85, 3), (64, .putfield 106, 3), (67, .aload_n 0, 1), (68, .getfield 19, 3), (71, .iload_n 2, 1), (72, .aaload, 1), (73, .iconst (-1), 1), (74, .putfield 85, 3), (77, .iinc 2 1, 3), (80, .goto (-52), 3), (83, .aload_n 0, 1), (84, .aload_n 0, 1), (85, .getfield 62, 3), (88, .iload_n 1, 1), (89, .iadd, 1), (90, .ldc 126, 2), (92, .ldc 127, 2), (94, .invokestatic 99, 3), (97, .putfield 62, 3), (100, .aload_n 0, 1), (101, .dup, 1), (102, .getfield 59, 3), (105, .iconst 1, 1), (106, .iadd, 1), (107, .putfield 59, 3), (110, .iload_n 1, 1), (111, .ireturn, 1)]
theorem xd_S_theyPlay : xc_S_theyPlay.all (fun q => decide (decode prog_8_method_14_code q.1 = .ok (q.2.1, q.2.2))) = true := by decide +kernel
def xc_S_drawLots : List (Nat × Instr × Nat) := [(0, .iload_n 1, 1), (1, .istore_n 3, 1), (2, .iconst 0, 1), (3, .istore 4, 2), (5, .iconst 0, 1), (6, .istore 5, 2), (8, .iload 5, 2), (10, .aload_n 0, 1), (11, .getfield 56, 3), (14, .if_icmp .ge 82, 3), (17, .iload 5, 2), (19, .aload_n 2, 1), (20, .arraylength, 1), (21, .if_icmp .ge 75, 3), (24, .aload_n 0, 1), (25, .iload 5, 2), (27, .invokevirtual 128, 3), (30, .iload 4, 2), (32, .iconst (-1), 1), (33, .ixor, 1), (34, .iand, 1), (35, .istore 6, 2), (37, .iload 6, 2), (39, .invokestatic 131, 3), (42, .istore 7, 2), (44, .aload_n 2, 1), (45, .iload 5, 2), (47, .iconst (-1), 1), (48, .iastore, 1), (49, .iload 7, 2), (51, .ifCond .le 39, 3), (54, .iload_n 3, 1), (55, .ldc 136, 2), (57, .imul, 1), (58, .sipush 12345, 3), (61, .iadd, 1), (62, .istore_n 3, 1), (63, .aload_n 2, 1), (64, .iload 5, 2), (66, .iload 6, 2), (68, .iload_n 3, 1), (69, .bipush 8, 2), (71, .iushr, 1), (72, .iload 7, 2), (74, .irem, 1), (75, .invokestatic 137, 3), (78, .iastore, 1), (79, .iload 4, 2), (81, .iconst 1, 1), (82, .aload_n 2, 1), (83, .iload 5, 2), (85, .iaload, 1), (86, .ishl, 1), (87, .ior, 1), (88, .istore 4, 2), (90, .iinc 5 1, 3), (93, .goto (-85), 3), (96, .iload_n 3, 1), (97, .ireturn, 1)]
theorem xd_S_drawLots : xc_S_drawLots.all (fun q => decide (decode prog_8_method_15_code q.1 = .ok (q.2.1, q.2.2))) = true := by decide +kernel
def xc_S_partAt : List (Nat × Instr × Nat) := [(0, .iload_n 1, 1), (1, .istore_n 2, 1), (2, .iconst 0, 1), (3, .istore_n 3, 1), (4, .iload_n 3, 1), (5, .bipush 7, 2), (7, .if_icmp .ge 26, 3), (10, .iload_n 0, 1), (11, .iload_n 3, 1), (12, .ishr, 1), (13, .iconst 1, 1), (14, .iand, 1), (15, .ifCond .eq 12, 3), (18, .iload_n 2, 1), (19, .ifCond .ne 5, 3), (22, .iload_n 3, 1), (23, .ireturn, 1), (24, .iinc 2 (-1), 3), (27, .iinc 3 1, 3), (30, .goto (-26), 3), (33, .iconst (-1), 1), (34, .ireturn, 1)]
theorem xd_S_partAt : xc_S_partAt.all (fun q => decide (decode prog_8_method_16_code q.1 = .ok (q.2.1, q.2.2))) = true := by decide +kernel
def xc_S_castByLots : List (Nat × Instr × Nat) := [(0, .aload_n 0, 1), (1, .aload_n 0, 1), (2, .aload_n 0, 1), (3, .getfield 23, 3), (6, .aload_n 1, 1), (7, .invokevirtual 140, 3), (10, .putfield 23, 3), (13, .iconst 0, 1), (14, .istore_n 2, 1), (15, .iconst 0, 1), (16, .istore_n 3, 1), (17, .iload_n 3, 1), (18, .aload_n 0, 1), (19, .getfield 56, 3), (22, .if_icmp .ge 40, 3), (25, .iload_n 3, 1), (26, .aload_n 1, 1), (27, .arraylength, 1), (28, .if_icmp .ge 34, 3), (31, .aload_n 0, 1), (32, .getfield 19, 3), (35, .iload_n 3, 1), (36, .aaload, 1), (37, .aload_n 1, 1), (38, .iload_n 3, 1), (39, .iaload, 1), (40, .putfield 85, 3), (43, .aload_n 1, 1), (44, .iload_n 3, 1), (45, .iaload, 1), (46, .iconst (-1), 1), (47, .if_icmp .eq 9, 3), (50, .iload_n 2, 1), (51, .iconst 1, 1), (52, .iload_n 3, 1), (53, .ishl, 1), (54, .ior, 1), (55, .istore_n 2, 1), (56, .iinc 3 1, 3), (59, .goto (-42), 3), (62, .iload_n 2, 1), (63, .ireturn, 1)]
theorem xd_S_castByLots : xc_S_castByLots.all (fun q => decide (decode prog_8_method_17_code q.1 = .ok (q.2.1, q.2.2))) = true := by decide +kernel
def xc_S_castByRow : List (Nat × Instr × Nat) := [(0, .iconst 0, 1), (1, .istore_n 3, 1), (2, .iload_n 3, 1), (3, .aload_n 0, 1), (4, .getfield 56, 3), (7, .if_icmp .ge 19, 3), (10, .aload_n 0, 1), (11, .getfield 19, 3), (14, .iload_n 3, 1), (15, .aaload, 1), (16, .iconst (-1), 1), (17, .putfield 85, 3), (20, .iinc 3 1, 3), (23, .goto (-21), 3), (26, .iconst 0, 1), (27, .istore_n 3, 1), (28, .iload_n 3, 1), (29, .iload_n 2, 1), (30, .if_icmp .ge 78, 3), (33, .iload_n 3, 1), (34, .aload_n 1, 1), (35, .arraylength, 1), (36, .if_icmp .ge 72, 3), (39, .iload_n 3, 1), (40, .aload_n 0, 1), (41, .getfield 56, 3), (44, .if_icmp .ge 13, 3), (47, .aload_n 0, 1), (48, .aload_n 1, 1), (49, .iload_n 3, 1), (50, .iaload, 1), (51, .invokevirtual 144, 3), (54, .ifCond .ne 5, 3), (57, .iload_n 3, 1), (58, .ireturn, 1), (59, .aload_n 1, 1), (60, .iload_n 3, 1), (61, .iaload, 1), (62, .iconst (-1), 1), (63, .if_icmp .eq 27, 3), (66, .aload_n 0, 1), (67, .iload_n 3, 1), (68, .aload_n 1, 1), (69, .iload_n 3, 1), (70, .iaload, 1), (71, .invokevirtual 88, 3), (74, .ifCond .eq 14, 3), (77, .aload_n 0, 1), (78, .aload_n 1, 1), (79, .iload_n 3, 1), (80, .iaload, 1), (81, .invokevirtual 147, 3), (84, .iconst (-1), 1), (85, .if_icmp .eq 5, 3), (88, .iload_n 3, 1), (89, .ireturn, 1), (90, .aload_n 0, 1), (91, .getfield 19, 3), (94, .iload_n 3, 1), (95, .aaload, 1), (96, .aload_n 1, 1), (97, .iload_n 3, 1), (98, .iaload, 1), (99, .putfield 85, 3), (102, .iinc 3 1, 3), (105, .goto (-77), 3), (108, .iload_n 2, 1), (109, .ireturn, 1)]
theorem xd_S_castByRow : xc_S_castByRow.all (fun q => decide (decode prog_8_method_18_code q.1 = .ok (q.2.1, q.2.2))) = true := by decide +kernel
def xc_S_rightInRow : List (Nat × Instr × Nat) := [(0, .iconst 0, 1), (1, .istore_n 3, 1), (2, .iload_n 3, 1), (3, .iload_n 2, 1), (4, .if_icmp .ge 40, 3), (7, .iload_n 3, 1), (8, .aload_n 1, 1), (9, .arraylength, 1), (10, .if_icmp .ge 34, 3), (13, .iload_n 3, 1), (14, .aload_n 0, 1), (15, .getfield 56, 3), (18, .if_icmp .ge 18, 3), (21, .aload_n 0, 1), (22, .getfield 19, 3), (25, .iload_n 3, 1), (26, .aaload, 1), (27, .getfield 85, 3), (30, .aload_n 1, 1), (31, .iload_n 3, 1), (32, .iaload, 1), (33, .if_icmp .eq 5, 3), (36, .iload_n 3, 1), (37, .ireturn, 1), (38, .iinc 3 1, 3), (41, .goto (-39), 3), (44, .iload_n 2, 1), (45, .ireturn, 1)]
theorem xd_S_rightInRow : xc_S_rightInRow.all (fun q => decide (decode prog_8_method_19_code q.1 = .ok (q.2.1, q.2.2))) = true := by decide +kernel
def xc_R_init : List (Nat × Instr × Nat) := [(0, .aload_n 0, 1), (1, .invokespecial 3, 3), (4, .return_, 1)]
theorem xd_R_init : xc_R_init.all (fun q => decide (decode prog_6_method_1_code q.1 = .ok (q.2.1, q.2.2))) = true := by decide +kernel
def xc_R_turnInto : List (Nat × Instr × Nat) := [(0, .aload_n 0, 1), (1, .iload_n 1, 1), (2, .bipush 10, 2), (4, .idiv, 1), (5, .putfield 9, 3), (8, .aload_n 0, 1), (9, .iload_n 1, 1), (10, .bipush 10, 2), (12, .irem, 1), (13, .putfield 15, 3), (16, .return_, 1)]
theorem xd_R_turnInto : xc_R_turnInto.all (fun q => decide (decode prog_6_method_2_code q.1 = .ok (q.2.1, q.2.2))) = true := by decide +kernel
def xc_R_copyFrom : List (Nat × Instr × Nat) := [(0, .aload_n 0, 1), (1, .aload_n 1, 1), (2, .getfield 9, 3), (5, .putfield 9, 3), (8, .aload_n 0, 1), (9, .aload_n 1, 1), (10, .getfield 15, 3), (13, .putfield 15, 3), (16, .return_, 1)]
theorem xd_R_copyFrom : xc_R_copyFrom.all (fun q => decide (decode prog_6_method_3_code q.1 = .ok (q.2.1, q.2.2))) = true := by decide +kernel
def xc_R_isOf : List (Nat × Instr × Nat) := [(0, .aload_n 0, 1), (1, .getfield 9, 3), (4, .istore_n 2, 1), (5, .iconst 0, 1), (6, .istore_n 3, 1), (7, .iload_n 3, 1), (8, .bipush 7, 2), (10, .if_icmp .ge 32, 3), (13, .iload_n 2, 1), (14, .ifCond .lt 28, 3), (17, .iload_n 2, 1), (18, .bipush 7, 2), (20, .if_icmp .ge 22, 3), (23, .iload_n 2, 1), (24, .iload_n 1, 1), (25, .if_icmp .ne 5, 3), (28, .iconst 1, 1), (29, .ireturn, 1), (30, .getstatic 18, 3), (33, .iload_n 2, 1), (34, .iaload, 1), (35, .istore_n 2, 1), (36, .iinc 3 1, 3), (39, .goto (-32), 3), (42, .iconst 0, 1), (43, .ireturn, 1)]
theorem xd_R_isOf : xc_R_isOf.all (fun q => decide (decode prog_6_method_4_code q.1 = .ok (q.2.1, q.2.2))) = true := by decide +kernel
def xc_R_suits : List (Nat × Instr × Nat) := [(0, .aload_n 1, 1), (1, .getfield 22, 3), (4, .ifCond .eq 5, 3), (7, .iconst 0, 1), (8, .ireturn, 1), (9, .aload_n 0, 1), (10, .getfield 9, 3), (13, .tableswitch 149 1 6 #[39, 56, 149, 73, 97, 127], 39), (52, .aload_n 1, 1), (53, .getfield 27, 3), (56, .aload_n 0, 1), (57, .getfield 15, 3), (60, .if_icmp .lt 7, 3), (63, .iconst 1, 1), (64, .goto 4, 3), (67, .iconst 0, 1), (68, .ireturn, 1), (69, .aload_n 1, 1), (70, .getfield 30, 3), (73, .aload_n 0, 1), (74, .getfield 15, 3), (77, .if_icmp .gt 7, 3), (80, .iconst 1, 1), (81, .goto 4, 3), (84, .iconst 0, 1), (85, .ireturn, 1), (86, .aload_n 1, 1), (87, .getfield 27, 3), (90, .aload_n 0, 1), (91, .getfield 15, 3), (94, .if_icmp .lt 14, 3), (97, .aload_n 1, 1), (98, .getfield 33, 3), (101, .ifCond .ne 7, 3), (104, .iconst 1, 1), (105, .goto 4, 3), (108, .iconst 0, 1), (109, .ireturn, 1), (110, .aload_n 1, 1), (111, .getfield 30, 3), (114, .aload_n 0, 1), (115, .getfield 15, 3), (118, .if_icmp .gt 20, 3), (121, .aload_n 1, 1), (122, .getfield 30, 3), (125, .aload_n 0, 1), (126, .getfield 15, 3), (129, .iconst 2, 1), (130, .idiv, 1), (131, .if_icmp .le 7, 3), (134, .iconst 1, 1), (135, .goto 4, 3), (138, .iconst 0, 1), (139, .ireturn, 1), (140, .aload_n 1, 1), (141, .getfield 33, 3), (144, .iconst 1, 1), (145, .if_icmp .eq 11, 3), (148, .aload_n 0, 1), (149, .getfield 15, 3), (152, .iconst 4, 1), (153, .if_icmp .le 7, 3), (156, .iconst 1, 1), (157, .goto 4, 3), (160, .iconst 0, 1), (161, .ireturn, 1), (162, .iconst 1, 1), (163, .ireturn, 1)]
theorem xd_R_suits : xc_R_suits.all (fun q => decide (decode prog_6_method_5_code q.1 = .ok (q.2.1, q.2.2))) = true := by decide +kernel
def xc_R_lines : List (Nat × Instr × Nat) := [(0, .aload_n 0, 1), (1, .getfield 9, 3), (4, .tableswitch 83 0 5 #[40, 45, 54, 83, 61, 74], 40), (44, .aload_n 0, 1), (45, .getfield 15, 3), (48, .ireturn, 1), (49, .iconst 2, 1), (50, .aload_n 0, 1), (51, .getfield 15, 3), (54, .imul, 1), (55, .iconst 1, 1), (56, .iadd, 1), (57, .ireturn, 1), (58, .aload_n 0, 1), (59, .getfield 15, 3), (62, .iconst 2, 1), (63, .idiv, 1), (64, .ireturn, 1), (65, .iconst 2, 1), (66, .aload_n 0, 1), (67, .getfield 15, 3), (70, .imul, 1), (71, .iconst 1, 1), (72, .iadd, 1), (73, .iload_n 1, 1), (74, .iconst 3, 1), (75, .irem, 1), (76, .iadd, 1), (77, .ireturn, 1), (78, .aload_n 0, 1), (79, .getfield 15, 3), (82, .iconst 2, 1), (83, .idiv, 1), (84, .iconst 1, 1), (85, .iadd, 1), (86, .ireturn, 1), (87, .iconst 0, 1), (88, .ireturn, 1)]
theorem xd_R_lines : xc_R_lines.all (fun q => decide (decode prog_6_method_6_code q.1 = .ok (q.2.1, q.2.2))) = true := by decide +kernel
def xc_C_init : List (Nat × Instr × Nat) := [(0, .aload_n 0, 1), (1, .invokespecial 3, 3), (4, .aload_n 0, 1), (5, .iconst 3, 1), (6, .newarray .int, 2), (8, .putfield 9, 3), (11, .return_, 1)]
theorem xd_C_init : xc_C_init.all (fun q => decide (decode prog_3_method_1_code q.1 = .ok (q.2.1, q.2.2))) = true := by decide +kernel
def xc_C_startAs : List (Nat × Instr × Nat) := [(0, .aload_n 0, 1), (1, .iload_n 1, 1), (2, .putfield 15, 3), (5, .aload_n 0, 1), (6, .iload_n 2, 1), (7, .putfield 19, 3), (10, .aload_n 0, 1), (11, .iload_n 3, 1), (12, .putfield 22, 3), (15, .aload_n 0, 1), (16, .iconst 0, 1), (17, .putfield 25, 3), (20, .aload_n 0, 1), (21, .iconst (-1), 1), (22, .putfield 28, 3), (25, .aload_n 0, 1), (26, .iconst (-1), 1), (27, .putfield 31, 3), (30, .iconst 0, 1), (31, .istore 4, 2), (33, .iload 4, 2), (35, .iconst 3, 1), (36, .if_icmp .ge 17, 3), (39, .aload_n 0, 1), (40, .getfield 9, 3), (43, .iload 4, 2), (45, .iconst (-1), 1), (46, .iastore, 1), (47, .iinc 4 1, 3), (50, .goto (-17), 3), (53, .return_, 1)]
theorem xd_C_startAs : xc_C_startAs.all (fun q => decide (decode prog_3_method_2_code q.1 = .ok (q.2.1, q.2.2))) = true := by decide +kernel
def xc_C_copyFrom : List (Nat × Instr × Nat) := [(0, .aload_n 0, 1), (1, .aload_n 1, 1), (2, .getfield 15, 3), (5, .putfield 15, 3), (8, .aload_n 0, 1), (9, .aload_n 1, 1), (10, .getfield 19, 3), (13, .putfield 19, 3), (16, .aload_n 0, 1), (17, .aload_n 1, 1), (18, .getfield 22, 3), (21, .putfield 22, 3), (24, .aload_n 0, 1), (25, .aload_n 1, 1), (26, .getfield 25, 3), (29, .putfield 25, 3), (32, .aload_n 0, 1), (33, .aload_n 1, 1), (34, .getfield 28, 3), (37, .putfield 28, 3), (40, .aload_n 0, 1), (41, .aload_n 1, 1), (42, .getfield 31, 3), (45, .putfield 31, 3), (48, .aload_n 1, 1), (49, .getfield 9, 3), (52, .iconst 0, 1), (53, .aload_n 0, 1), (54, .getfield 9, 3), (57, .iconst 0, 1), (58, .iconst 3, 1), (59, .invokestatic 34, 3), (62, .return_, 1)]
theorem xd_C_copyFrom : xc_C_copyFrom.all (fun q => decide (decode prog_3_method_3_code q.1 = .ok (q.2.1, q.2.2))) = true := by decide +kernel
def xc_C_valueOf : List (Nat × Instr × Nat) := [(0, .iload_n 1, 1), (1, .tableswitch 69 0 5 #[39, 44, 49, 54, 59, 64], 39), (40, .aload_n 0, 1), (41, .getfield 15, 3), (44, .ireturn, 1), (45, .aload_n 0, 1), (46, .getfield 19, 3), (49, .ireturn, 1), (50, .aload_n 0, 1), (51, .getfield 22, 3), (54, .ireturn, 1), (55, .aload_n 0, 1), (56, .getfield 25, 3), (59, .ireturn, 1), (60, .aload_n 0, 1), (61, .getfield 28, 3), (64, .ireturn, 1), (65, .aload_n 0, 1), (66, .getfield 31, 3), (69, .ireturn, 1), (70, .iload_n 1, 1), (71, .bipush 6, 2), (73, .isub, 1), (74, .istore_n 2, 1), (75, .iload_n 2, 1), (76, .ifCond .lt 17, 3), (79, .iload_n 2, 1), (80, .iconst 3, 1), (81, .if_icmp .ge 12, 3), (84, .aload_n 0, 1), (85, .getfield 9, 3), (88, .iload_n 2, 1), (89, .iaload, 1), (90, .goto 4, 3), (93, .iconst (-1), 1), (94, .ireturn, 1)]
theorem xd_C_valueOf : xc_C_valueOf.all (fun q => decide (decode prog_3_method_4_code q.1 = .ok (q.2.1, q.2.2))) = true := by decide +kernel
def xc_C_dear : List (Nat × Instr × Nat) := [(0, .iconst 0, 1), (1, .istore_n 2, 1), (2, .iload_n 2, 1), (3, .iconst 3, 1), (4, .if_icmp .ge 23, 3), (7, .aload_n 0, 1), (8, .getfield 9, 3), (11, .iload_n 2, 1), (12, .iaload, 1), (13, .iload_n 1, 1), (14, .if_icmp .ne 7, 3), (17, .iconst 3, 1), (18, .iload_n 2, 1), (19, .isub, 1), (20, .ireturn, 1), (21, .iinc 2 1, 3), (24, .goto (-22), 3), (27, .iconst 0, 1), (28, .ireturn, 1)]
theorem xd_C_dear : xc_C_dear.all (fun q => decide (decode prog_3_method_5_code q.1 = .ok (q.2.1, q.2.2))) = true := by decide +kernel
def xc_C_wishSet : List (Nat × Instr × Nat) := [(0, .iconst 0, 1), (1, .istore_n 1, 1), (2, .iconst 0, 1), (3, .istore_n 2, 1), (4, .iload_n 2, 1), (5, .iconst 3, 1), (6, .if_icmp .ge 30, 3), (9, .aload_n 0, 1), (10, .getfield 9, 3), (13, .iload_n 2, 1), (14, .iaload, 1), (15, .iconst (-1), 1), (16, .if_icmp .eq 14, 3), (19, .iload_n 1, 1), (20, .iconst 1, 1), (21, .aload_n 0, 1), (22, .getfield 9, 3), (25, .iload_n 2, 1), (26, .iaload, 1), (27, .ishl, 1), (28, .ior, 1), (29, .istore_n 1, 1), (30, .iinc 2 1, 3), (33, .goto (-29), 3), (36, .iload_n 1, 1), (37, .ireturn, 1)]
theorem xd_C_wishSet : xc_C_wishSet.all (fun q => decide (decode prog_3_method_6_code q.1 = .ok (q.2.1, q.2.2))) = true := by decide +kernel
def xc_T_init : List (Nat × Instr × Nat) := [(0, .aload_n 0, 1), (1, .invokespecial 3, 3), (4, .aload_n 0, 1), (5, .bipush 60, 2), (7, .newarray .int, 2), (9, .putfield 9, 3), (12, .aload_n 0, 1), (13, .bipush 60, 2), (15, .newarray .int, 2), (17, .putfield 15, 3), (20, .return_, 1)]
theorem xd_T_init : xc_T_init.all (fun q => decide (decode prog_9_method_1_code q.1 = .ok (q.2.1, q.2.2))) = true := by decide +kernel
def xc_T_add : List (Nat × Instr × Nat) := [(0, .aload_n 0, 1), (1, .getfield 18, 3), (4, .bipush 60, 2), (6, .if_icmp .ge 23, 3), (9, .aload_n 0, 1), (10, .getfield 9, 3), (13, .aload_n 0, 1), (14, .getfield 18, 3), (17, .iload_n 1, 1), (18, .iastore, 1), (19, .aload_n 0, 1), (20, .dup, 1), (21, .getfield 18, 3), (24, .iconst 1, 1), (25, .iadd, 1), (26, .putfield 18, 3), (29, .return_, 1)]
theorem xd_T_add : xc_T_add.all (fun q => decide (decode prog_9_method_2_code q.1 = .ok (q.2.1, q.2.2))) = true := by decide +kernel
def xc_T_copyFrom : List (Nat × Instr × Nat) := [(0, .aload_n 1, 1), (1, .getfield 9, 3), (4, .iconst 0, 1), (5, .aload_n 0, 1), (6, .getfield 9, 3), (9, .iconst 0, 1), (10, .bipush 60, 2), (12, .invokestatic 22, 3), (15, .aload_n 0, 1), (16, .aload_n 1, 1), (17, .getfield 18, 3), (20, .putfield 18, 3), (23, .return_, 1)]
theorem xd_T_copyFrom : xc_T_copyFrom.all (fun q => decide (decode prog_9_method_3_code q.1 = .ok (q.2.1, q.2.2))) = true := by decide +kernel
def xc_T_workOut : List (Nat × Instr × Nat) := [(0, .iconst (-1), 1), (1, .istore 4, 2), (3, .iconst 0, 1), (4, .istore 5, 2), (6, .iload 5, 2), (8, .aload_n 0, 1), (9, .getfield 18, 3), (12, .if_icmp .ge 140, 3), (15, .aload_n 0, 1), (16, .getfield 9, 3), (19, .iload 5, 2), (21, .iaload, 1), (22, .istore 6, 2), (24, .iload 6, 2), (26, .bipush (-3), 2), (28, .if_icmp .lt 43, 3), (31, .iload 4, 2), (33, .iconst 1, 1), (34, .iadd, 1), (35, .bipush 60, 2), (37, .if_icmp .ge 34, 3), (40, .iinc 4 1, 3), (43, .aload_n 0, 1), (44, .getfield 15, 3), (47, .iload 4, 2), (49, .iload 6, 2), (51, .ifCond .lt 8, 3), (54, .iload 6, 2), (56, .goto 11, 3), (59, .iload 6, 2), (61, .iload_n 1, 1), (62, .iload_n 2, 1), (63, .iload_n 3, 1), (64, .invokestatic 28, 3), (67, .iastore, 1), (68, .goto 78, 3), (71, .iload 6, 2), (73, .bipush (-33), 2), (75, .if_icmp .ne 33, 3), (78, .iload 4, 2), (80, .ifCond .lt 28, 3), (83, .aload_n 0, 1), (84, .getfield 15, 3), (87, .iload 4, 2), (89, .aload_n 0, 1), (90, .getfield 15, 3), (93, .iload 4, 2), (95, .iaload, 1), (96, .ifCond .ne 7, 3), (99, .iconst 1, 1), (100, .goto 4, 3), (103, .iconst 0, 1), (104, .iastore, 1), (105, .goto 41, 3), (108, .iload 4, 2), (110, .iconst 1, 1), (111, .if_icmp .lt 35, 3), (114, .iinc 4 (-1), 3), (117, .aload_n 0, 1), (118, .getfield 15, 3), (121, .iload 4, 2), (123, .iload 6, 2), (125, .ineg, 1), (126, .aload_n 0, 1), (127, .getfield 15, 3), (130, .iload 4, 2), (132, .iaload, 1), (133, .aload_n 0, 1), (134, .getfield 15, 3), (137, .iload 4, 2), (139, .iconst 1, 1), (140, .iadd, 1), (141, .iaload, 1), (142, .invokestatic 32, 3), (145, .iastore, 1), (146, .iinc 5 1, 3), (149, .goto (-143), 3), (152, .iload 4, 2), (154, .ifCond .lt 13, 3), (157, .aload_n 0, 1), (158, .getfield 15, 3), (161, .iload 4, 2), (163, .iaload, 1), (164, .goto 4, 3), (167, .iconst 0, 1), (168, .ireturn, 1)]
theorem xd_T_workOut : xc_T_workOut.all (fun q => decide (decode prog_9_method_4_code q.1 = .ok (q.2.1, q.2.2))) = true := by decide +kernel
def xc_T_named : List (Nat × Instr × Nat) := [(0, .iload_n 0, 1), (1, .iconst (-1), 1), (2, .if_icmp .ne 5, 3), (5, .iload_n 1, 1), (6, .ireturn, 1), (7, .iload_n 0, 1), (8, .bipush (-2), 2), (10, .if_icmp .ne 7, 3), (13, .iload_n 2, 1), (14, .goto 4, 3), (17, .iload_n 3, 1), (18, .ireturn, 1)]
theorem xd_T_named : xc_T_named.all (fun q => decide (decode prog_9_method_5_code q.1 = .ok (q.2.1, q.2.2))) = true := by decide +kernel
def xc_T_apply : List (Nat × Instr × Nat) := [(0, .iload_n 0, 1), (1, .lookupswitch 168 #[(38, 97), (42, 152), (43, 144), (45, 148), (47, 156), (60, 111), (61, 122), (62, 133), (124, 83)], 83), (84, .iload_n 1, 1), (85, .ifCond .ne 7, 3), (88, .iload_n 2, 1), (89, .ifCond .eq 7, 3), (92, .iconst 1, 1), (93, .goto 4, 3), (96, .iconst 0, 1), (97, .ireturn, 1), (98, .iload_n 1, 1), (99, .ifCond .eq 11, 3), (102, .iload_n 2, 1), (103, .ifCond .eq 7, 3), (106, .iconst 1, 1), (107, .goto 4, 3), (110, .iconst 0, 1), (111, .ireturn, 1), (112, .iload_n 1, 1), (113, .iload_n 2, 1), (114, .if_icmp .ge 7, 3), (117, .iconst 1, 1), (118, .goto 4, 3), (121, .iconst 0, 1), (122, .ireturn, 1), (123, .iload_n 1, 1), (124, .iload_n 2, 1), (125, .if_icmp .ne 7, 3), (128, .iconst 1, 1), (129, .goto 4, 3), (132, .iconst 0, 1), (133, .ireturn, 1), (134, .iload_n 1, 1), (135, .iload_n 2, 1), (136, .if_icmp .le 7, 3), (139, .iconst 1, 1), (140, .goto 4, 3), (143, .iconst 0, 1), (144, .ireturn, 1), (145, .iload_n 1, 1), (146, .iload_n 2, 1), (147, .iadd, 1), (148, .ireturn, 1), (149, .iload_n 1, 1), (150, .iload_n 2, 1), (151, .isub, 1), (152, .ireturn, 1), (153, .iload_n 1, 1), (154, .iload_n 2, 1), (155, .imul, 1), (156, .ireturn, 1), (157, .iload_n 2, 1), (158, .ifCond .ne 7, 3), (161, .iconst 0, 1), (162, .goto 6, 3), (165, .iload_n 1, 1), (166, .iload_n 2, 1), (167, .idiv, 1), (168, .ireturn, 1), (169, .iload_n 2, 1), (170, .ifCond .ne 7, 3), (173, .iconst 0, 1), (174, .goto 6, 3), (177, .iload_n 1, 1), (178, .iload_n 2, 1), (179, .irem, 1), (180, .ireturn, 1)]
theorem xd_T_apply : xc_T_apply.all (fun q => decide (decode prog_9_method_6_code q.1 = .ok (q.2.1, q.2.2))) = true := by decide +kernel
def xc_D_init : List (Nat × Instr × Nat) := [(0, .aload_n 0, 1), (1, .invokespecial 3, 3), (4, .aload_n 0, 1), (5, .new 9, 3), (8, .dup, 1), (9, .invokespecial 11, 3), (12, .putfield 12, 3), (15, .aload_n 0, 1), (16, .bipush 60, 2), (18, .newarray .int, 2), (20, .putfield 18, 3), (23, .aload_n 0, 1), (24, .ldc 22, 2), (26, .putfield 24, 3), (29, .return_, 1)]
theorem xd_D_init : xc_D_init.all (fun q => decide (decode prog_5_method_1_code q.1 = .ok (q.2.1, q.2.2))) = true := by decide +kernel
def xc_D_read : List (Nat × Instr × Nat) := [(0, .aload_n 0, 1), (1, .iload_n 2, 1), (2, .iconst 0, 1), (3, .bipush 60, 2), (5, .aload_n 1, 1), (6, .arraylength, 1), (7, .invokestatic 28, 3), (10, .invokestatic 34, 3), (13, .putfield 38, 3), (16, .aload_n 1, 1), (17, .iconst 0, 1), (18, .aload_n 0, 1), (19, .getfield 18, 3), (22, .iconst 0, 1), (23, .aload_n 0, 1), (24, .getfield 38, 3), (27, .invokestatic 42, 3), (30, .aload_n 0, 1), (31, .iload_n 3, 1), (32, .ifCond .ne 8, 3), (35, .ldc 48, 2), (37, .goto 5, 3), (40, .ldc 50, 2), (42, .putfield 24, 3), (45, .aload_n 0, 1), (46, .getfield 12, 3), (49, .iconst 0, 1), (50, .putfield 52, 3), (53, .aload_n 0, 1), (54, .iconst 0, 1), (55, .putfield 55, 3), (58, .aload_n 0, 1), (59, .iconst (-1), 1), (60, .putfield 58, 3), (63, .aload_n 0, 1), (64, .iconst 0, 1), (65, .iconst 0, 1), (66, .invokevirtual 61, 3), (69, .aload_n 0, 1), (70, .getfield 55, 3), (73, .aload_n 0, 1), (74, .getfield 38, 3), (77, .if_icmp .ge 7, 3), (80, .aload_n 0, 1), (81, .invokevirtual 65, 3), (84, .aload_n 0, 1), (85, .getfield 58, 3), (88, .ireturn, 1)]
theorem xd_D_read : xc_D_read.all (fun q => decide (decode prog_5_method_2_code q.1 = .ok (q.2.1, q.2.2))) = true := by decide +kernel
def xc_D_failHere : List (Nat × Instr × Nat) := [(0, .aload_n 0, 1), (1, .getfield 58, 3), (4, .ifCond .ge 11, 3), (7, .aload_n 0, 1), (8, .aload_n 0, 1), (9, .getfield 55, 3), (12, .putfield 58, 3), (15, .return_, 1)]
theorem xd_D_failHere : xc_D_failHere.all (fun q => decide (decode prog_5_method_3_code q.1 = .ok (q.2.1, q.2.2))) = true := by decide +kernel
def xc_D_next : List (Nat × Instr × Nat) := [(0, .aload_n 0, 1), (1, .getfield 55, 3), (4, .ifCond .lt 26, 3), (7, .aload_n 0, 1), (8, .getfield 55, 3), (11, .aload_n 0, 1), (12, .getfield 38, 3), (15, .if_icmp .ge 15, 3), (18, .aload_n 0, 1), (19, .getfield 18, 3), (22, .aload_n 0, 1), (23, .getfield 55, 3), (26, .iaload, 1), (27, .goto 4, 3), (30, .iconst (-1), 1), (31, .ireturn, 1)]
theorem xd_D_next : xc_D_next.all (fun q => decide (decode prog_5_method_4_code q.1 = .ok (q.2.1, q.2.2))) = true := by decide +kernel
def xc_D_isDigit : List (Nat × Instr × Nat) := [(0, .iload_n 0, 1), (1, .bipush 48, 2), (3, .if_icmp .lt 13, 3), (6, .iload_n 0, 1), (7, .bipush 57, 2), (9, .if_icmp .gt 7, 3), (12, .iconst 1, 1), (13, .goto 4, 3), (16, .iconst 0, 1), (17, .ireturn, 1)]
theorem xd_D_isDigit : xc_D_isDigit.all (fun q => decide (decode prog_5_method_5_code q.1 = .ok (q.2.1, q.2.2))) = true := by decide +kernel
def xc_D_levelOf : List (Nat × Instr × Nat) := [(0, .iload_n 0, 1), (1, .lookupswitch 101 #[(37, 99), (38, 93), (42, 99), (43, 97), (45, 97), (47, 99), (60, 95), (61, 95), (62, 95), (124, 91)], 91), (92, .iconst 0, 1), (93, .ireturn, 1), (94, .iconst 1, 1), (95, .ireturn, 1), (96, .iconst 2, 1), (97, .ireturn, 1), (98, .iconst 3, 1), (99, .ireturn, 1), (100, .iconst 4, 1), (101, .ireturn, 1), (102, .iconst (-1), 1), (103, .ireturn, 1)]
theorem xd_D_levelOf : xc_D_levelOf.all (fun q => decide (decode prog_5_method_6_code q.1 = .ok (q.2.1, q.2.2))) = true := by decide +kernel
def xc_D_readLevel : List (Nat × Instr × Nat) := [(0, .iload_n 1, 1), (1, .iconst 5, 1), (2, .if_icmp .lt 9, 3), (5, .aload_n 0, 1), (6, .iload_n 2, 1), (7, .invokevirtual 68, 3), (10, .return_, 1), (11, .aload_n 0, 1), (12, .iload_n 1, 1), (13, .iconst 1, 1), (14, .iadd, 1), (15, .iload_n 2, 1), (16, .invokevirtual 61, 3), (19, .iload_n 1, 1), (20, .iconst 2, 1), (21, .if_icmp .ne 7, 3), (24, .iconst 1, 1), (25, .goto 5, 3), (28, .bipush 60, 2), (30, .istore_n 3, 1), (31, .iconst 0, 1), (32, .istore 4, 2), (34, .iload 4, 2), (36, .iload_n 3, 1), (37, .if_icmp .ge 60, 3), (40, .aload_n 0, 1), (41, .getfield 58, 3), (44, .ifCond .ge 53, 3), (47, .aload_n 0, 1), (48, .invokevirtual 72, 3), (51, .istore 5, 2), (53, .iload 5, 2), (55, .invokestatic 76, 3), (58, .iload_n 1, 1), (59, .if_icmp .eq 4, 3), (62, .return_, 1), (63, .aload_n 0, 1), (64, .dup, 1), (65, .getfield 55, 3), (68, .iconst 1, 1), (69, .iadd, 1), (70, .putfield 55, 3), (73, .aload_n 0, 1), (74, .iload_n 1, 1), (75, .iconst 1, 1), (76, .iadd, 1), (77, .iload_n 2, 1), (78, .invokevirtual 61, 3), (81, .aload_n 0, 1), (82, .getfield 12, 3), (85, .iload 5, 2), (87, .ineg, 1), (88, .invokevirtual 80, 3), (91, .iinc 4 1, 3), (94, .goto (-60), 3), (97, .return_, 1)]
theorem xd_D_readLevel : xc_D_readLevel.all (fun q => decide (decode prog_5_method_7_code q.1 = .ok (q.2.1, q.2.2))) = true := by decide +kernel
def xc_D_readFactor : List (Nat × Instr × Nat) := [(0, .aload_n 0, 1), (1, .invokevirtual 72, 3), (4, .istore_n 2, 1), (5, .iload_n 2, 1), (6, .invokestatic 83, 3), (9, .ifCond .eq 10, 3), (12, .aload_n 0, 1), (13, .invokevirtual 87, 3), (16, .goto 130, 3), (19, .iload_n 2, 1), (20, .ifCond .lt 46, 3), (23, .aload_n 0, 1), (24, .getfield 24, 3), (27, .iload_n 2, 1), (28, .i2c, 1), (29, .invokevirtual 90, 3), (32, .ifCond .lt 34, 3), (35, .aload_n 0, 1), (36, .getfield 12, 3), (39, .iconst (-1), 1), (40, .aload_n 0, 1), (41, .getfield 24, 3), (44, .iload_n 2, 1), (45, .i2c, 1), (46, .invokevirtual 90, 3), (49, .isub, 1), (50, .invokevirtual 80, 3), (53, .aload_n 0, 1), (54, .dup, 1), (55, .getfield 55, 3), (58, .iconst 1, 1), (59, .iadd, 1), (60, .putfield 55, 3), (63, .goto 83, 3), (66, .iload_n 2, 1), (67, .bipush 33, 2), (69, .if_icmp .ne 37, 3), (72, .iload_n 1, 1), (73, .iconst 5, 1), (74, .if_icmp .ge 32, 3), (77, .aload_n 0, 1), (78, .dup, 1), (79, .getfield 55, 3), (82, .iconst 1, 1), (83, .iadd, 1), (84, .putfield 55, 3), (87, .aload_n 0, 1), (88, .iload_n 1, 1), (89, .iconst 1, 1), (90, .iadd, 1), (91, .invokevirtual 68, 3), (94, .aload_n 0, 1), (95, .getfield 12, 3), (98, .bipush (-33), 2), (100, .invokevirtual 80, 3), (103, .goto 43, 3), (106, .iload_n 2, 1), (107, .bipush 40, 2), (109, .if_icmp .ne 33, 3), (112, .iload_n 1, 1), (113, .iconst 5, 1), (114, .if_icmp .ge 28, 3), (117, .aload_n 0, 1), (118, .dup, 1), (119, .getfield 55, 3), (122, .iconst 1, 1), (123, .iadd, 1), (124, .putfield 55, 3), (127, .aload_n 0, 1), (128, .iconst 0, 1), (129, .iload_n 1, 1), (130, .iconst 1, 1), (131, .iadd, 1), (132, .invokevirtual 61, 3), (135, .aload_n 0, 1), (136, .invokevirtual 95, 3), (139, .goto 7, 3), (142, .aload_n 0, 1), (143, .invokevirtual 65, 3), (146, .return_, 1)]
theorem xd_D_readFactor : xc_D_readFactor.all (fun q => decide (decode prog_5_method_8_code q.1 = .ok (q.2.1, q.2.2))) = true := by decide +kernel
def xc_D_readClosing : List (Nat × Instr × Nat) := [(0, .aload_n 0, 1), (1, .getfield 58, 3), (4, .ifCond .ge 25, 3), (7, .aload_n 0, 1), (8, .invokevirtual 72, 3), (11, .bipush 41, 2), (13, .if_icmp .ne 16, 3), (16, .aload_n 0, 1), (17, .dup, 1), (18, .getfield 55, 3), (21, .iconst 1, 1), (22, .iadd, 1), (23, .putfield 55, 3), (26, .goto 7, 3), (29, .aload_n 0, 1), (30, .invokevirtual 65, 3), (33, .return_, 1)]
theorem xd_D_readClosing : xc_D_readClosing.all (fun q => decide (decode prog_5_method_9_code q.1 = .ok (q.2.1, q.2.2))) = true := by decide +kernel
def xc_D_readNumber : List (Nat × Instr × Nat) := [(0, .iconst 0, 1), (1, .istore_n 1, 1), (2, .iconst 0, 1), (3, .istore_n 2, 1), (4, .iload_n 2, 1), (5, .iconst 4, 1), (6, .if_icmp .ge 42, 3), (9, .aload_n 0, 1), (10, .invokevirtual 72, 3), (13, .invokestatic 83, 3), (16, .ifCond .eq 32, 3), (19, .iload_n 1, 1), (20, .bipush 10, 2), (22, .imul, 1), (23, .aload_n 0, 1), (24, .invokevirtual 72, 3), (27, .iadd, 1), (28, .bipush 48, 2), (30, .isub, 1), (31, .istore_n 1, 1), (32, .aload_n 0, 1), (33, .dup, 1), (34, .getfield 55, 3), (37, .iconst 1, 1), (38, .iadd, 1), (39, .putfield 55, 3), (42, .iinc 2 1, 3), (45, .goto (-41), 3), (48, .aload_n 0, 1), (49, .getfield 12, 3), (52, .iload_n 1, 1), (53, .invokevirtual 80, 3), (56, .return_, 1)]
theorem xd_D_readNumber : xc_D_readNumber.all (fun q => decide (decode prog_5_method_10_code q.1 = .ok (q.2.1, q.2.2))) = true := by decide +kernel
def xc_A_init : List (Nat × Instr × Nat) := [(0, .aload_n 0, 1), (1, .invokespecial 3, 3), (4, .aload_n 0, 1), (5, .bipush 7, 2), (7, .bipush 7, 2), (9, .multianewarray 9 2, 4), (13, .putfield 11, 3), (16, .aload_n 0, 1), (17, .bipush 8, 2), (19, .sipush 128, 3), (22, .multianewarray 9 2, 4), (26, .putfield 16, 3), (29, .aload_n 0, 1), (30, .bipush 7, 2), (32, .newarray .int, 2), (34, .putfield 19, 3), (37, .return_, 1)]
theorem xd_A_init : xc_A_init.all (fun q => decide (decode prog_2_method_1_code q.1 = .ok (q.2.1, q.2.2))) = true := by decide +kernel
def xc_A_weighByWorth : List (Nat × Instr × Nat) := [(0, .aload_n 0, 1), (1, .aload_n 1, 1), (2, .getfield 23, 3), (5, .putfield 29, 3), (8, .aload_n 0, 1), (9, .aload_n 1, 1), (10, .getfield 32, 3), (13, .putfield 35, 3), (16, .iconst 0, 1), (17, .istore_n 2, 1), (18, .iload_n 2, 1), (19, .aload_n 0, 1), (20, .getfield 29, 3), (23, .if_icmp .ge 52, 3), (26, .iconst 0, 1), (27, .istore_n 3, 1), (28, .iload_n 3, 1), (29, .aload_n 0, 1), (30, .getfield 35, 3), (33, .if_icmp .ge 36, 3), (36, .aload_n 0, 1), (37, .getfield 11, 3), (40, .iload_n 2, 1), (41, .aaload, 1), (42, .iload_n 3, 1), (43, .aload_n 1, 1), (44, .iload_n 2, 1), (45, .iload_n 3, 1), (46, .invokevirtual 38, 3), (49, .ifCond .eq 12, 3), (52, .aload_n 1, 1), (53, .iload_n 2, 1), (54, .iload_n 3, 1), (55, .invokevirtual 42, 3), (58, .goto 4, 3), (61, .iconst (-1), 1), (62, .iastore, 1), (63, .iinc 3 1, 3), (66, .goto (-38), 3), (69, .iinc 2 1, 3), (72, .goto (-54), 3), (75, .return_, 1)]
theorem xd_A_weighByWorth : xc_A_weighByWorth.all (fun q => decide (decode prog_2_method_2_code q.1 = .ok (q.2.1, q.2.2))) = true := by decide +kernel
def xc_A_weighByWishes : List (Nat × Instr × Nat) := [(0, .aload_n 0, 1), (1, .aload_n 1, 1), (2, .getfield 23, 3), (5, .putfield 29, 3), (8, .aload_n 0, 1), (9, .aload_n 1, 1), (10, .getfield 32, 3), (13, .putfield 35, 3), (16, .iconst 0, 1), (17, .istore_n 2, 1), (18, .iload_n 2, 1), (19, .aload_n 0, 1), (20, .getfield 29, 3), (23, .if_icmp .ge 72, 3), (26, .iconst 0, 1), (27, .istore_n 3, 1), (28, .iload_n 3, 1), (29, .aload_n 0, 1), (30, .getfield 35, 3), (33, .if_icmp .ge 56, 3), (36, .aload_n 1, 1), (37, .iload_n 2, 1), (38, .iload_n 3, 1), (39, .invokevirtual 38, 3), (42, .ifCond .eq 20, 3), (45, .aload_n 1, 1), (46, .getfield 46, 3), (49, .iload_n 2, 1), (50, .aaload, 1), (51, .iload_n 3, 1), (52, .invokevirtual 49, 3), (55, .ifCond .le 7, 3), (58, .iconst 1, 1), (59, .goto 4, 3), (62, .iconst 0, 1), (63, .istore 4, 2), (65, .aload_n 0, 1), (66, .getfield 11, 3), (69, .iload_n 2, 1), (70, .aaload, 1), (71, .iload_n 3, 1), (72, .iload 4, 2), (74, .ifCond .eq 7, 3), (77, .iconst 1, 1), (78, .goto 4, 3), (81, .iconst (-1), 1), (82, .iastore, 1), (83, .iinc 3 1, 3), (86, .goto (-58), 3), (89, .iinc 2 1, 3), (92, .goto (-74), 3), (95, .return_, 1)]
theorem xd_A_weighByWishes : xc_A_weighByWishes.all (fun q => decide (decode prog_2_method_3_code q.1 = .ok (q.2.1, q.2.2))) = true := by decide +kernel
def xc_A_leaveOut : List (Nat × Instr × Nat) := [(0, .iconst 0, 1), (1, .istore_n 2, 1), (2, .iload_n 2, 1), (3, .aload_n 0, 1), (4, .getfield 35, 3), (7, .if_icmp .ge 18, 3), (10, .aload_n 0, 1), (11, .getfield 11, 3), (14, .iload_n 1, 1), (15, .aaload, 1), (16, .iload_n 2, 1), (17, .iconst (-1), 1), (18, .iastore, 1), (19, .iinc 2 1, 3), (22, .goto (-20), 3), (25, .return_, 1)]
theorem xd_A_leaveOut : xc_A_leaveOut.all (fun q => decide (decode prog_2_method_4_code q.1 = .ok (q.2.1, q.2.2))) = true := by decide +kernel
def xc_A_workOut : List (Nat × Instr × Nat) := [(0, .iconst 1, 1), (1, .aload_n 0, 1), (2, .getfield 35, 3), (5, .ishl, 1), (6, .istore_n 1, 1), (7, .iconst 0, 1), (8, .istore_n 2, 1), (9, .iload_n 2, 1), (10, .iload_n 1, 1), (11, .if_icmp .ge 21, 3), (14, .aload_n 0, 1), (15, .getfield 16, 3), (18, .aload_n 0, 1), (19, .getfield 29, 3), (22, .aaload, 1), (23, .iload_n 2, 1), (24, .iconst 0, 1), (25, .iastore, 1), (26, .iinc 2 1, 3), (29, .goto (-20), 3), (32, .aload_n 0, 1), (33, .getfield 29, 3), (36, .iconst 1, 1), (37, .isub, 1), (38, .istore_n 2, 1), (39, .iload_n 2, 1), (40, .ifCond .lt 36, 3), (43, .iconst 0, 1), (44, .istore_n 3, 1), (45, .iload_n 3, 1), (46, .iload_n 1, 1), (47, .if_icmp .ge 23, 3), (50, .aload_n 0, 1), (51, .getfield 16, 3), (54, .iload_n 2, 1), (55, .aaload, 1), (56, .iload_n 3, 1), (57, .aload_n 0, 1), (58, .iload_n 2, 1), (59, .iload_n 3, 1), (60, .invokevirtual 55, 3), (63, .iastore, 1), (64, .iinc 3 1, 3), (67, .goto (-22), 3), (70, .iinc 2 (-1), 3), (73, .goto (-34), 3), (76, .return_, 1)]
theorem xd_A_workOut : xc_A_workOut.all (fun q => decide (decode prog_2_method_5_code q.1 = .ok (q.2.1, q.2.2))) = true := by decide +kernel
def xc_A_mostFrom : List (Nat × Instr × Nat) := [(0, .aload_n 0, 1), (1, .getfield 16, 3), (4, .iload_n 1, 1), (5, .iconst 1, 1), (6, .iadd, 1), (7, .aaload, 1), (8, .iload_n 2, 1), (9, .iaload, 1), (10, .istore_n 3, 1), (11, .iconst 0, 1), (12, .istore 4, 2), (14, .iload 4, 2), (16, .aload_n 0, 1), (17, .getfield 35, 3), (20, .if_icmp .ge 33, 3), (23, .aload_n 0, 1), (24, .iload_n 1, 1), (25, .iload 4, 2), (27, .iload_n 2, 1), (28, .invokevirtual 58, 3), (31, .ifCond .eq 16, 3), (34, .iload_n 3, 1), (35, .aload_n 0, 1), (36, .iload_n 1, 1), (37, .iload 4, 2), (39, .iload_n 2, 1), (40, .invokevirtual 62, 3), (43, .invokestatic 66, 3), (46, .istore_n 3, 1), (47, .iinc 4 1, 3), (50, .goto (-36), 3), (53, .iload_n 3, 1), (54, .ireturn, 1)]
theorem xd_A_mostFrom : xc_A_mostFrom.all (fun q => decide (decode prog_2_method_6_code q.1 = .ok (q.2.1, q.2.2))) = true := by decide +kernel
def xc_A_isFree : List (Nat × Instr × Nat) := [(0, .iload_n 3, 1), (1, .iload_n 2, 1), (2, .ishr, 1), (3, .iconst 1, 1), (4, .iand, 1), (5, .ifCond .ne 19, 3), (8, .aload_n 0, 1), (9, .getfield 11, 3), (12, .iload_n 1, 1), (13, .aaload, 1), (14, .iload_n 2, 1), (15, .iaload, 1), (16, .iconst (-1), 1), (17, .if_icmp .eq 7, 3), (20, .iconst 1, 1), (21, .goto 4, 3), (24, .iconst 0, 1), (25, .ireturn, 1)]
theorem xd_A_isFree : xc_A_isFree.all (fun q => decide (decode prog_2_method_7_code q.1 = .ok (q.2.1, q.2.2))) = true := by decide +kernel
def xc_A_comesTo : List (Nat × Instr × Nat) := [(0, .aload_n 0, 1), (1, .getfield 11, 3), (4, .iload_n 1, 1), (5, .aaload, 1), (6, .iload_n 2, 1), (7, .iaload, 1), (8, .aload_n 0, 1), (9, .getfield 16, 3), (12, .iload_n 1, 1), (13, .iconst 1, 1), (14, .iadd, 1), (15, .aaload, 1), (16, .iload_n 3, 1), (17, .iconst 1, 1), (18, .iload_n 2, 1), (19, .ishl, 1), (20, .ior, 1), (21, .iaload, 1), (22, .iadd, 1), (23, .ireturn, 1)]
theorem xd_A_comesTo : xc_A_comesTo.all (fun q => decide (decode prog_2_method_8_code q.1 = .ok (q.2.1, q.2.2))) = true := by decide +kernel
def xc_A_mostWithout : List (Nat × Instr × Nat) := [(0, .aload_n 0, 1), (1, .getfield 16, 3), (4, .iconst 0, 1), (5, .aaload, 1), (6, .iload_n 1, 1), (7, .iaload, 1), (8, .ireturn, 1)]
theorem xd_A_mostWithout : xc_A_mostWithout.all (fun q => decide (decode prog_2_method_9_code q.1 = .ok (q.2.1, q.2.2))) = true := by decide +kernel
def xc_A_assignWithout : List (Nat × Instr × Nat) := [(0, .iload_n 1, 1), (1, .istore_n 2, 1), (2, .iconst 0, 1), (3, .istore_n 3, 1), (4, .iload_n 3, 1), (5, .aload_n 0, 1), (6, .getfield 29, 3), (9, .if_icmp .ge 42, 3), (12, .aload_n 0, 1), (13, .getfield 19, 3), (16, .iload_n 3, 1), (17, .aload_n 0, 1), (18, .iload_n 3, 1), (19, .iload_n 2, 1), (20, .invokevirtual 71, 3), (23, .iastore, 1), (24, .aload_n 0, 1), (25, .getfield 19, 3), (28, .iload_n 3, 1), (29, .iaload, 1), (30, .iconst (-1), 1), (31, .if_icmp .eq 14, 3), (34, .iload_n 2, 1), (35, .iconst 1, 1), (36, .aload_n 0, 1), (37, .getfield 19, 3), (40, .iload_n 3, 1), (41, .iaload, 1), (42, .ishl, 1), (43, .ior, 1), (44, .istore_n 2, 1), (45, .iinc 3 1, 3), (48, .goto (-44), 3), (51, .return_, 1)]
theorem xd_A_assignWithout : xc_A_assignWithout.all (fun q => decide (decode prog_2_method_10_code q.1 = .ok (q.2.1, q.2.2))) = true := by decide +kernel
def xc_A_leastPart : List (Nat × Instr × Nat) := [(0, .iconst 0, 1), (1, .istore_n 3, 1), (2, .iload_n 3, 1), (3, .aload_n 0, 1), (4, .getfield 35, 3), (7, .if_icmp .ge 39, 3), (10, .aload_n 0, 1), (11, .iload_n 1, 1), (12, .iload_n 3, 1), (13, .iload_n 2, 1), (14, .invokevirtual 58, 3), (17, .ifCond .eq 23, 3), (20, .aload_n 0, 1), (21, .iload_n 1, 1), (22, .iload_n 3, 1), (23, .iload_n 2, 1), (24, .invokevirtual 62, 3), (27, .aload_n 0, 1), (28, .getfield 16, 3), (31, .iload_n 1, 1), (32, .aaload, 1), (33, .iload_n 2, 1), (34, .iaload, 1), (35, .if_icmp .ne 5, 3), (38, .iload_n 3, 1), (39, .ireturn, 1), (40, .iinc 3 1, 3), (43, .goto (-41), 3), (46, .iconst (-1), 1), (47, .ireturn, 1)]
theorem xd_A_leastPart : xc_A_leastPart.all (fun q => decide (decode prog_2_method_11_code q.1 = .ok (q.2.1, q.2.2))) = true := by decide +kernel
def xc_L_init : List (Nat × Instr × Nat) := [(0, .aload_n 0, 1), (1, .invokespecial 3, 3), (4, .aload_n 0, 1), (5, .bipush 8, 2), (7, .newarray .int, 2), (9, .putfield 11, 3), (12, .aload_n 0, 1), (13, .bipush 8, 2), (15, .newarray .int, 2), (17, .putfield 15, 3), (20, .aload_n 0, 1), (21, .bipush 8, 2), (23, .newarray .boolean, 2), (25, .putfield 18, 3), (28, .aload_n 0, 1), (29, .bipush 8, 2), (31, .newarray .int, 2), (33, .putfield 22, 3), (36, .aload_n 0, 1), (37, .iconst 4, 1), (38, .bipush 8, 2), (40, .multianewarray 25 2, 4), (44, .putfield 27, 3), (47, .aload_n 0, 1), (48, .bipush 8, 2), (50, .newarray .int, 2), (52, .putfield 30, 3), (55, .return_, 1)]
theorem xd_L_init : xc_L_init.all (fun q => decide (decode prog_4_method_1_code q.1 = .ok (q.2.1, q.2.2))) = true := by decide +kernel
def xc_L_tryAll : List (Nat × Instr × Nat) := [(0, .aload_n 0, 1), (1, .aload_n 1, 1), (2, .getfield 33, 3), (5, .putfield 39, 3), (8, .aload_n 0, 1), (9, .iconst (-1), 1), (10, .putfield 42, 3), (13, .aload_n 0, 1), (14, .iconst 0, 1), (15, .putfield 45, 3), (18, .aload_n 0, 1), (19, .aload_n 1, 1), (20, .aload_n 2, 1), (21, .iload_n 3, 1), (22, .invokevirtual 48, 3), (25, .aload_n 0, 1), (26, .aload_n 1, 1), (27, .iload_n 3, 1), (28, .invokevirtual 52, 3), (31, .aload_n 0, 1), (32, .getfield 22, 3), (35, .aload_n 0, 1), (36, .aload_n 0, 1), (37, .getfield 22, 3), (40, .invokevirtual 56, 3), (43, .iaload, 1), (44, .istore 4, 2), (46, .iconst 0, 1), (47, .istore 5, 2), (49, .iload 5, 2), (51, .aload_n 0, 1), (52, .getfield 39, 3), (55, .if_icmp .ge 80, 3), (58, .iconst 0, 1), (59, .istore 6, 2), (61, .iload 6, 2), (63, .aload_n 0, 1), (64, .getfield 39, 3), (67, .if_icmp .ge 62, 3), (70, .aload_n 0, 1), (71, .iload 5, 2), (73, .iload 6, 2), (75, .invokevirtual 60, 3), (78, .aload_n 0, 1), (79, .getfield 22, 3), (82, .aload_n 0, 1), (83, .aload_n 0, 1), (84, .getfield 30, 3), (87, .invokevirtual 56, 3), (90, .iaload, 1), (91, .iload 4, 2), (93, .isub, 1), (94, .istore 7, 2), (96, .iload 7, 2), (98, .aload_n 0, 1), (99, .getfield 45, 3), (102, .if_icmp .le 21, 3), (105, .aload_n 0, 1), (106, .iload 7, 2), (108, .putfield 45, 3), (111, .aload_n 0, 1), (112, .bipush 10, 2), (114, .iload 5, 2), (116, .imul, 1), (117, .iload 6, 2), (119, .iadd, 1), (120, .putfield 42, 3), (123, .iinc 6 1, 3), (126, .goto (-65), 3), (129, .iinc 5 1, 3), (132, .goto (-83), 3), (135, .return_, 1)]
theorem xd_L_tryAll : xc_L_tryAll.all (fun q => decide (decode prog_4_method_2_code q.1 = .ok (q.2.1, q.2.2))) = true := by decide +kernel
def xc_L_learnOthers : List (Nat × Instr × Nat) := [(0, .aload_n 2, 1), (1, .iload_n 3, 1), (2, .invokevirtual 64, 3), (5, .aload_n 2, 1), (6, .invokevirtual 70, 3), (9, .iconst 0, 1), (10, .istore 4, 2), (12, .iload 4, 2), (14, .aload_n 0, 1), (15, .getfield 39, 3), (18, .if_icmp .gt 117, 3), (21, .iload 4, 2), (23, .aload_n 0, 1), (24, .getfield 39, 3), (27, .if_icmp .ge 10, 3), (30, .iconst 1, 1), (31, .iload 4, 2), (33, .ishl, 1), (34, .goto 4, 3), (37, .iconst 0, 1), (38, .istore 5, 2), (40, .aload_n 0, 1), (41, .getfield 18, 3), (44, .iload 4, 2), (46, .iload 4, 2), (48, .aload_n 0, 1), (49, .getfield 39, 3), (52, .if_icmp .eq 13, 3), (55, .aload_n 1, 1), (56, .iload_n 3, 1), (57, .iload 4, 2), (59, .invokevirtual 73, 3), (62, .ifCond .eq 7, 3), (65, .iconst 1, 1), (66, .goto 4, 3), (69, .iconst 0, 1), (70, .bastore, 1), (71, .aload_n 0, 1), (72, .getfield 11, 3), (75, .iload 4, 2), (77, .aload_n 2, 1), (78, .iload 5, 2), (80, .invokevirtual 77, 3), (83, .iastore, 1), (84, .aload_n 2, 1), (85, .iload 5, 2), (87, .invokevirtual 81, 3), (90, .aload_n 2, 1), (91, .getfield 84, 3), (94, .iload_n 3, 1), (95, .iload 4, 2), (97, .aload_n 0, 1), (98, .getfield 39, 3), (101, .if_icmp .ge 8, 3), (104, .iload 4, 2), (106, .goto 4, 3), (109, .iconst (-1), 1), (110, .iastore, 1), (111, .aload_n 0, 1), (112, .getfield 15, 3), (115, .iload 4, 2), (117, .aload_n 2, 1), (118, .getfield 84, 3), (121, .aload_n 1, 1), (122, .getfield 87, 3), (125, .invokestatic 90, 3), (128, .iastore, 1), (129, .iinc 4 1, 3), (132, .goto (-120), 3), (135, .return_, 1)]
theorem xd_L_learnOthers : xc_L_learnOthers.all (fun q => decide (decode prog_4_method_3_code q.1 = .ok (q.2.1, q.2.2))) = true := by decide +kernel
def xc_L_rankOf : List (Nat × Instr × Nat) := [(0, .iconst 0, 1), (1, .istore_n 2, 1), (2, .iconst 0, 1), (3, .istore_n 3, 1), (4, .iload_n 3, 1), (5, .iload_n 1, 1), (6, .if_icmp .ge 30, 3), (9, .iload_n 2, 1), (10, .bipush 8, 2), (12, .imul, 1), (13, .aload_n 0, 1), (14, .iload_n 3, 1), (15, .iaload, 1), (16, .iconst (-1), 1), (17, .if_icmp .ne 8, 3), (20, .bipush 7, 2), (22, .goto 6, 3), (25, .aload_n 0, 1), (26, .iload_n 3, 1), (27, .iaload, 1), (28, .iadd, 1), (29, .istore_n 2, 1), (30, .iinc 3 1, 3), (33, .goto (-29), 3), (36, .iload_n 2, 1), (37, .ireturn, 1)]
theorem xd_L_rankOf : xc_L_rankOf.all (fun q => decide (decode prog_4_method_4_code q.1 = .ok (q.2.1, q.2.2))) = true := by decide +kernel
def xc_L_learnWorth : List (Nat × Instr × Nat) := [(0, .iconst 0, 1), (1, .istore_n 3, 1), (2, .iload_n 3, 1), (3, .aload_n 0, 1), (4, .getfield 39, 3), (7, .if_icmp .ge 53, 3), (10, .aload_n 0, 1), (11, .getfield 22, 3), (14, .iload_n 3, 1), (15, .aload_n 1, 1), (16, .iload_n 2, 1), (17, .iload_n 3, 1), (18, .invokevirtual 94, 3), (21, .iastore, 1), (22, .iconst 0, 1), (23, .istore 4, 2), (25, .iload 4, 2), (27, .iconst 3, 1), (28, .if_icmp .gt 26, 3), (31, .aload_n 0, 1), (32, .getfield 27, 3), (35, .iload 4, 2), (37, .aaload, 1), (38, .iload_n 3, 1), (39, .aload_n 1, 1), (40, .iload_n 2, 1), (41, .iload_n 3, 1), (42, .iload 4, 2), (44, .invokevirtual 98, 3), (47, .iastore, 1), (48, .iinc 4 1, 3), (51, .goto (-26), 3), (54, .iinc 3 1, 3), (57, .goto (-55), 3), (60, .aload_n 0, 1), (61, .getfield 22, 3), (64, .aload_n 0, 1), (65, .getfield 39, 3), (68, .iconst 0, 1), (69, .iastore, 1), (70, .aload_n 0, 1), (71, .getfield 30, 3), (74, .aload_n 0, 1), (75, .getfield 39, 3), (78, .iconst 0, 1), (79, .iastore, 1), (80, .return_, 1)]
theorem xd_L_learnWorth : xc_L_learnWorth.all (fun q => decide (decode prog_4_method_5_code q.1 = .ok (q.2.1, q.2.2))) = true := by decide +kernel
def xc_L_claim : List (Nat × Instr × Nat) := [(0, .iconst 0, 1), (1, .istore_n 3, 1), (2, .iload_n 3, 1), (3, .aload_n 0, 1), (4, .getfield 39, 3), (7, .if_icmp .ge 45, 3), (10, .iload_n 3, 1), (11, .iload_n 1, 1), (12, .if_icmp .ne 7, 3), (15, .iconst 3, 1), (16, .goto 13, 3), (19, .iload_n 3, 1), (20, .iload_n 2, 1), (21, .if_icmp .ne 7, 3), (24, .iconst 2, 1), (25, .goto 4, 3), (28, .iconst 0, 1), (29, .istore 4, 2), (31, .aload_n 0, 1), (32, .getfield 30, 3), (35, .iload_n 3, 1), (36, .aload_n 0, 1), (37, .getfield 27, 3), (40, .iload 4, 2), (42, .aaload, 1), (43, .iload_n 3, 1), (44, .iaload, 1), (45, .iastore, 1), (46, .iinc 3 1, 3), (49, .goto (-47), 3), (52, .return_, 1)]
theorem xd_L_claim : xc_L_claim.all (fun q => decide (decode prog_4_method_6_code q.1 = .ok (q.2.1, q.2.2))) = true := by decide +kernel
def xc_L_chosenBy : List (Nat × Instr × Nat) := [(0, .aload_n 0, 1), (1, .getfield 39, 3), (4, .istore_n 2, 1), (5, .iconst 0, 1), (6, .istore_n 3, 1), (7, .iload_n 3, 1), (8, .aload_n 0, 1), (9, .getfield 39, 3), (12, .if_icmp .ge 68, 3), (15, .aload_n 1, 1), (16, .iload_n 3, 1), (17, .iaload, 1), (18, .aload_n 0, 1), (19, .getfield 11, 3), (22, .iload_n 3, 1), (23, .iaload, 1), (24, .iadd, 1), (25, .aload_n 1, 1), (26, .iload_n 2, 1), (27, .iaload, 1), (28, .isub, 1), (29, .aload_n 0, 1), (30, .getfield 11, 3), (33, .iload_n 2, 1), (34, .iaload, 1), (35, .isub, 1), (36, .istore 4, 2), (38, .aload_n 0, 1), (39, .getfield 18, 3), (42, .iload_n 3, 1), (43, .baload, 1), (44, .ifCond .eq 30, 3), (47, .iload 4, 2), (49, .ifCond .gt 23, 3), (52, .iload 4, 2), (54, .ifCond .ne 20, 3), (57, .aload_n 0, 1), (58, .getfield 15, 3), (61, .iload_n 3, 1), (62, .iaload, 1), (63, .aload_n 0, 1), (64, .getfield 15, 3), (67, .iload_n 2, 1), (68, .iaload, 1), (69, .if_icmp .ge 5, 3), (72, .iload_n 3, 1), (73, .istore_n 2, 1), (74, .iinc 3 1, 3), (77, .goto (-70), 3), (80, .iload_n 2, 1), (81, .ireturn, 1)]
theorem xd_L_chosenBy : xc_L_chosenBy.all (fun q => decide (decode prog_4_method_7_code q.1 = .ok (q.2.1, q.2.2))) = true := by decide +kernel
def xc_V_init : List (Nat × Instr × Nat) := [(0, .aload_n 0, 1), (1, .invokespecial 3, 3), (4, .aload_n 0, 1), (5, .bipush 30, 2), (7, .newarray .int, 2), (9, .putfield 11, 3), (12, .return_, 1)]
theorem xd_V_init : xc_V_init.all (fun q => decide (decode prog_10_method_1_code q.1 = .ok (q.2.1, q.2.2))) = true := by decide +kernel
def xc_V_speak : List (Nat × Instr × Nat) := [(0, .aload_n 0, 1), (1, .iload_n 1, 1), (2, .putfield 15, 3), (5, .aload_n 0, 1), (6, .aload_n 2, 1), (7, .getfield 19, 3), (10, .putfield 24, 3), (13, .aload_n 0, 1), (14, .aload_n 2, 1), (15, .getfield 25, 3), (18, .putfield 28, 3), (21, .aload_n 0, 1), (22, .iconst 0, 1), (23, .putfield 29, 3), (26, .aload_n 0, 1), (27, .iconst 0, 1), (28, .putfield 32, 3), (31, .iload_n 3, 1), (32, .tableswitch 61 0 2 #[28, 39, 50], 28), (60, .aload_n 0, 1), (61, .aload_n 0, 1), (62, .getfield 24, 3), (65, .iload 4, 2), (67, .invokevirtual 36, 3), (70, .ireturn, 1), (71, .aload_n 0, 1), (72, .aload_n 0, 1), (73, .getfield 24, 3), (76, .iload 4, 2), (78, .invokevirtual 40, 3), (81, .ireturn, 1), (82, .aload_n 0, 1), (83, .aload_n 0, 1), (84, .getfield 24, 3), (87, .iload 4, 2), (89, .invokevirtual 43, 3), (92, .ireturn, 1), (93, .aload_n 0, 1), (94, .aload_n 0, 1), (95, .getfield 24, 3), (98, .iload 4, 2), (100, .invokevirtual 46, 3), (103, .ireturn, 1)]
theorem xd_V_speak : xc_V_speak.all (fun q => decide (decode prog_10_method_2_code q.1 = .ok (q.2.1, q.2.2))) = true := by decide +kernel
def xc_V_begin : List (Nat × Instr × Nat) := [(0, .aload_n 0, 1), (1, .getfield 29, 3), (4, .bipush 30, 2), (6, .if_icmp .ge 23, 3), (9, .aload_n 0, 1), (10, .getfield 11, 3), (13, .aload_n 0, 1), (14, .getfield 29, 3), (17, .iload_n 1, 1), (18, .iastore, 1), (19, .aload_n 0, 1), (20, .dup, 1), (21, .getfield 29, 3), (24, .iconst 1, 1), (25, .iadd, 1), (26, .putfield 29, 3), (29, .return_, 1)]
theorem xd_V_begin : xc_V_begin.all (fun q => decide (decode prog_10_method_3_code q.1 = .ok (q.2.1, q.2.2))) = true := by decide +kernel
def xc_V_above : List (Nat × Instr × Nat) := [(0, .iload_n 0, 1), (1, .ifCond .le 17, 3), (4, .iload_n 0, 1), (5, .bipush 7, 2), (7, .if_icmp .ge 11, 3), (10, .getstatic 49, 3), (13, .iload_n 0, 1), (14, .iaload, 1), (15, .goto 4, 3), (18, .iconst 0, 1), (19, .ireturn, 1)]
theorem xd_V_above : xc_V_above.all (fun q => decide (decode prog_10_method_4_code q.1 = .ok (q.2.1, q.2.2))) = true := by decide +kernel
def xc_V_says : List (Nat × Instr × Nat) := [(0, .iload_n 1, 1), (1, .tableswitch 101 0 6 #[43, 56, 101, 101, 74, 101, 92], 43), (44, .aload_n 0, 1), (45, .bipush 10, 2), (47, .invokevirtual 52, 3), (50, .iload_n 2, 1), (51, .aload_n 0, 1), (52, .getfield 15, 3), (55, .iadd, 1), (56, .ireturn, 1), (57, .aload_n 0, 1), (58, .bipush 20, 2), (60, .invokevirtual 52, 3), (63, .aload_n 0, 1), (64, .iload_n 1, 1), (65, .invokestatic 56, 3), (68, .iload_n 2, 1), (69, .invokevirtual 36, 3), (72, .iconst 4, 1), (73, .isub, 1), (74, .ireturn, 1), (75, .aload_n 0, 1), (76, .bipush 50, 2), (78, .invokevirtual 52, 3), (81, .aload_n 0, 1), (82, .iload_n 1, 1), (83, .invokestatic 56, 3), (86, .iload_n 2, 1), (87, .invokevirtual 36, 3), (90, .iconst 3, 1), (91, .imul, 1), (92, .ireturn, 1), (93, .aload_n 0, 1), (94, .bipush 70, 2), (96, .invokevirtual 52, 3), (99, .bipush 9, 2), (101, .ireturn, 1), (102, .aload_n 0, 1), (103, .iload_n 1, 1), (104, .invokestatic 56, 3), (107, .iload_n 2, 1), (108, .invokevirtual 36, 3), (111, .ireturn, 1)]
theorem xd_V_says : xc_V_says.all (fun q => decide (decode prog_10_method_5_code q.1 = .ok (q.2.1, q.2.2))) = true := by decide +kernel
def xc_V_sings : List (Nat × Instr × Nat) := [(0, .iload_n 1, 1), (1, .tableswitch 118 0 6 #[43, 118, 61, 118, 118, 79, 97], 43), (44, .aload_n 0, 1), (45, .bipush 11, 2), (47, .invokevirtual 52, 3), (50, .aload_n 0, 1), (51, .aload_n 0, 1), (52, .getfield 24, 3), (55, .iload_n 2, 1), (56, .invokevirtual 36, 3), (59, .iconst 2, 1), (60, .imul, 1), (61, .ireturn, 1), (62, .aload_n 0, 1), (63, .bipush 30, 2), (65, .invokevirtual 52, 3), (68, .iconst 0, 1), (69, .aload_n 0, 1), (70, .iload_n 1, 1), (71, .invokestatic 56, 3), (74, .iload_n 2, 1), (75, .invokevirtual 40, 3), (78, .isub, 1), (79, .ireturn, 1), (80, .aload_n 0, 1), (81, .bipush 60, 2), (83, .invokevirtual 52, 3), (86, .aload_n 0, 1), (87, .iload_n 1, 1), (88, .invokestatic 56, 3), (91, .iload_n 2, 1), (92, .iconst 1, 1), (93, .iadd, 1), (94, .invokevirtual 40, 3), (97, .ireturn, 1), (98, .aload_n 0, 1), (99, .bipush 71, 2), (101, .invokevirtual 52, 3), (104, .aload_n 0, 1), (105, .iload_n 1, 1), (106, .invokestatic 56, 3), (109, .iload_n 2, 1), (110, .invokevirtual 40, 3), (113, .aload_n 0, 1), (114, .getfield 28, 3), (117, .iadd, 1), (118, .ireturn, 1), (119, .aload_n 0, 1), (120, .iload_n 1, 1), (121, .invokestatic 56, 3), (124, .iload_n 2, 1), (125, .invokevirtual 40, 3), (128, .ireturn, 1)]
theorem xd_V_sings : xc_V_sings.all (fun q => decide (decode prog_10_method_6_code q.1 = .ok (q.2.1, q.2.2))) = true := by decide +kernel
def xc_V_waits : List (Nat × Instr × Nat) := [(0, .iload_n 1, 1), (1, .tableswitch 95 0 4 #[35, 95, 95, 56, 74], 35), (36, .aload_n 0, 1), (37, .bipush 12, 2), (39, .invokevirtual 52, 3), (42, .aload_n 0, 1), (43, .aload_n 0, 1), (44, .getfield 24, 3), (47, .iload_n 2, 1), (48, .invokevirtual 40, 3), (51, .aload_n 0, 1), (52, .getfield 28, 3), (55, .isub, 1), (56, .ireturn, 1), (57, .aload_n 0, 1), (58, .bipush 40, 2), (60, .invokevirtual 52, 3), (63, .aload_n 0, 1), (64, .iload_n 1, 1), (65, .invokestatic 56, 3), (68, .iload_n 2, 1), (69, .iconst 2, 1), (70, .idiv, 1), (71, .invokevirtual 43, 3), (74, .ireturn, 1), (75, .aload_n 0, 1), (76, .bipush 51, 2), (78, .invokevirtual 52, 3), (81, .aload_n 0, 1), (82, .iload_n 1, 1), (83, .invokestatic 56, 3), (86, .iload_n 2, 1), (87, .invokevirtual 43, 3), (90, .aload_n 0, 1), (91, .getfield 15, 3), (94, .ixor, 1), (95, .ireturn, 1), (96, .aload_n 0, 1), (97, .iload_n 1, 1), (98, .invokestatic 56, 3), (101, .iload_n 2, 1), (102, .invokevirtual 43, 3), (105, .ireturn, 1)]
theorem xd_V_waits : xc_V_waits.all (fun q => decide (decode prog_10_method_7_code q.1 = .ok (q.2.1, q.2.2))) = true := by decide +kernel
def xc_V_parts : List (Nat × Instr × Nat) := [(0, .iload_n 1, 1), (1, .lookupswitch 115 #[(0, 27), (1, 76)], 27), (28, .aload_n 0, 1), (29, .bipush 13, 2), (31, .invokevirtual 52, 3), (34, .aload_n 0, 1), (35, .aload_n 0, 1), (36, .getfield 28, 3), (39, .aload_n 0, 1), (40, .getfield 15, 3), (43, .if_icmp .ne 7, 3), (46, .iconst 1, 1), (47, .goto 4, 3), (50, .iconst 0, 1), (51, .putfield 32, 3), (54, .aload_n 0, 1), (55, .getfield 32, 3), (58, .ifCond .eq 7, 3), (61, .iconst 0, 1), (62, .goto 14, 3), (65, .iload_n 2, 1), (66, .aload_n 0, 1), (67, .getfield 28, 3), (70, .aload_n 0, 1), (71, .getfield 15, 3), (74, .isub, 1), (75, .idiv, 1), (76, .ireturn, 1), (77, .aload_n 0, 1), (78, .bipush 21, 2), (80, .invokevirtual 52, 3), (83, .aload_n 0, 1), (84, .iload_n 1, 1), (85, .invokestatic 56, 3), (88, .iload_n 2, 1), (89, .invokevirtual 46, 3), (92, .istore_n 3, 1), (93, .aload_n 0, 1), (94, .getfield 32, 3), (97, .ifCond .eq 7, 3), (100, .iconst 0, 1), (101, .goto 14, 3), (104, .iload_n 3, 1), (105, .aload_n 0, 1), (106, .aload_n 0, 1), (107, .getfield 24, 3), (110, .iconst 1, 1), (111, .invokevirtual 40, 3), (114, .iadd, 1), (115, .ireturn, 1), (116, .aload_n 0, 1), (117, .iload_n 1, 1), (118, .invokestatic 56, 3), (121, .iload_n 2, 1), (122, .invokevirtual 46, 3), (125, .ireturn, 1)]
theorem xd_V_parts : xc_V_parts.all (fun q => decide (decode prog_10_method_8_code q.1 = .ok (q.2.1, q.2.2))) = true := by decide +kernel
def xc_H_init : List (Nat × Instr × Nat) := [(0, .aload_n 0, 1), (1, .invokespecial 3, 3), (4, .aload_n 0, 1), (5, .bipush 24, 2), (7, .newarray .int, 2), (9, .putfield 9, 3), (12, .return_, 1)]
theorem xd_H_init : xc_H_init.all (fun q => decide (decode prog_7_method_1_code q.1 = .ok (q.2.1, q.2.2))) = true := by decide +kernel
def xc_H_clearTo : List (Nat × Instr × Nat) := [(0, .aload_n 0, 1), (1, .iload_n 1, 1), (2, .putfield 15, 3), (5, .aload_n 0, 1), (6, .iload_n 2, 1), (7, .putfield 19, 3), (10, .iconst 0, 1), (11, .istore_n 3, 1), (12, .iload_n 3, 1), (13, .bipush 24, 2), (15, .if_icmp .ge 16, 3), (18, .aload_n 0, 1), (19, .getfield 9, 3), (22, .iload_n 3, 1), (23, .iconst 0, 1), (24, .iastore, 1), (25, .iinc 3 1, 3), (28, .goto (-16), 3), (31, .return_, 1)]
theorem xd_H_clearTo : xc_H_clearTo.all (fun q => decide (decode prog_7_method_2_code q.1 = .ok (q.2.1, q.2.2))) = true := by decide +kernel
def xc_H_lowestBits : List (Nat × Instr × Nat) := [(0, .aload_n 0, 1), (1, .getfield 15, 3), (4, .bipush 8, 2), (6, .if_icmp .ne 6, 3), (9, .iload_n 1, 1), (10, .i2b, 1), (11, .ireturn, 1), (12, .aload_n 0, 1), (13, .getfield 15, 3), (16, .bipush 16, 2), (18, .if_icmp .ne 8, 3), (21, .iload_n 1, 1), (22, .i2s, 1), (23, .goto 4, 3), (26, .iload_n 1, 1), (27, .ireturn, 1)]
theorem xd_H_lowestBits : xc_H_lowestBits.all (fun q => decide (decode prog_7_method_3_code q.1 = .ok (q.2.1, q.2.2))) = true := by decide +kernel
def xc_H_hasRun : List (Nat × Instr × Nat) := [(0, .iload_n 1, 1), (1, .ifCond .lt 29, 3), (4, .iload_n 2, 1), (5, .ifCond .lt 25, 3), (8, .iload_n 2, 1), (9, .aload_n 0, 1), (10, .getfield 19, 3), (13, .if_icmp .gt 17, 3), (16, .iload_n 1, 1), (17, .aload_n 0, 1), (18, .getfield 19, 3), (21, .iload_n 2, 1), (22, .isub, 1), (23, .if_icmp .gt 7, 3), (26, .iconst 1, 1), (27, .goto 4, 3), (30, .iconst 0, 1), (31, .ireturn, 1)]
theorem xd_H_hasRun : xc_H_hasRun.all (fun q => decide (decode prog_7_method_4_code q.1 = .ok (q.2.1, q.2.2))) = true := by decide +kernel
def xc_H_startsLike : List (Nat × Instr × Nat) := [(0, .aload_n 0, 1), (1, .getfield 19, 3), (4, .iload_n 2, 1), (5, .if_icmp .gt 12, 3), (8, .aload_n 0, 1), (9, .getfield 19, 3), (12, .aload_n 1, 1), (13, .arraylength, 1), (14, .if_icmp .le 5, 3), (17, .iconst 0, 1), (18, .ireturn, 1), (19, .iconst 0, 1), (20, .istore_n 3, 1), (21, .iload_n 3, 1), (22, .aload_n 0, 1), (23, .getfield 19, 3), (26, .if_icmp .ge 23, 3), (29, .aload_n 0, 1), (30, .getfield 9, 3), (33, .iload_n 3, 1), (34, .iaload, 1), (35, .aload_n 1, 1), (36, .iload_n 3, 1), (37, .iaload, 1), (38, .if_icmp .eq 5, 3), (41, .iconst 0, 1), (42, .ireturn, 1), (43, .iinc 3 1, 3), (46, .goto (-25), 3), (49, .iconst 1, 1), (50, .ireturn, 1)]
theorem xd_H_startsLike : xc_H_startsLike.all (fun q => decide (decode prog_7_method_5_code q.1 = .ok (q.2.1, q.2.2))) = true := by decide +kernel
def xc_M_init : List (Nat × Instr × Nat) := [(0, .aload_n 0, 1), (1, .invokespecial 3, 3), (4, .aload_n 0, 1), (5, .sipush 410, 3), (8, .newarray .int, 2), (10, .putfield 9, 3), (13, .aload_n 0, 1), (14, .sipush 410, 3), (17, .newarray .int, 2), (19, .putfield 13, 3), (22, .aload_n 0, 1), (23, .sipush 410, 3), (26, .newarray .int, 2), (28, .putfield 16, 3), (31, .aload_n 0, 1), (32, .bipush 7, 2), (34, .newarray .int, 2), (36, .putfield 19, 3), (39, .aload_n 0, 1), (40, .iconst 4, 1), (41, .newarray .int, 2), (43, .putfield 22, 3), (46, .aload_n 0, 1), (47, .iconst 4, 1), (48, .newarray .int, 2), (50, .putfield 25, 3), (53, .aload_n 0, 1), (54, .bipush 96, 2), (56, .newarray .int, 2), (58, .putfield 28, 3), (61, .aload_n 0, 1), (62, .bipush 60, 2), (64, .newarray .int, 2), (66, .putfield 31, 3), (69, .aload_n 0, 1), (70, .bipush 60, 2), (72, .newarray .int, 2), (74, .putfield 34, 3), (77, .aload_n 0, 1), (78, .iconst 3, 1), (79, .newarray .int, 2), (81, .putfield 37, 3), (84, .aload_n 0, 1), (85, .bipush 60, 2), (87, .newarray .int, 2), (89, .putfield 40, 3), (92, .aload_n 0, 1), (93, .sipush 1024, 3), (96, .newarray .int, 2), (98, .putfield 43, 3), (101, .aload_n 0, 1), (102, .bipush 49, 2), (104, .newarray .int, 2), (106, .putfield 46, 3), (109, .aload_n 0, 1), (110, .bipush 7, 2), (112, .newarray .int, 2), (114, .putfield 49, 3), (117, .aload_n 0, 1), (118, .bipush 7, 2), (120, .newarray .int, 2), (122, .putfield 52, 3), (125, .aload_n 0, 1), (126, .bipush 30, 2), (128, .newarray .int, 2), (130, .putfield 55, 3), (133, .aload_n 0, 1), (134, .getfield 9, 3), (137, .iconst 1, 1), (138, .iconst 1, 1), (139, .iastore, 1), (140, .return_, 1)]
theorem xd_M_init : xc_M_init.all (fun q => decide (decode prog_12_method_1_code q.1 = .ok (q.2.1, q.2.2))) = true := by decide +kernel
def xc_M_error : List (Nat × Instr × Nat) := [(0, .aload_n 0, 1), (1, .getfield 19, 3), (4, .ldc 58, 2), (6, .iload_n 1, 1), (7, .isub, 1), (8, .dup2, 1), (9, .iaload, 1), (10, .iconst 1, 1), (11, .iadd, 1), (12, .iastore, 1), (13, .iload_n 1, 1), (14, .ireturn, 1)]
theorem xd_M_error : xc_M_error.all (fun q => decide (decode prog_12_method_2_code q.1 = .ok (q.2.1, q.2.2))) = true := by decide +kernel
def xc_M_in : List (Nat × Instr × Nat) := [(0, .iload_n 0, 1), (1, .iload_n 1, 1), (2, .if_icmp .lt 12, 3), (5, .iload_n 0, 1), (6, .iload_n 2, 1), (7, .if_icmp .gt 7, 3), (10, .iconst 1, 1), (11, .goto 4, 3), (14, .iconst 0, 1), (15, .ireturn, 1)]
theorem xd_M_in : xc_M_in.all (fun q => decide (decode prog_12_method_3_code q.1 = .ok (q.2.1, q.2.2))) = true := by decide +kernel
def xc_M_held : List (Nat × Instr × Nat) := [(0, .iload_n 0, 1), (1, .iload_n 1, 1), (2, .if_icmp .ge 7, 3), (5, .iload_n 1, 1), (6, .goto 13, 3), (9, .iload_n 0, 1), (10, .iload_n 2, 1), (11, .if_icmp .le 7, 3), (14, .iload_n 2, 1), (15, .goto 4, 3), (18, .iload_n 0, 1), (19, .ireturn, 1)]
theorem xd_M_held : xc_M_held.all (fun q => decide (decode prog_12_method_4_code q.1 = .ok (q.2.1, q.2.2))) = true := by decide +kernel
def xc_M_copyAll : List (Nat × Instr × Nat) := [(0, .iconst 0, 1), (1, .istore_n 2, 1), (2, .iload_n 2, 1), (3, .sipush 410, 3), (6, .if_icmp .ge 15, 3), (9, .aload_n 1, 1), (10, .iload_n 2, 1), (11, .aload_n 0, 1), (12, .iload_n 2, 1), (13, .iaload, 1), (14, .iastore, 1), (15, .iinc 2 1, 3), (18, .goto (-16), 3), (21, .return_, 1)]
theorem xd_M_copyAll : xc_M_copyAll.all (fun q => decide (decode prog_12_method_5_code q.1 = .ok (q.2.1, q.2.2))) = true := by decide +kernel
def xc_M_thinks : List (Nat × Instr × Nat) := [(0, .aload_n 0, 1), (1, .getfield 9, 3), (4, .aload_n 0, 1), (5, .getfield 16, 3), (8, .invokestatic 59, 3), (11, .return_, 1)]
theorem xd_M_thinks : xc_M_thinks.all (fun q => decide (decode prog_12_method_6_code q.1 = .ok (q.2.1, q.2.2))) = true := by decide +kernel
def xc_M_putsBack : List (Nat × Instr × Nat) := [(0, .aload_n 0, 1), (1, .getfield 16, 3), (4, .aload_n 0, 1), (5, .getfield 9, 3), (8, .invokestatic 59, 3), (11, .return_, 1)]
theorem xd_M_putsBack : xc_M_putsBack.all (fun q => decide (decode prog_12_method_7_code q.1 = .ok (q.2.1, q.2.2))) = true := by decide +kernel
def xc_M_bits : List (Nat × Instr × Nat) := [(0, .iconst 0, 1), (1, .istore_n 1, 1), (2, .iload_n 0, 1), (3, .istore_n 2, 1), (4, .iload_n 2, 1), (5, .ifCond .eq 15, 3), (8, .iinc 1 1, 3), (11, .iload_n 2, 1), (12, .iload_n 2, 1), (13, .iconst 1, 1), (14, .isub, 1), (15, .iand, 1), (16, .istore_n 2, 1), (17, .goto (-13), 3), (20, .iload_n 1, 1), (21, .ireturn, 1)]
theorem xd_M_bits : xc_M_bits.all (fun q => decide (decode prog_12_method_8_code q.1 = .ok (q.2.1, q.2.2))) = true := by decide +kernel
def xc_M_isPart : List (Nat × Instr × Nat) := [(0, .iload_n 1, 1), (1, .iconst 0, 1), (2, .aload_n 0, 1), (3, .getfield 9, 3), (6, .iconst 2, 1), (7, .iaload, 1), (8, .iconst 1, 1), (9, .isub, 1), (10, .invokestatic 63, 3), (13, .ireturn, 1)]
theorem xd_M_isPart : xc_M_isPart.all (fun q => decide (decode prog_12_method_9_code q.1 = .ok (q.2.1, q.2.2))) = true := by decide +kernel
def xc_M_isChild : List (Nat × Instr × Nat) := [(0, .iload_n 1, 1), (1, .iconst 0, 1), (2, .aload_n 0, 1), (3, .getfield 9, 3), (6, .iconst 3, 1), (7, .iaload, 1), (8, .iconst 1, 1), (9, .isub, 1), (10, .invokestatic 63, 3), (13, .ireturn, 1)]
theorem xd_M_isChild : xc_M_isChild.all (fun q => decide (decode prog_12_method_10_code q.1 = .ok (q.2.1, q.2.2))) = true := by decide +kernel
def xc_M_becomes : List (Nat × Instr × Nat) := [(0, .aload_n 0, 1), (1, .getfield 9, 3), (4, .iload_n 1, 1), (5, .iaload, 1), (6, .istore_n 3, 1), (7, .aload_n 0, 1), (8, .getfield 9, 3), (11, .iload_n 1, 1), (12, .iload_n 2, 1), (13, .iastore, 1), (14, .iload_n 3, 1), (15, .ireturn, 1)]
theorem xd_M_becomes : xc_M_becomes.all (fun q => decide (decode prog_12_method_11_code q.1 = .ok (q.2.1, q.2.2))) = true := by decide +kernel
def xc_M_of : List (Nat × Instr × Nat) := [(0, .aload_n 0, 1), (1, .getfield 9, 3), (4, .bipush 7, 2), (6, .iconst 2, 1), (7, .iload_n 1, 1), (8, .imul, 1), (9, .iadd, 1), (10, .iload_n 2, 1), (11, .iadd, 1), (12, .iaload, 1), (13, .ireturn, 1)]
theorem xd_M_of : xc_M_of.all (fun q => decide (decode prog_12_method_12_code q.1 = .ok (q.2.1, q.2.2))) = true := by decide +kernel
def xc_M_about : List (Nat × Instr × Nat) := [(0, .aload_n 0, 1), (1, .getfield 9, 3), (4, .bipush 21, 2), (6, .bipush 9, 2), (8, .iload_n 1, 1), (9, .imul, 1), (10, .iadd, 1), (11, .iload_n 2, 1), (12, .iadd, 1), (13, .iaload, 1), (14, .ireturn, 1)]
theorem xd_M_about : xc_M_about.all (fun q => decide (decode prog_12_method_13_code q.1 = .ok (q.2.1, q.2.2))) = true := by decide +kernel
def xc_M_lets : List (Nat × Instr × Nat) := [(0, .aload_n 0, 1), (1, .getfield 9, 3), (4, .bipush 21, 2), (6, .bipush 9, 2), (8, .iload_n 1, 1), (9, .imul, 1), (10, .iadd, 1), (11, .iload_n 2, 1), (12, .iadd, 1), (13, .iload_n 3, 1), (14, .iastore, 1), (15, .return_, 1)]
theorem xd_M_lets : xc_M_lets.all (fun q => decide (decode prog_12_method_14_code q.1 = .ok (q.2.1, q.2.2))) = true := by decide +kernel
def xc_M_mayPlay : List (Nat × Instr × Nat) := [(0, .aload_n 0, 1), (1, .iload_n 2, 1), (2, .iconst 1, 1), (3, .invokevirtual 67, 3), (6, .istore_n 3, 1), (7, .aload_n 0, 1), (8, .iload_n 1, 1), (9, .iconst 1, 1), (10, .invokevirtual 71, 3), (13, .istore 4, 2), (15, .aload_n 0, 1), (16, .iload_n 1, 1), (17, .iconst 3, 1), (18, .invokevirtual 71, 3), (21, .iconst 1, 1), (22, .if_icmp .ne 5, 3), (25, .iconst 0, 1), (26, .ireturn, 1), (27, .aload_n 0, 1), (28, .iload_n 2, 1), (29, .iconst 0, 1), (30, .invokevirtual 67, 3), (33, .tableswitch 133 1 6 #[39, 55, 133, 67, 92, 112], 39), (72, .aload_n 0, 1), (73, .iload_n 1, 1), (74, .iconst 0, 1), (75, .invokevirtual 71, 3), (78, .iload_n 3, 1), (79, .if_icmp .lt 7, 3), (82, .iconst 1, 1), (83, .goto 4, 3), (86, .iconst 0, 1), (87, .ireturn, 1), (88, .iload 4, 2), (90, .iload_n 3, 1), (91, .if_icmp .gt 7, 3), (94, .iconst 1, 1), (95, .goto 4, 3), (98, .iconst 0, 1), (99, .ireturn, 1), (100, .aload_n 0, 1), (101, .iload_n 1, 1), (102, .iconst 0, 1), (103, .invokevirtual 71, 3), (106, .iload_n 3, 1), (107, .if_icmp .lt 16, 3), (110, .aload_n 0, 1), (111, .iload_n 1, 1), (112, .iconst 2, 1), (113, .invokevirtual 71, 3), (116, .ifCond .ne 7, 3), (119, .iconst 1, 1), (120, .goto 4, 3), (123, .iconst 0, 1), (124, .ireturn, 1), (125, .iload 4, 2), (127, .iload_n 3, 1), (128, .if_icmp .gt 15, 3), (131, .iload 4, 2), (133, .iload_n 3, 1), (134, .iconst 2, 1), (135, .idiv, 1), (136, .if_icmp .le 7, 3), (139, .iconst 1, 1), (140, .goto 4, 3), (143, .iconst 0, 1), (144, .ireturn, 1), (145, .aload_n 0, 1), (146, .iload_n 1, 1), (147, .iconst 2, 1), (148, .invokevirtual 71, 3), (151, .iconst 1, 1), (152, .if_icmp .eq 8, 3), (155, .iload_n 3, 1), (156, .iconst 4, 1), (157, .if_icmp .le 7, 3), (160, .iconst 1, 1), (161, .goto 4, 3), (164, .iconst 0, 1), (165, .ireturn, 1), (166, .iconst 1, 1), (167, .ireturn, 1)]
theorem xd_M_mayPlay : xc_M_mayPlay.all (fun q => decide (decode prog_12_method_15_code q.1 = .ok (q.2.1, q.2.2))) = true := by decide +kernel
def xc_M_linesOf : List (Nat × Instr × Nat) := [(0, .aload_n 0, 1), (1, .iload_n 1, 1), (2, .iconst 1, 1), (3, .invokevirtual 67, 3), (6, .istore_n 2, 1), (7, .aload_n 0, 1), (8, .iload_n 1, 1), (9, .iconst 0, 1), (10, .invokevirtual 67, 3), (13, .tableswitch 72 1 6 #[39, 45, 70, 49, 64, 70], 39), (52, .iconst 2, 1), (53, .iload_n 2, 1), (54, .imul, 1), (55, .iconst 1, 1), (56, .iadd, 1), (57, .ireturn, 1), (58, .iload_n 2, 1), (59, .iconst 2, 1), (60, .idiv, 1), (61, .ireturn, 1), (62, .iconst 2, 1), (63, .iload_n 2, 1), (64, .imul, 1), (65, .iconst 1, 1), (66, .iadd, 1), (67, .aload_n 0, 1), (68, .getfield 9, 3), (71, .iconst 0, 1), (72, .iaload, 1), (73, .iconst 3, 1), (74, .irem, 1), (75, .iadd, 1), (76, .ireturn, 1), (77, .iload_n 2, 1), (78, .iconst 2, 1), (79, .idiv, 1), (80, .iconst 1, 1), (81, .iadd, 1), (82, .ireturn, 1), (83, .iconst 0, 1), (84, .ireturn, 1), (85, .iload_n 2, 1), (86, .ireturn, 1)]
theorem xd_M_linesOf : xc_M_linesOf.all (fun q => decide (decode prog_12_method_16_code q.1 = .ok (q.2.1, q.2.2))) = true := by decide +kernel
def xc_M_dearTo : List (Nat × Instr × Nat) := [(0, .iconst 0, 1), (1, .istore_n 3, 1), (2, .iload_n 3, 1), (3, .iconst 3, 1), (4, .if_icmp .ge 26, 3), (7, .aload_n 0, 1), (8, .iload_n 1, 1), (9, .bipush 6, 2), (11, .iload_n 3, 1), (12, .iadd, 1), (13, .invokevirtual 71, 3), (16, .iload_n 2, 1), (17, .if_icmp .ne 7, 3), (20, .iconst 3, 1), (21, .iload_n 3, 1), (22, .isub, 1), (23, .ireturn, 1), (24, .iinc 3 1, 3), (27, .goto (-25), 3), (30, .iconst 0, 1), (31, .ireturn, 1)]
theorem xd_M_dearTo : xc_M_dearTo.all (fun q => decide (decode prog_12_method_17_code q.1 = .ok (q.2.1, q.2.2))) = true := by decide +kernel
def xc_M_worthTo : List (Nat × Instr × Nat) := [(0, .aload_n 0, 1), (1, .iconst 0, 1), (2, .aload_n 0, 1), (3, .iload_n 1, 1), (4, .iload_n 2, 1), (5, .invokevirtual 74, 3), (8, .aload_n 0, 1), (9, .iload_n 1, 1), (10, .iconst 4, 1), (11, .invokevirtual 71, 3), (14, .iload_n 2, 1), (15, .if_icmp .ne 7, 3), (18, .iconst 1, 1), (19, .goto 4, 3), (22, .iconst 0, 1), (23, .aload_n 0, 1), (24, .iload_n 1, 1), (25, .iconst 0, 1), (26, .invokevirtual 71, 3), (29, .invokevirtual 77, 3), (32, .ireturn, 1)]
theorem xd_M_worthTo : xc_M_worthTo.all (fun q => decide (decode prog_12_method_18_code q.1 = .ok (q.2.1, q.2.2))) = true := by decide +kernel
def xc_M_joyOf : List (Nat × Instr × Nat) := [(0, .aload_n 0, 1), (1, .iload_n 1, 1), (2, .iconst 5, 1), (3, .invokevirtual 71, 3), (6, .istore_n 2, 1), (7, .aload_n 0, 1), (8, .iconst 1, 1), (9, .iload_n 2, 1), (10, .ifCond .ge 7, 3), (13, .iconst 0, 1), (14, .goto 9, 3), (17, .aload_n 0, 1), (18, .iload_n 1, 1), (19, .iload_n 2, 1), (20, .invokevirtual 81, 3), (23, .aload_n 0, 1), (24, .iload_n 1, 1), (25, .iconst 2, 1), (26, .invokevirtual 71, 3), (29, .aload_n 0, 1), (30, .getfield 9, 3), (33, .iconst 0, 1), (34, .iaload, 1), (35, .bipush 7, 2), (37, .irem, 1), (38, .invokevirtual 77, 3), (41, .ireturn, 1)]
theorem xd_M_joyOf : xc_M_joyOf.all (fun q => decide (decode prog_12_method_19_code q.1 = .ok (q.2.1, q.2.2))) = true := by decide +kernel
def xc_M_joyOfAll : List (Nat × Instr × Nat) := [(0, .iconst 0, 1), (1, .istore_n 1, 1), (2, .iconst 0, 1), (3, .istore_n 2, 1), (4, .iload_n 2, 1), (5, .aload_n 0, 1), (6, .getfield 9, 3), (9, .iconst 3, 1), (10, .iaload, 1), (11, .if_icmp .ge 17, 3), (14, .iload_n 1, 1), (15, .aload_n 0, 1), (16, .iload_n 2, 1), (17, .invokevirtual 84, 3), (20, .iadd, 1), (21, .istore_n 1, 1), (22, .iinc 2 1, 3), (25, .goto (-21), 3), (28, .iload_n 1, 1), (29, .ireturn, 1)]
theorem xd_M_joyOfAll : xc_M_joyOfAll.all (fun q => decide (decode prog_12_method_20_code q.1 = .ok (q.2.1, q.2.2))) = true := by decide +kernel
def xc_M_whoHas : List (Nat × Instr × Nat) := [(0, .iconst 0, 1), (1, .istore_n 2, 1), (2, .iload_n 2, 1), (3, .aload_n 0, 1), (4, .getfield 9, 3), (7, .iconst 3, 1), (8, .iaload, 1), (9, .if_icmp .ge 21, 3), (12, .aload_n 0, 1), (13, .iload_n 2, 1), (14, .iconst 5, 1), (15, .invokevirtual 71, 3), (18, .iload_n 1, 1), (19, .if_icmp .ne 5, 3), (22, .iload_n 2, 1), (23, .ireturn, 1), (24, .iinc 2 1, 3), (27, .goto (-25), 3), (30, .iconst (-1), 1), (31, .ireturn, 1)]
theorem xd_M_whoHas : xc_M_whoHas.all (fun q => decide (decode prog_12_method_21_code q.1 = .ok (q.2.1, q.2.2))) = true := by decide +kernel
def xc_M_isKm : List (Nat × Instr × Nat) := [(0, .iload_n 0, 1), (1, .iconst 0, 1), (2, .bipush 69, 2), (4, .invokestatic 63, 3), (7, .ireturn, 1)]
theorem xd_M_isKm : xc_M_isKm.all (fun q => decide (decode prog_12_method_22_code q.1 = .ok (q.2.1, q.2.2))) = true := by decide +kernel
def xc_M_part : List (Nat × Instr × Nat) := [(0, .iload_n 1, 1), (1, .invokestatic 88, 3), (4, .ifCond .ne 10, 3), (7, .aload_n 0, 1), (8, .ldc 92, 2), (10, .invokevirtual 93, 3), (13, .ireturn, 1), (14, .aload_n 0, 1), (15, .getfield 9, 3), (18, .iconst 2, 1), (19, .iaload, 1), (20, .istore_n 2, 1), (21, .iload_n 2, 1), (22, .bipush 7, 2), (24, .if_icmp .ne 10, 3), (27, .aload_n 0, 1), (28, .ldc 96, 2), (30, .invokevirtual 93, 3), (33, .ireturn, 1), (34, .aload_n 0, 1), (35, .getfield 9, 3), (38, .iconst 2, 1), (39, .dup2, 1), (40, .iaload, 1), (41, .iconst 1, 1), (42, .iadd, 1), (43, .iastore, 1), (44, .aload_n 0, 1), (45, .getfield 9, 3), (48, .bipush 7, 2), (50, .iconst 2, 1), (51, .iload_n 2, 1), (52, .imul, 1), (53, .iadd, 1), (54, .iload_n 1, 1), (55, .bipush 10, 2), (57, .idiv, 1), (58, .iastore, 1), (59, .aload_n 0, 1), (60, .getfield 9, 3), (63, .bipush 7, 2), (65, .iconst 2, 1), (66, .iload_n 2, 1), (67, .imul, 1), (68, .iadd, 1), (69, .iconst 1, 1), (70, .iadd, 1), (71, .iload_n 1, 1), (72, .bipush 10, 2), (74, .irem, 1), (75, .iastore, 1), (76, .iload_n 2, 1), (77, .ireturn, 1)]
theorem xd_M_part : xc_M_part.all (fun q => decide (decode prog_12_method_23_code q.1 = .ok (q.2.1, q.2.2))) = true := by decide +kernel
def xc_M_whoMay : List (Nat × Instr × Nat) := [(0, .iconst 0, 1), (1, .istore_n 2, 1), (2, .iconst 0, 1), (3, .istore_n 3, 1), (4, .iload_n 3, 1), (5, .aload_n 0, 1), (6, .getfield 9, 3), (9, .iconst 3, 1), (10, .iaload, 1), (11, .if_icmp .ge 28, 3), (14, .iload_n 2, 1), (15, .aload_n 0, 1), (16, .iload_n 3, 1), (17, .iload_n 1, 1), (18, .invokevirtual 97, 3), (21, .ifCond .eq 9, 3), (24, .iconst 1, 1), (25, .iload_n 3, 1), (26, .ishl, 1), (27, .goto 4, 3), (30, .iconst 0, 1), (31, .ior, 1), (32, .istore_n 2, 1), (33, .iinc 3 1, 3), (36, .goto (-32), 3), (39, .iload_n 2, 1), (40, .ireturn, 1)]
theorem xd_M_whoMay : xc_M_whoMay.all (fun q => decide (decode prog_12_method_24_code q.1 = .ok (q.2.1, q.2.2))) = true := by decide +kernel
def xc_M_partIs : List (Nat × Instr × Nat) := [(0, .aload_n 0, 1), (1, .iload_n 1, 1), (2, .invokevirtual 101, 3), (5, .ifCond .ne 10, 3), (8, .aload_n 0, 1), (9, .ldc 92, 2), (11, .invokevirtual 93, 3), (14, .ireturn, 1), (15, .iload_n 2, 1), (16, .tableswitch 61 0 4 #[36, 36, 43, 49, 55], 36), (52, .aload_n 0, 1), (53, .iload_n 1, 1), (54, .iload_n 2, 1), (55, .invokevirtual 67, 3), (58, .ireturn, 1), (59, .aload_n 0, 1), (60, .iload_n 1, 1), (61, .invokevirtual 104, 3), (64, .ireturn, 1), (65, .aload_n 0, 1), (66, .iload_n 1, 1), (67, .invokevirtual 107, 3), (70, .ireturn, 1), (71, .aload_n 0, 1), (72, .iload_n 1, 1), (73, .invokevirtual 110, 3), (76, .ireturn, 1), (77, .aload_n 0, 1), (78, .ldc 92, 2), (80, .invokevirtual 93, 3), (83, .ireturn, 1)]
theorem xd_M_partIs : xc_M_partIs.all (fun q => decide (decode prog_12_method_25_code q.1 = .ok (q.2.1, q.2.2))) = true := by decide +kernel
def xc_M_become : List (Nat × Instr × Nat) := [(0, .aload_n 0, 1), (1, .iload_n 1, 1), (2, .invokevirtual 101, 3), (5, .ifCond .eq 10, 3), (8, .iload_n 2, 1), (9, .invokestatic 88, 3), (12, .ifCond .ne 10, 3), (15, .aload_n 0, 1), (16, .ldc 92, 2), (18, .invokevirtual 93, 3), (21, .ireturn, 1), (22, .aload_n 0, 1), (23, .getfield 9, 3), (26, .bipush 7, 2), (28, .iconst 2, 1), (29, .iload_n 1, 1), (30, .imul, 1), (31, .iadd, 1), (32, .iconst 1, 1), (33, .iadd, 1), (34, .iload_n 2, 1), (35, .bipush 10, 2), (37, .irem, 1), (38, .iastore, 1), (39, .aload_n 0, 1), (40, .bipush 7, 2), (42, .iconst 2, 1), (43, .iload_n 1, 1), (44, .imul, 1), (45, .iadd, 1), (46, .iload_n 2, 1), (47, .bipush 10, 2), (49, .idiv, 1), (50, .invokevirtual 113, 3), (53, .ireturn, 1)]
theorem xd_M_become : xc_M_become.all (fun q => decide (decode prog_12_method_26_code q.1 = .ok (q.2.1, q.2.2))) = true := by decide +kernel
def xc_M_as : List (Nat × Instr × Nat) := [(0, .aload_n 0, 1), (1, .iload_n 1, 1), (2, .invokevirtual 101, 3), (5, .ifCond .eq 13, 3), (8, .iload_n 2, 1), (9, .iconst 0, 1), (10, .bipush 6, 2), (12, .invokestatic 63, 3), (15, .ifCond .ne 10, 3), (18, .aload_n 0, 1), (19, .ldc 92, 2), (21, .invokevirtual 93, 3), (24, .ireturn, 1), (25, .aload_n 0, 1), (26, .iload_n 1, 1), (27, .iconst 0, 1), (28, .invokevirtual 67, 3), (31, .istore_n 3, 1), (32, .iload_n 2, 1), (33, .ifCond .eq 28, 3), (36, .iload_n 2, 1), (37, .iload_n 3, 1), (38, .if_icmp .eq 23, 3), (41, .iload_n 2, 1), (42, .iconst 1, 1), (43, .if_icmp .ne 8, 3), (46, .iload_n 3, 1), (47, .iconst 4, 1), (48, .if_icmp .eq 13, 3), (51, .iload_n 2, 1), (52, .iconst 2, 1), (53, .if_icmp .ne 12, 3), (56, .iload_n 3, 1), (57, .iconst 5, 1), (58, .if_icmp .ne 7, 3), (61, .iconst 1, 1), (62, .goto 4, 3), (65, .iconst 0, 1), (66, .istore 4, 2), (68, .iload 4, 2), (70, .ifCond .eq 12, 3), (73, .aload_n 0, 1), (74, .iload_n 1, 1), (75, .iconst 1, 1), (76, .invokevirtual 67, 3), (79, .goto 9, 3), (82, .aload_n 0, 1), (83, .ldc 116, 2), (85, .invokevirtual 93, 3), (88, .ireturn, 1)]
theorem xd_M_as : xc_M_as.all (fun q => decide (decode prog_12_method_27_code q.1 = .ok (q.2.1, q.2.2))) = true := by decide +kernel
def xc_M_child : List (Nat × Instr × Nat) := [(0, .iload_n 1, 1), (1, .iconst 0, 1), (2, .bipush 9, 2), (4, .invokestatic 63, 3), (7, .ifCond .eq 22, 3), (10, .iload_n 2, 1), (11, .iconst 1, 1), (12, .bipush 9, 2), (14, .invokestatic 63, 3), (17, .ifCond .eq 12, 3), (20, .iload_n 3, 1), (21, .iconst 0, 1), (22, .iconst 1, 1), (23, .invokestatic 63, 3), (26, .ifCond .ne 10, 3), (29, .aload_n 0, 1), (30, .ldc 92, 2), (32, .invokevirtual 93, 3), (35, .ireturn, 1), (36, .aload_n 0, 1), (37, .getfield 9, 3), (40, .iconst 3, 1), (41, .iaload, 1), (42, .istore 4, 2), (44, .iload 4, 2), (46, .bipush 7, 2), (48, .if_icmp .ne 10, 3), (51, .aload_n 0, 1), (52, .ldc 96, 2), (54, .invokevirtual 93, 3), (57, .ireturn, 1), (58, .aload_n 0, 1), (59, .getfield 9, 3), (62, .iconst 3, 1), (63, .dup2, 1), (64, .iaload, 1), (65, .iconst 1, 1), (66, .iadd, 1), (67, .iastore, 1), (68, .aload_n 0, 1), (69, .iload 4, 2), (71, .iconst 0, 1), (72, .iload_n 1, 1), (73, .invokevirtual 117, 3), (76, .aload_n 0, 1), (77, .iload 4, 2), (79, .iconst 1, 1), (80, .iload_n 2, 1), (81, .invokevirtual 117, 3), (84, .aload_n 0, 1), (85, .iload 4, 2), (87, .iconst 2, 1), (88, .iload_n 3, 1), (89, .invokevirtual 117, 3), (92, .aload_n 0, 1), (93, .iload 4, 2), (95, .iconst 3, 1), (96, .iconst 0, 1), (97, .invokevirtual 117, 3), (100, .iconst 4, 1), (101, .istore 5, 2), (103, .iload 5, 2), (105, .bipush 9, 2), (107, .if_icmp .ge 18, 3), (110, .aload_n 0, 1), (111, .iload 4, 2), (113, .iload 5, 2), (115, .iconst (-1), 1), (116, .invokevirtual 117, 3), (119, .iinc 5 1, 3), (122, .goto (-19), 3), (125, .iload 4, 2), (127, .ireturn, 1)]
theorem xd_M_child : xc_M_child.all (fun q => decide (decode prog_12_method_28_code q.1 = .ok (q.2.1, q.2.2))) = true := by decide +kernel
def xc_M_childIs : List (Nat × Instr × Nat) := [(0, .aload_n 0, 1), (1, .iload_n 1, 1), (2, .invokevirtual 121, 3), (5, .ifCond .eq 13, 3), (8, .iload_n 2, 1), (9, .iconst 0, 1), (10, .bipush 9, 2), (12, .invokestatic 63, 3), (15, .ifCond .ne 10, 3), (18, .aload_n 0, 1), (19, .ldc 92, 2), (21, .invokevirtual 93, 3), (24, .ireturn, 1), (25, .iload_n 2, 1), (26, .bipush 9, 2), (28, .if_icmp .ge 12, 3), (31, .aload_n 0, 1), (32, .iload_n 1, 1), (33, .iload_n 2, 1), (34, .invokevirtual 71, 3), (37, .goto 8, 3), (40, .aload_n 0, 1), (41, .iload_n 1, 1), (42, .invokevirtual 84, 3), (45, .ireturn, 1)]
theorem xd_M_childIs : xc_M_childIs.all (fun q => decide (decode prog_12_method_29_code q.1 = .ok (q.2.1, q.2.2))) = true := by decide +kernel
def xc_M_wishes : List (Nat × Instr × Nat) := [(0, .aload_n 0, 1), (1, .iload_n 1, 1), (2, .invokevirtual 121, 3), (5, .ifCond .eq 29, 3), (8, .iload_n 2, 1), (9, .iconst 0, 1), (10, .iconst 2, 1), (11, .invokestatic 63, 3), (14, .ifCond .eq 20, 3), (17, .iload_n 3, 1), (18, .iconst (-1), 1), (19, .if_icmp .eq 11, 3), (22, .aload_n 0, 1), (23, .iload_n 3, 1), (24, .invokevirtual 101, 3), (27, .ifCond .eq 7, 3), (30, .iconst 1, 1), (31, .goto 4, 3), (34, .iconst 0, 1), (35, .istore 4, 2), (37, .iload 4, 2), (39, .ifCond .eq 23, 3), (42, .aload_n 0, 1), (43, .bipush 21, 2), (45, .bipush 9, 2), (47, .iload_n 1, 1), (48, .imul, 1), (49, .iadd, 1), (50, .bipush 6, 2), (52, .iadd, 1), (53, .iload_n 2, 1), (54, .iadd, 1), (55, .iload_n 3, 1), (56, .invokevirtual 113, 3), (59, .goto 9, 3), (62, .aload_n 0, 1), (63, .ldc 92, 2), (65, .invokevirtual 93, 3), (68, .ireturn, 1)]
theorem xd_M_wishes : xc_M_wishes.all (fun q => decide (decode prog_12_method_30_code q.1 = .ok (q.2.1, q.2.2))) = true := by decide +kernel
def xc_M_falls : List (Nat × Instr × Nat) := [(0, .aload_n 0, 1), (1, .iload_n 1, 1), (2, .invokevirtual 121, 3), (5, .ifCond .eq 29, 3), (8, .iload_n 2, 1), (9, .iconst 0, 1), (10, .iconst 1, 1), (11, .invokestatic 63, 3), (14, .ifCond .eq 20, 3), (17, .aload_n 0, 1), (18, .bipush 21, 2), (20, .bipush 9, 2), (22, .iload_n 1, 1), (23, .imul, 1), (24, .iadd, 1), (25, .iconst 3, 1), (26, .iadd, 1), (27, .iload_n 2, 1), (28, .invokevirtual 113, 3), (31, .goto 9, 3), (34, .aload_n 0, 1), (35, .ldc 92, 2), (37, .invokevirtual 93, 3), (40, .ireturn, 1)]
theorem xd_M_falls : xc_M_falls.all (fun q => decide (decode prog_12_method_31_code q.1 = .ok (q.2.1, q.2.2))) = true := by decide +kernel
def xc_M_worth : List (Nat × Instr × Nat) := [(0, .aload_n 0, 1), (1, .iload_n 1, 1), (2, .invokevirtual 121, 3), (5, .ifCond .eq 20, 3), (8, .aload_n 0, 1), (9, .iload_n 2, 1), (10, .invokevirtual 101, 3), (13, .ifCond .eq 12, 3), (16, .aload_n 0, 1), (17, .iload_n 1, 1), (18, .iload_n 2, 1), (19, .invokevirtual 81, 3), (22, .goto 9, 3), (25, .aload_n 0, 1), (26, .ldc 92, 2), (28, .invokevirtual 93, 3), (31, .ireturn, 1)]
theorem xd_M_worth : xc_M_worth.all (fun q => decide (decode prog_12_method_32_code q.1 = .ok (q.2.1, q.2.2))) = true := by decide +kernel
def xc_M_cast : List (Nat × Instr × Nat) := [(0, .aload_n 0, 1), (1, .iload_n 1, 1), (2, .invokevirtual 121, 3), (5, .ifCond .eq 16, 3), (8, .iload_n 2, 1), (9, .iconst (-1), 1), (10, .if_icmp .eq 18, 3), (13, .aload_n 0, 1), (14, .iload_n 2, 1), (15, .invokevirtual 101, 3), (18, .ifCond .ne 10, 3), (21, .aload_n 0, 1), (22, .ldc 92, 2), (24, .invokevirtual 93, 3), (27, .ireturn, 1), (28, .iload_n 2, 1), (29, .ifCond .ge 7, 3), (32, .iconst (-1), 1), (33, .goto 8, 3), (36, .aload_n 0, 1), (37, .iload_n 2, 1), (38, .invokevirtual 107, 3), (41, .istore_n 3, 1), (42, .iload_n 2, 1), (43, .ifCond .lt 21, 3), (46, .aload_n 0, 1), (47, .iload_n 1, 1), (48, .iload_n 2, 1), (49, .invokevirtual 97, 3), (52, .ifCond .eq 16, 3), (55, .iload_n 3, 1), (56, .ifCond .lt 8, 3), (59, .iload_n 3, 1), (60, .iload_n 1, 1), (61, .if_icmp .ne 7, 3), (64, .iconst 1, 1), (65, .goto 4, 3), (68, .iconst 0, 1), (69, .istore 4, 2), (71, .iload 4, 2), (73, .ifCond .eq 20, 3), (76, .aload_n 0, 1), (77, .bipush 21, 2), (79, .bipush 9, 2), (81, .iload_n 1, 1), (82, .imul, 1), (83, .iadd, 1), (84, .iconst 5, 1), (85, .iadd, 1), (86, .iload_n 2, 1), (87, .invokevirtual 113, 3), (90, .goto 9, 3), (93, .aload_n 0, 1), (94, .ldc 124, 2), (96, .invokevirtual 93, 3), (99, .ireturn, 1)]
theorem xd_M_cast : xc_M_cast.all (fun q => decide (decode prog_12_method_33_code q.1 = .ok (q.2.1, q.2.2))) = true := by decide +kernel
def xc_M_feed : List (Nat × Instr × Nat) := [(0, .iload_n 3, 1), (1, .iconst 1, 1), (2, .bipush 8, 2), (4, .invokestatic 63, 3), (7, .ifCond .ne 10, 3), (10, .aload_n 0, 1), (11, .ldc 92, 2), (13, .invokevirtual 93, 3), (16, .ireturn, 1), (17, .aload_n 0, 1), (18, .getfield 9, 3), (21, .iconst 5, 1), (22, .iaload, 1), (23, .iload_n 3, 1), (24, .iadd, 1), (25, .bipush 60, 2), (27, .if_icmp .le 10, 3), (30, .aload_n 0, 1), (31, .ldc 96, 2), (33, .invokevirtual 93, 3), (36, .ireturn, 1), (37, .iconst 0, 1), (38, .istore 4, 2), (40, .iload 4, 2), (42, .iload_n 3, 1), (43, .if_icmp .ge 45, 3), (46, .aload_n 0, 1), (47, .getfield 9, 3), (50, .bipush 84, 2), (52, .aload_n 0, 1), (53, .getfield 9, 3), (56, .iconst 5, 1), (57, .iaload, 1), (58, .iadd, 1), (59, .lload_n 1, 1), (60, .bipush 8, 2), (62, .iload 4, 2), (64, .imul, 1), (65, .lshr, 1), (66, .ldc2_w 125, 3), (69, .land, 1), (70, .l2i, 1), (71, .iastore, 1), (72, .aload_n 0, 1), (73, .getfield 9, 3), (76, .iconst 5, 1), (77, .dup2, 1), (78, .iaload, 1), (79, .iconst 1, 1), (80, .iadd, 1), (81, .iastore, 1), (82, .iinc 4 1, 3), (85, .goto (-45), 3), (88, .aload_n 0, 1), (89, .getfield 9, 3), (92, .iconst 5, 1), (93, .iaload, 1), (94, .ireturn, 1)]
theorem xd_M_feed : xc_M_feed.all (fun q => decide (decode prog_12_method_34_code q.1 = .ok (q.2.1, q.2.2))) = true := by decide +kernel
def xc_M_look : List (Nat × Instr × Nat) := [(0, .aload_n 0, 1), (1, .getfield 127, 3), (4, .aload_n 0, 1), (5, .getfield 9, 3), (8, .iconst 5, 1), (9, .iaload, 1), (10, .if_icmp .ge 18, 3), (13, .aload_n 0, 1), (14, .getfield 9, 3), (17, .bipush 84, 2), (19, .aload_n 0, 1), (20, .getfield 127, 3), (23, .iadd, 1), (24, .iaload, 1), (25, .goto 4, 3), (28, .iconst (-1), 1), (29, .ireturn, 1)]
theorem xd_M_look : xc_M_look.all (fun q => decide (decode prog_12_method_35_code q.1 = .ok (q.2.1, q.2.2))) = true := by decide +kernel
def xc_M_step : List (Nat × Instr × Nat) := [(0, .aload_n 0, 1), (1, .getfield 131, 3), (4, .aload_n 0, 1), (5, .getfield 31, 3), (8, .arraylength, 1), (9, .if_icmp .ge 33, 3), (12, .aload_n 0, 1), (13, .getfield 31, 3), (16, .aload_n 0, 1), (17, .getfield 131, 3), (20, .iload_n 1, 1), (21, .iastore, 1), (22, .aload_n 0, 1), (23, .getfield 34, 3), (26, .aload_n 0, 1), (27, .getfield 131, 3), (30, .iload_n 2, 1), (31, .iastore, 1), (32, .aload_n 0, 1), (33, .dup, 1), (34, .getfield 131, 3), (37, .iconst 1, 1), (38, .iadd, 1), (39, .putfield 131, 3), (42, .return_, 1)]
theorem xd_M_step : xc_M_step.all (fun q => decide (decode prog_12_method_36_code q.1 = .ok (q.2.1, q.2.2))) = true := by decide +kernel
def xc_M_nameOf : List (Nat × Instr × Nat) := [(0, .iload_n 1, 1), (1, .tableswitch 120 108 121 #[73, 120, 120, 120, 120, 120, 120, 96, 120, 120, 73, 71, 120, 96], 71), (72, .iconst 0, 1), (73, .ireturn, 1), (74, .aload_n 0, 1), (75, .getfield 134, 3), (78, .ifCond .eq 7, 3), (81, .iconst (-1), 1), (82, .goto 14, 3), (85, .iload_n 1, 1), (86, .bipush 108, 2), (88, .if_icmp .ne 7, 3), (91, .iconst 1, 1), (92, .goto 4, 3), (95, .iconst 2, 1), (96, .ireturn, 1), (97, .aload_n 0, 1), (98, .getfield 134, 3), (101, .iconst 1, 1), (102, .if_icmp .eq 7, 3), (105, .iconst (-1), 1), (106, .goto 14, 3), (109, .iload_n 1, 1), (110, .bipush 115, 2), (112, .if_icmp .ne 7, 3), (115, .iconst 1, 1), (116, .goto 4, 3), (119, .iconst 2, 1), (120, .ireturn, 1), (121, .iconst (-1), 1), (122, .ireturn, 1)]
theorem xd_M_nameOf : xc_M_nameOf.all (fun q => decide (decode prog_12_method_37_code q.1 = .ok (q.2.1, q.2.2))) = true := by decide +kernel
def xc_M_number : List (Nat × Instr × Nat) := [(0, .iconst 0, 1), (1, .istore_n 1, 1), (2, .iconst 0, 1), (3, .istore_n 2, 1), (4, .iload_n 2, 1), (5, .iconst 4, 1), (6, .if_icmp .ge 46, 3), (9, .aload_n 0, 1), (10, .invokevirtual 137, 3), (13, .bipush 48, 2), (15, .bipush 57, 2), (17, .invokestatic 63, 3), (20, .ifCond .eq 32, 3), (23, .bipush 10, 2), (25, .iload_n 1, 1), (26, .imul, 1), (27, .aload_n 0, 1), (28, .invokevirtual 137, 3), (31, .iadd, 1), (32, .bipush 48, 2), (34, .isub, 1), (35, .istore_n 1, 1), (36, .aload_n 0, 1), (37, .dup, 1), (38, .getfield 127, 3), (41, .iconst 1, 1), (42, .iadd, 1), (43, .putfield 127, 3), (46, .iinc 2 1, 3), (49, .goto (-45), 3), (52, .aload_n 0, 1), (53, .iload_n 2, 1), (54, .ifCond .ne 7, 3), (57, .iconst 1, 1), (58, .goto 4, 3), (61, .iconst 0, 1), (62, .putfield 141, 3), (65, .aload_n 0, 1), (66, .iconst 1, 1), (67, .iload_n 1, 1), (68, .invokevirtual 145, 3), (71, .return_, 1)]
theorem xd_M_number : xc_M_number.all (fun q => decide (decode prog_12_method_38_code q.1 = .ok (q.2.1, q.2.2))) = true := by decide +kernel
def xc_M_opens : List (Nat × Instr × Nat) := [(0, .aload_n 0, 1), (1, .getfield 149, 3), (4, .iconst 5, 1), (5, .if_icmp .ne 9, 3), (8, .aload_n 0, 1), (9, .iconst 1, 1), (10, .putfield 141, 3), (13, .return_, 1), (14, .aload_n 0, 1), (15, .dup, 1), (16, .getfield 149, 3), (19, .iconst 1, 1), (20, .iadd, 1), (21, .putfield 149, 3), (24, .aload_n 0, 1), (25, .dup, 1), (26, .getfield 127, 3), (29, .iconst 1, 1), (30, .iadd, 1), (31, .putfield 127, 3), (34, .iload_n 1, 1), (35, .bipush 33, 2), (37, .if_icmp .ne 16, 3), (40, .aload_n 0, 1), (41, .invokevirtual 152, 3), (44, .aload_n 0, 1), (45, .iconst 3, 1), (46, .iconst 0, 1), (47, .invokevirtual 145, 3), (50, .goto 53, 3), (53, .aload_n 0, 1), (54, .invokevirtual 155, 3), (57, .aload_n 0, 1), (58, .aload_n 0, 1), (59, .getfield 141, 3), (62, .ifCond .ne 12, 3), (65, .aload_n 0, 1), (66, .invokevirtual 137, 3), (69, .bipush 41, 2), (71, .if_icmp .eq 7, 3), (74, .iconst 1, 1), (75, .goto 4, 3), (78, .iconst 0, 1), (79, .putfield 141, 3), (82, .aload_n 0, 1), (83, .dup, 1), (84, .getfield 127, 3), (87, .aload_n 0, 1), (88, .getfield 141, 3), (91, .ifCond .eq 7, 3), (94, .iconst 0, 1), (95, .goto 4, 3), (98, .iconst 1, 1), (99, .iadd, 1), (100, .putfield 127, 3), (103, .aload_n 0, 1), (104, .dup, 1), (105, .getfield 149, 3), (108, .iconst 1, 1), (109, .isub, 1), (110, .putfield 149, 3), (113, .return_, 1)]
theorem xd_M_opens : xc_M_opens.all (fun q => decide (decode prog_12_method_39_code q.1 = .ok (q.2.1, q.2.2))) = true := by decide +kernel
def xc_M_one : List (Nat × Instr × Nat) := [(0, .aload_n 0, 1), (1, .invokevirtual 137, 3), (4, .istore_n 1, 1), (5, .aload_n 0, 1), (6, .iload_n 1, 1), (7, .invokevirtual 158, 3), (10, .istore_n 2, 1), (11, .iload_n 2, 1), (12, .ifCond .lt 22, 3), (15, .aload_n 0, 1), (16, .dup, 1), (17, .getfield 127, 3), (20, .iconst 1, 1), (21, .iadd, 1), (22, .putfield 127, 3), (25, .aload_n 0, 1), (26, .iconst 2, 1), (27, .iload_n 2, 1), (28, .invokevirtual 145, 3), (31, .goto 27, 3), (34, .iload_n 1, 1), (35, .bipush 33, 2), (37, .if_icmp .eq 9, 3), (40, .iload_n 1, 1), (41, .bipush 40, 2), (43, .if_icmp .ne 11, 3), (46, .aload_n 0, 1), (47, .iload_n 1, 1), (48, .invokevirtual 161, 3), (51, .goto 7, 3), (54, .aload_n 0, 1), (55, .invokevirtual 165, 3), (58, .return_, 1)]
theorem xd_M_one : xc_M_one.all (fun q => decide (decode prog_12_method_40_code q.1 = .ok (q.2.1, q.2.2))) = true := by decide +kernel
def xc_M_times : List (Nat × Instr × Nat) := [(0, .aload_n 0, 1), (1, .invokevirtual 152, 3), (4, .aload_n 0, 1), (5, .getfield 141, 3), (8, .ifCond .ne 58, 3), (11, .aload_n 0, 1), (12, .invokevirtual 137, 3), (15, .bipush 42, 2), (17, .if_icmp .eq 21, 3), (20, .aload_n 0, 1), (21, .invokevirtual 137, 3), (24, .bipush 47, 2), (26, .if_icmp .eq 12, 3), (29, .aload_n 0, 1), (30, .invokevirtual 137, 3), (33, .bipush 37, 2), (35, .if_icmp .ne 31, 3), (38, .aload_n 0, 1), (39, .invokevirtual 137, 3), (42, .istore_n 1, 1), (43, .aload_n 0, 1), (44, .dup, 1), (45, .getfield 127, 3), (48, .iconst 1, 1), (49, .iadd, 1), (50, .putfield 127, 3), (53, .aload_n 0, 1), (54, .invokevirtual 152, 3), (57, .aload_n 0, 1), (58, .iload_n 1, 1), (59, .iconst 0, 1), (60, .invokevirtual 145, 3), (63, .goto (-59), 3), (66, .return_, 1)]
theorem xd_M_times : xc_M_times.all (fun q => decide (decode prog_12_method_41_code q.1 = .ok (q.2.1, q.2.2))) = true := by decide +kernel
def xc_M_sum : List (Nat × Instr × Nat) := [(0, .aload_n 0, 1), (1, .invokevirtual 168, 3), (4, .aload_n 0, 1), (5, .getfield 141, 3), (8, .ifCond .ne 49, 3), (11, .aload_n 0, 1), (12, .invokevirtual 137, 3), (15, .bipush 43, 2), (17, .if_icmp .eq 12, 3), (20, .aload_n 0, 1), (21, .invokevirtual 137, 3), (24, .bipush 45, 2), (26, .if_icmp .ne 31, 3), (29, .aload_n 0, 1), (30, .invokevirtual 137, 3), (33, .istore_n 1, 1), (34, .aload_n 0, 1), (35, .dup, 1), (36, .getfield 127, 3), (39, .iconst 1, 1), (40, .iadd, 1), (41, .putfield 127, 3), (44, .aload_n 0, 1), (45, .invokevirtual 168, 3), (48, .aload_n 0, 1), (49, .iload_n 1, 1), (50, .iconst 0, 1), (51, .invokevirtual 145, 3), (54, .goto (-50), 3), (57, .return_, 1)]
theorem xd_M_sum : xc_M_sum.all (fun q => decide (decode prog_12_method_42_code q.1 = .ok (q.2.1, q.2.2))) = true := by decide +kernel
def xc_M_compares : List (Nat × Instr × Nat) := [(0, .aload_n 0, 1), (1, .invokevirtual 171, 3), (4, .aload_n 0, 1), (5, .invokevirtual 137, 3), (8, .istore_n 1, 1), (9, .aload_n 0, 1), (10, .getfield 141, 3), (13, .ifCond .ne 41, 3), (16, .iload_n 1, 1), (17, .bipush 60, 2), (19, .if_icmp .eq 15, 3), (22, .iload_n 1, 1), (23, .bipush 61, 2), (25, .if_icmp .eq 9, 3), (28, .iload_n 1, 1), (29, .bipush 62, 2), (31, .if_icmp .ne 23, 3), (34, .aload_n 0, 1), (35, .dup, 1), (36, .getfield 127, 3), (39, .iconst 1, 1), (40, .iadd, 1), (41, .putfield 127, 3), (44, .aload_n 0, 1), (45, .invokevirtual 171, 3), (48, .aload_n 0, 1), (49, .iload_n 1, 1), (50, .iconst 0, 1), (51, .invokevirtual 145, 3), (54, .return_, 1)]
theorem xd_M_compares : xc_M_compares.all (fun q => decide (decode prog_12_method_43_code q.1 = .ok (q.2.1, q.2.2))) = true := by decide +kernel
def xc_M_all : List (Nat × Instr × Nat) := [(0, .aload_n 0, 1), (1, .invokevirtual 174, 3), (4, .aload_n 0, 1), (5, .getfield 141, 3), (8, .ifCond .ne 36, 3), (11, .aload_n 0, 1), (12, .invokevirtual 137, 3), (15, .bipush 38, 2), (17, .if_icmp .ne 27, 3), (20, .aload_n 0, 1), (21, .dup, 1), (22, .getfield 127, 3), (25, .iconst 1, 1), (26, .iadd, 1), (27, .putfield 127, 3), (30, .aload_n 0, 1), (31, .invokevirtual 174, 3), (34, .aload_n 0, 1), (35, .bipush 38, 2), (37, .iconst 0, 1), (38, .invokevirtual 145, 3), (41, .goto (-37), 3), (44, .return_, 1)]
theorem xd_M_all : xc_M_all.all (fun q => decide (decode prog_12_method_44_code q.1 = .ok (q.2.1, q.2.2))) = true := by decide +kernel
def xc_M_any : List (Nat × Instr × Nat) := [(0, .aload_n 0, 1), (1, .invokevirtual 177, 3), (4, .aload_n 0, 1), (5, .getfield 141, 3), (8, .ifCond .ne 36, 3), (11, .aload_n 0, 1), (12, .invokevirtual 137, 3), (15, .bipush 124, 2), (17, .if_icmp .ne 27, 3), (20, .aload_n 0, 1), (21, .dup, 1), (22, .getfield 127, 3), (25, .iconst 1, 1), (26, .iadd, 1), (27, .putfield 127, 3), (30, .aload_n 0, 1), (31, .invokevirtual 177, 3), (34, .aload_n 0, 1), (35, .bipush 124, 2), (37, .iconst 0, 1), (38, .invokevirtual 145, 3), (41, .goto (-37), 3), (44, .return_, 1)]
theorem xd_M_any : xc_M_any.all (fun q => decide (decode prog_12_method_45_code q.1 = .ok (q.2.1, q.2.2))) = true := by decide +kernel
def xc_M_text : List (Nat × Instr × Nat) := [(0, .iload_n 1, 1), (1, .iconst 0, 1), (2, .iconst 1, 1), (3, .invokestatic 63, 3), (6, .ifCond .ne 10, 3), (9, .aload_n 0, 1), (10, .ldc 92, 2), (12, .invokevirtual 93, 3), (15, .ireturn, 1), (16, .aload_n 0, 1), (17, .iload_n 1, 1), (18, .putfield 134, 3), (21, .aload_n 0, 1), (22, .iconst 0, 1), (23, .putfield 131, 3), (26, .aload_n 0, 1), (27, .iconst 0, 1), (28, .putfield 127, 3), (31, .aload_n 0, 1), (32, .iconst 0, 1), (33, .putfield 149, 3), (36, .aload_n 0, 1), (37, .iconst 0, 1), (38, .putfield 141, 3), (41, .aload_n 0, 1), (42, .invokevirtual 155, 3), (45, .aload_n 0, 1), (46, .aload_n 0, 1), (47, .getfield 141, 3), (50, .ifCond .ne 16, 3), (53, .aload_n 0, 1), (54, .getfield 127, 3), (57, .aload_n 0, 1), (58, .getfield 9, 3), (61, .iconst 5, 1), (62, .iaload, 1), (63, .if_icmp .ge 7, 3), (66, .iconst 1, 1), (67, .goto 4, 3), (70, .iconst 0, 1), (71, .putfield 141, 3), (74, .aload_n 0, 1), (75, .getfield 9, 3), (78, .iconst 5, 1), (79, .iconst 0, 1), (80, .iastore, 1), (81, .aload_n 0, 1), (82, .getfield 141, 3), (85, .ifCond .eq 11, 3), (88, .bipush (-10), 2), (90, .aload_n 0, 1), (91, .getfield 127, 3), (94, .isub, 1), (95, .ireturn, 1), (96, .sipush 168, 3), (99, .bipush 121, 2), (101, .iload_n 1, 1), (102, .imul, 1), (103, .iadd, 1), (104, .istore_n 2, 1), (105, .aload_n 0, 1), (106, .getfield 9, 3), (109, .iload_n 2, 1), (110, .aload_n 0, 1), (111, .getfield 131, 3), (114, .iastore, 1), (115, .iconst 0, 1), (116, .istore_n 3, 1), (117, .iload_n 3, 1), (118, .aload_n 0, 1), (119, .getfield 131, 3), (122, .if_icmp .ge 42, 3), (125, .aload_n 0, 1), (126, .getfield 9, 3), (129, .iload_n 2, 1), (130, .iconst 1, 1), (131, .iadd, 1), (132, .iload_n 3, 1), (133, .iadd, 1), (134, .aload_n 0, 1), (135, .getfield 31, 3), (138, .iload_n 3, 1), (139, .iaload, 1), (140, .iastore, 1), (141, .aload_n 0, 1), (142, .getfield 9, 3), (145, .iload_n 2, 1), (146, .bipush 61, 2), (148, .iadd, 1), (149, .iload_n 3, 1), (150, .iadd, 1), (151, .aload_n 0, 1), (152, .getfield 34, 3), (155, .iload_n 3, 1), (156, .iaload, 1), (157, .iastore, 1), (158, .iinc 3 1, 3), (161, .goto (-44), 3), (164, .iconst 1, 1), (165, .ireturn, 1)]
theorem xd_M_text : xc_M_text.all (fun q => decide (decode prog_12_method_46_code q.1 = .ok (q.2.1, q.2.2))) = true := by decide +kernel
def xc_M_untell : List (Nat × Instr × Nat) := [(0, .iload_n 1, 1), (1, .iconst 0, 1), (2, .iconst 1, 1), (3, .invokestatic 63, 3), (6, .ifCond .ne 10, 3), (9, .aload_n 0, 1), (10, .ldc 92, 2), (12, .invokevirtual 93, 3), (15, .ireturn, 1), (16, .aload_n 0, 1), (17, .sipush 168, 3), (20, .bipush 121, 2), (22, .iload_n 1, 1), (23, .imul, 1), (24, .iadd, 1), (25, .iconst 0, 1), (26, .invokevirtual 113, 3), (29, .ifCond .le 7, 3), (32, .iconst 1, 1), (33, .goto 4, 3), (36, .iconst 0, 1), (37, .ireturn, 1)]
theorem xd_M_untell : xc_M_untell.all (fun q => decide (decode prog_12_method_47_code q.1 = .ok (q.2.1, q.2.2))) = true := by decide +kernel
def xc_M_twoOf : List (Nat × Instr × Nat) := [(0, .iload_n 0, 1), (1, .tableswitch 202 37 62 #[143, 188, 202, 202, 202, 127, 119, 202, 123, 202, 131, 202, 202, 202, 202, 202, 202, 202, 202, 202, 202, 202, 202, 155, 166, 177], 119), (120, .iload_n 1, 1), (121, .iload_n 2, 1), (122, .iadd, 1), (123, .ireturn, 1), (124, .iload_n 1, 1), (125, .iload_n 2, 1), (126, .isub, 1), (127, .ireturn, 1), (128, .iload_n 1, 1), (129, .iload_n 2, 1), (130, .imul, 1), (131, .ireturn, 1), (132, .iload_n 2, 1), (133, .ifCond .ne 7, 3), (136, .iconst 0, 1), (137, .goto 6, 3), (140, .iload_n 1, 1), (141, .iload_n 2, 1), (142, .idiv, 1), (143, .ireturn, 1), (144, .iload_n 2, 1), (145, .ifCond .ne 7, 3), (148, .iconst 0, 1), (149, .goto 6, 3), (152, .iload_n 1, 1), (153, .iload_n 2, 1), (154, .irem, 1), (155, .ireturn, 1), (156, .iload_n 1, 1), (157, .iload_n 2, 1), (158, .if_icmp .ge 7, 3), (161, .iconst 1, 1), (162, .goto 4, 3), (165, .iconst 0, 1), (166, .ireturn, 1), (167, .iload_n 1, 1), (168, .iload_n 2, 1), (169, .if_icmp .ne 7, 3), (172, .iconst 1, 1), (173, .goto 4, 3), (176, .iconst 0, 1), (177, .ireturn, 1), (178, .iload_n 1, 1), (179, .iload_n 2, 1), (180, .if_icmp .le 7, 3), (183, .iconst 1, 1), (184, .goto 4, 3), (187, .iconst 0, 1), (188, .ireturn, 1), (189, .iload_n 1, 1), (190, .ifCond .eq 11, 3), (193, .iload_n 2, 1), (194, .ifCond .eq 7, 3), (197, .iconst 1, 1), (198, .goto 4, 3), (201, .iconst 0, 1), (202, .ireturn, 1), (203, .iload_n 1, 1), (204, .ifCond .ne 7, 3), (207, .iload_n 2, 1), (208, .ifCond .eq 7, 3), (211, .iconst 1, 1), (212, .goto 4, 3), (215, .iconst 0, 1), (216, .ireturn, 1)]
theorem xd_M_twoOf : xc_M_twoOf.all (fun q => decide (decode prog_12_method_48_code q.1 = .ok (q.2.1, q.2.2))) = true := by decide +kernel
def xc_M_works : List (Nat × Instr × Nat) := [(0, .iconst 0, 1), (1, .istore_n 2, 1), (2, .iconst 0, 1), (3, .istore_n 3, 1), (4, .iload_n 3, 1), (5, .aload_n 0, 1), (6, .getfield 9, 3), (9, .iload_n 1, 1), (10, .iaload, 1), (11, .if_icmp .ge 144, 3), (14, .aload_n 0, 1), (15, .getfield 9, 3), (18, .iload_n 1, 1), (19, .iconst 1, 1), (20, .iadd, 1), (21, .iload_n 3, 1), (22, .iadd, 1), (23, .iaload, 1), (24, .istore 4, 2), (26, .iload 4, 2), (28, .iconst 1, 1), (29, .if_icmp .eq 9, 3), (32, .iload 4, 2), (34, .iconst 2, 1), (35, .if_icmp .ne 51, 3), (38, .aload_n 0, 1), (39, .getfield 40, 3), (42, .iload_n 2, 1), (43, .iload 4, 2), (45, .iconst 1, 1), (46, .if_icmp .ne 17, 3), (49, .aload_n 0, 1), (50, .getfield 9, 3), (53, .iload_n 1, 1), (54, .bipush 61, 2), (56, .iadd, 1), (57, .iload_n 3, 1), (58, .iadd, 1), (59, .iaload, 1), (60, .goto 19, 3), (63, .aload_n 0, 1), (64, .getfield 37, 3), (67, .aload_n 0, 1), (68, .getfield 9, 3), (71, .iload_n 1, 1), (72, .bipush 61, 2), (74, .iadd, 1), (75, .iload_n 3, 1), (76, .iadd, 1), (77, .iaload, 1), (78, .iaload, 1), (79, .iastore, 1), (80, .iinc 2 1, 3), (83, .goto 66, 3), (86, .iload 4, 2), (88, .iconst 3, 1), (89, .if_icmp .ne 30, 3), (92, .aload_n 0, 1), (93, .getfield 40, 3), (96, .iload_n 2, 1), (97, .iconst 1, 1), (98, .isub, 1), (99, .aload_n 0, 1), (100, .getfield 40, 3), (103, .iload_n 2, 1), (104, .iconst 1, 1), (105, .isub, 1), (106, .iaload, 1), (107, .ifCond .ne 7, 3), (110, .iconst 1, 1), (111, .goto 4, 3), (114, .iconst 0, 1), (115, .iastore, 1), (116, .goto 33, 3), (119, .iinc 2 (-1), 3), (122, .aload_n 0, 1), (123, .getfield 40, 3), (126, .iload_n 2, 1), (127, .iconst 1, 1), (128, .isub, 1), (129, .iload 4, 2), (131, .aload_n 0, 1), (132, .getfield 40, 3), (135, .iload_n 2, 1), (136, .iconst 1, 1), (137, .isub, 1), (138, .iaload, 1), (139, .aload_n 0, 1), (140, .getfield 40, 3), (143, .iload_n 2, 1), (144, .iaload, 1), (145, .invokestatic 180, 3), (148, .iastore, 1), (149, .iinc 3 1, 3), (152, .goto (-148), 3), (155, .aload_n 0, 1), (156, .getfield 40, 3), (159, .iconst 0, 1), (160, .iaload, 1), (161, .ireturn, 1)]
theorem xd_M_works : xc_M_works.all (fun q => decide (decode prog_12_method_49_code q.1 = .ok (q.2.1, q.2.2))) = true := by decide +kernel
def xc_M_gives : List (Nat × Instr × Nat) := [(0, .sipush 168, 3), (3, .bipush 121, 2), (5, .iload_n 1, 1), (6, .imul, 1), (7, .iadd, 1), (8, .istore 5, 2), (10, .aload_n 0, 1), (11, .getfield 37, 3), (14, .iconst 0, 1), (15, .iload_n 2, 1), (16, .iastore, 1), (17, .aload_n 0, 1), (18, .getfield 37, 3), (21, .iconst 1, 1), (22, .iload_n 3, 1), (23, .iastore, 1), (24, .aload_n 0, 1), (25, .getfield 37, 3), (28, .iconst 2, 1), (29, .iload 4, 2), (31, .iastore, 1), (32, .aload_n 0, 1), (33, .getfield 9, 3), (36, .iload 5, 2), (38, .iaload, 1), (39, .ifCond .le 12, 3), (42, .aload_n 0, 1), (43, .iload 5, 2), (45, .invokevirtual 184, 3), (48, .goto 15, 3), (51, .iload_n 1, 1), (52, .ifCond .ne 10, 3), (55, .bipush 10, 2), (57, .iload_n 2, 1), (58, .imul, 1), (59, .goto 4, 3), (62, .iload_n 2, 1), (63, .istore 6, 2), (65, .iload_n 1, 1), (66, .ifCond .ne 14, 3), (69, .iload 6, 2), (71, .iconst 0, 1), (72, .bipush 99, 2), (74, .invokestatic 187, 3), (77, .goto 12, 3), (80, .iload 6, 2), (82, .bipush (-99), 2), (84, .bipush 99, 2), (86, .invokestatic 187, 3), (89, .ireturn, 1)]
theorem xd_M_gives : xc_M_gives.all (fun q => decide (decode prog_12_method_50_code q.1 = .ok (q.2.1, q.2.2))) = true := by decide +kernel
def xc_M_law : List (Nat × Instr × Nat) := [(0, .iload_n 1, 1), (1, .iconst 0, 1), (2, .iconst 1, 1), (3, .invokestatic 63, 3), (6, .ifCond .eq 15, 3), (9, .aload_n 0, 1), (10, .iload_n 1, 1), (11, .iload_n 2, 1), (12, .iload_n 3, 1), (13, .iload 4, 2), (15, .invokevirtual 77, 3), (18, .goto 9, 3), (21, .aload_n 0, 1), (22, .ldc 92, 2), (24, .invokevirtual 93, 3), (27, .ireturn, 1)]
theorem xd_M_law : xc_M_law.all (fun q => decide (decode prog_12_method_51_code q.1 = .ok (q.2.1, q.2.2))) = true := by decide +kernel
def xc_M_plays : List (Nat × Instr × Nat) := [(0, .aload_n 0, 1), (1, .invokevirtual 190, 3), (4, .istore_n 1, 1), (5, .aload_n 0, 1), (6, .getfield 9, 3), (9, .iconst 4, 1), (10, .aload_n 0, 1), (11, .getfield 9, 3), (14, .iconst 4, 1), (15, .iaload, 1), (16, .iload_n 1, 1), (17, .iadd, 1), (18, .ldc 193, 2), (20, .ldc 194, 2), (22, .invokestatic 187, 3), (25, .iastore, 1), (26, .iconst 0, 1), (27, .istore_n 2, 1), (28, .iload_n 2, 1), (29, .aload_n 0, 1), (30, .getfield 9, 3), (33, .iconst 3, 1), (34, .iaload, 1), (35, .if_icmp .ge 43, 3), (38, .aload_n 0, 1), (39, .iload_n 2, 1), (40, .iconst 5, 1), (41, .invokevirtual 71, 3), (44, .istore_n 3, 1), (45, .aload_n 0, 1), (46, .iload_n 2, 1), (47, .iconst 4, 1), (48, .iload_n 3, 1), (49, .ifCond .ge 12, 3), (52, .aload_n 0, 1), (53, .iload_n 2, 1), (54, .iconst 4, 1), (55, .invokevirtual 71, 3), (58, .goto 4, 3), (61, .iload_n 3, 1), (62, .invokevirtual 117, 3), (65, .aload_n 0, 1), (66, .iload_n 2, 1), (67, .iconst 5, 1), (68, .iconst (-1), 1), (69, .invokevirtual 117, 3), (72, .iinc 2 1, 3), (75, .goto (-47), 3), (78, .aload_n 0, 1), (79, .getfield 9, 3), (82, .iconst 0, 1), (83, .dup2, 1), (84, .iaload, 1), (85, .iconst 1, 1), (86, .iadd, 1), (87, .iastore, 1), (88, .iload_n 1, 1), (89, .ireturn, 1)]
theorem xd_M_plays : xc_M_plays.all (fun q => decide (decode prog_12_method_52_code q.1 = .ok (q.2.1, q.2.2))) = true := by decide +kernel
def xc_M_play : List (Nat × Instr × Nat) := [(0, .aload_n 0, 1), (1, .getfield 9, 3), (4, .iconst 0, 1), (5, .iaload, 1), (6, .sipush 9999, 3), (9, .if_icmp .ne 12, 3), (12, .aload_n 0, 1), (13, .ldc 124, 2), (15, .invokevirtual 93, 3), (18, .goto 7, 3), (21, .aload_n 0, 1), (22, .invokevirtual 195, 3), (25, .ireturn, 1)]
theorem xd_M_play : xc_M_play.all (fun q => decide (decode prog_12_method_53_code q.1 = .ok (q.2.1, q.2.2))) = true := by decide +kernel
def xc_M_draw : List (Nat × Instr × Nat) := [(0, .aload_n 0, 1), (1, .getfield 9, 3), (4, .iconst 1, 1), (5, .aload_n 0, 1), (6, .getfield 9, 3), (9, .iconst 1, 1), (10, .iaload, 1), (11, .ldc 198, 2), (13, .imul, 1), (14, .sipush 12345, 3), (17, .iadd, 1), (18, .iastore, 1), (19, .aload_n 0, 1), (20, .getfield 9, 3), (23, .iconst 1, 1), (24, .iaload, 1), (25, .bipush 8, 2), (27, .iushr, 1), (28, .ireturn, 1)]
theorem xd_M_draw : xc_M_draw.all (fun q => decide (decode prog_12_method_54_code q.1 = .ok (q.2.1, q.2.2))) = true := by decide +kernel
def xc_M_freeFor : List (Nat × Instr × Nat) := [(0, .iconst 0, 1), (1, .istore_n 2, 1), (2, .iconst 0, 1), (3, .istore_n 3, 1), (4, .iload_n 3, 1), (5, .aload_n 0, 1), (6, .getfield 9, 3), (9, .iconst 2, 1), (10, .iaload, 1), (11, .if_icmp .ge 36, 3), (14, .iload_n 2, 1), (15, .aload_n 0, 1), (16, .iload_n 1, 1), (17, .iload_n 3, 1), (18, .invokevirtual 97, 3), (21, .ifCond .eq 17, 3), (24, .aload_n 0, 1), (25, .iload_n 3, 1), (26, .invokevirtual 107, 3), (29, .ifCond .ge 9, 3), (32, .iconst 1, 1), (33, .iload_n 3, 1), (34, .ishl, 1), (35, .goto 4, 3), (38, .iconst 0, 1), (39, .ior, 1), (40, .istore_n 2, 1), (41, .iinc 3 1, 3), (44, .goto (-40), 3), (47, .iload_n 2, 1), (48, .ireturn, 1)]
theorem xd_M_freeFor : xc_M_freeFor.all (fun q => decide (decode prog_12_method_55_code q.1 = .ok (q.2.1, q.2.2))) = true := by decide +kernel
def xc_M_nobodyHas : List (Nat × Instr × Nat) := [(0, .iconst 0, 1), (1, .istore_n 1, 1), (2, .iload_n 1, 1), (3, .aload_n 0, 1), (4, .getfield 9, 3), (7, .iconst 3, 1), (8, .iaload, 1), (9, .if_icmp .ge 16, 3), (12, .aload_n 0, 1), (13, .iload_n 1, 1), (14, .iconst 5, 1), (15, .iconst (-1), 1), (16, .invokevirtual 117, 3), (19, .iinc 1 1, 3), (22, .goto (-20), 3), (25, .return_, 1)]
theorem xd_M_nobodyHas : xc_M_nobodyHas.all (fun q => decide (decode prog_12_method_56_code q.1 = .ok (q.2.1, q.2.2))) = true := by decide +kernel
def xc_M_drawn : List (Nat × Instr × Nat) := [(0, .iconst 0, 1), (1, .istore_n 1, 1), (2, .aload_n 0, 1), (3, .invokevirtual 199, 3), (6, .iconst 0, 1), (7, .istore_n 2, 1), (8, .iload_n 2, 1), (9, .aload_n 0, 1), (10, .getfield 9, 3), (13, .iconst 3, 1), (14, .iaload, 1), (15, .if_icmp .ge 78, 3), (18, .aload_n 0, 1), (19, .iload_n 2, 1), (20, .invokevirtual 202, 3), (23, .istore_n 3, 1), (24, .iload_n 3, 1), (25, .ifCond .eq 62, 3), (28, .aload_n 0, 1), (29, .invokevirtual 205, 3), (32, .iload_n 3, 1), (33, .invokestatic 208, 3), (36, .irem, 1), (37, .istore 4, 2), (39, .iconst 0, 1), (40, .istore 5, 2), (42, .iload 4, 2), (44, .ifCond .gt 12, 3), (47, .iload_n 3, 1), (48, .iload 5, 2), (50, .ishr, 1), (51, .iconst 1, 1), (52, .iand, 1), (53, .ifCond .ne 20, 3), (56, .iload 4, 2), (58, .iload_n 3, 1), (59, .iload 5, 2), (61, .ishr, 1), (62, .iconst 1, 1), (63, .iand, 1), (64, .isub, 1), (65, .istore 4, 2), (67, .iinc 5 1, 3), (70, .goto (-28), 3), (73, .aload_n 0, 1), (74, .iload_n 2, 1), (75, .iconst 5, 1), (76, .iload 5, 2), (78, .invokevirtual 117, 3), (81, .iload_n 1, 1), (82, .iconst 1, 1), (83, .iload_n 2, 1), (84, .ishl, 1), (85, .ior, 1), (86, .istore_n 1, 1), (87, .iinc 2 1, 3), (90, .goto (-82), 3), (93, .iload_n 1, 1), (94, .ireturn, 1)]
theorem xd_M_drawn : xc_M_drawn.all (fun q => decide (decode prog_12_method_57_code q.1 = .ok (q.2.1, q.2.2))) = true := by decide +kernel
def xc_M_lots : List (Nat × Instr × Nat) := [(0, .aload_n 0, 1), (1, .invokevirtual 211, 3), (4, .ireturn, 1)]
theorem xd_M_lots : xc_M_lots.all (fun q => decide (decode prog_12_method_58_code q.1 = .ok (q.2.1, q.2.2))) = true := by decide +kernel
def xc_M_loose : List (Nat × Instr × Nat) := [(0, .iload_n 1, 1), (1, .iconst 1, 1), (2, .bipush 20, 2), (4, .invokestatic 63, 3), (7, .ifCond .ne 10, 3), (10, .aload_n 0, 1), (11, .ldc 92, 2), (13, .invokevirtual 93, 3), (16, .ireturn, 1), (17, .aload_n 0, 1), (18, .getfield 9, 3), (21, .iconst 0, 1), (22, .iaload, 1), (23, .iload_n 1, 1), (24, .iadd, 1), (25, .sipush 9999, 3), (28, .if_icmp .le 10, 3), (31, .aload_n 0, 1), (32, .ldc 124, 2), (34, .invokevirtual 93, 3), (37, .ireturn, 1), (38, .iconst 0, 1), (39, .istore_n 2, 1), (40, .iload_n 2, 1), (41, .iload_n 1, 1), (42, .if_icmp .ge 19, 3), (45, .aload_n 0, 1), (46, .invokevirtual 211, 3), (49, .pop, 1), (50, .aload_n 0, 1), (51, .invokevirtual 195, 3), (54, .pop, 1), (55, .iinc 2 1, 3), (58, .goto (-18), 3), (61, .aload_n 0, 1), (62, .getfield 9, 3), (65, .iconst 4, 1), (66, .iaload, 1), (67, .ireturn, 1)]
theorem xd_M_loose : xc_M_loose.all (fun q => decide (decode prog_12_method_59_code q.1 = .ok (q.2.1, q.2.2))) = true := by decide +kernel
def xc_M_seed : List (Nat × Instr × Nat) := [(0, .aload_n 0, 1), (1, .iconst 1, 1), (2, .iload_n 1, 1), (3, .invokevirtual 113, 3), (6, .ireturn, 1)]
theorem xd_M_seed : xc_M_seed.all (fun q => decide (decode prog_12_method_60_code q.1 = .ok (q.2.1, q.2.2))) = true := by decide +kernel
def xc_M_findWorths : List (Nat × Instr × Nat) := [(0, .iconst 0, 1), (1, .istore_n 1, 1), (2, .iload_n 1, 1), (3, .aload_n 0, 1), (4, .getfield 9, 3), (7, .iconst 3, 1), (8, .iaload, 1), (9, .if_icmp .ge 57, 3), (12, .iconst 0, 1), (13, .istore_n 2, 1), (14, .iload_n 2, 1), (15, .aload_n 0, 1), (16, .getfield 9, 3), (19, .iconst 2, 1), (20, .iaload, 1), (21, .if_icmp .ge 39, 3), (24, .aload_n 0, 1), (25, .getfield 46, 3), (28, .bipush 7, 2), (30, .iload_n 1, 1), (31, .imul, 1), (32, .iload_n 2, 1), (33, .iadd, 1), (34, .aload_n 0, 1), (35, .iload_n 1, 1), (36, .iload_n 2, 1), (37, .invokevirtual 97, 3), (40, .ifCond .eq 12, 3), (43, .aload_n 0, 1), (44, .iload_n 1, 1), (45, .iload_n 2, 1), (46, .invokevirtual 81, 3), (49, .goto 4, 3), (52, .iconst (-1), 1), (53, .iastore, 1), (54, .iinc 2 1, 3), (57, .goto (-43), 3), (60, .iinc 1 1, 3), (63, .goto (-61), 3), (66, .return_, 1)]
theorem xd_M_findWorths : xc_M_findWorths.all (fun q => decide (decode prog_12_method_61_code q.1 = .ok (q.2.1, q.2.2))) = true := by decide +kernel
def xc_M_findValues : List (Nat × Instr × Nat) := [(0, .aload_n 0, 1), (1, .getfield 9, 3), (4, .iconst 3, 1), (5, .iaload, 1), (6, .istore_n 1, 1), (7, .iconst 0, 1), (8, .istore_n 2, 1), (9, .iload_n 2, 1), (10, .sipush 128, 3), (13, .if_icmp .ge 22, 3), (16, .aload_n 0, 1), (17, .getfield 43, 3), (20, .sipush 128, 3), (23, .iload_n 1, 1), (24, .imul, 1), (25, .iload_n 2, 1), (26, .iadd, 1), (27, .iconst 0, 1), (28, .iastore, 1), (29, .iinc 2 1, 3), (32, .goto (-23), 3), (35, .iload_n 1, 1), (36, .iconst 1, 1), (37, .isub, 1), (38, .istore_n 2, 1), (39, .iload_n 2, 1), (40, .ifCond .lt 164, 3), (43, .iconst 0, 1), (44, .istore_n 3, 1), (45, .iload_n 3, 1), (46, .sipush 128, 3), (49, .if_icmp .ge 149, 3), (52, .aload_n 0, 1), (53, .getfield 43, 3), (56, .sipush 128, 3), (59, .iload_n 2, 1), (60, .iconst 1, 1), (61, .iadd, 1), (62, .imul, 1), (63, .iload_n 3, 1), (64, .iadd, 1), (65, .iaload, 1), (66, .istore 4, 2), (68, .iconst 0, 1), (69, .istore 5, 2), (71, .iload 5, 2), (73, .aload_n 0, 1), (74, .getfield 9, 3), (77, .iconst 2, 1), (78, .iaload, 1), (79, .if_icmp .ge 99, 3), (82, .iload_n 3, 1), (83, .iload 5, 2), (85, .ishr, 1), (86, .iconst 1, 1), (87, .iand, 1), (88, .ifCond .ne 22, 3), (91, .aload_n 0, 1), (92, .getfield 46, 3), (95, .bipush 7, 2), (97, .iload_n 2, 1), (98, .imul, 1), (99, .iload 5, 2), (101, .iadd, 1), (102, .iaload, 1), (103, .ifCond .lt 7, 3), (106, .iconst 1, 1), (107, .goto 4, 3), (110, .iconst 0, 1), (111, .istore 6, 2), (113, .iload 6, 2), (115, .ifCond .eq 38, 3), (118, .aload_n 0, 1), (119, .getfield 46, 3), (122, .bipush 7, 2), (124, .iload_n 2, 1), (125, .imul, 1), (126, .iload 5, 2), (128, .iadd, 1), (129, .iaload, 1), (130, .aload_n 0, 1), (131, .getfield 43, 3), (134, .sipush 128, 3), (137, .iload_n 2, 1), (138, .iconst 1, 1), (139, .iadd, 1), (140, .imul, 1), (141, .iload_n 3, 1), (142, .iconst 1, 1), (143, .iload 5, 2), (145, .ishl, 1), (146, .ior, 1), (147, .iadd, 1), (148, .iaload, 1), (149, .iadd, 1), (150, .goto 4, 3), (153, .iconst (-1), 1), (154, .istore 7, 2), (156, .iload 7, 2), (158, .iload 4, 2), (160, .if_icmp .le 8, 3), (163, .iload 7, 2), (165, .goto 5, 3), (168, .iload 4, 2), (170, .istore 4, 2), (172, .iinc 5 1, 3), (175, .goto (-104), 3), (178, .aload_n 0, 1), (179, .getfield 43, 3), (182, .sipush 128, 3), (185, .iload_n 2, 1), (186, .imul, 1), (187, .iload_n 3, 1), (188, .iadd, 1), (189, .iload 4, 2), (191, .iastore, 1), (192, .iinc 3 1, 3), (195, .goto (-150), 3), (198, .iinc 2 (-1), 3), (201, .goto (-162), 3), (204, .return_, 1)]
theorem xd_M_findValues : xc_M_findValues.all (fun q => decide (decode prog_12_method_62_code q.1 = .ok (q.2.1, q.2.2))) = true := by decide +kernel
def xc_M_findBest : List (Nat × Instr × Nat) := [(0, .aload_n 0, 1), (1, .invokevirtual 214, 3), (4, .iconst 0, 1), (5, .istore_n 1, 1), (6, .iconst 0, 1), (7, .istore_n 2, 1), (8, .iload_n 2, 1), (9, .aload_n 0, 1), (10, .getfield 9, 3), (13, .iconst 3, 1), (14, .iaload, 1), (15, .if_icmp .ge 166, 3), (18, .aload_n 0, 1), (19, .getfield 49, 3), (22, .iload_n 2, 1), (23, .iconst (-1), 1), (24, .iastore, 1), (25, .aload_n 0, 1), (26, .getfield 9, 3), (29, .iconst 2, 1), (30, .iaload, 1), (31, .iconst 1, 1), (32, .isub, 1), (33, .istore_n 3, 1), (34, .iload_n 3, 1), (35, .ifCond .lt 116, 3), (38, .iload_n 1, 1), (39, .iload_n 3, 1), (40, .ishr, 1), (41, .iconst 1, 1), (42, .iand, 1), (43, .ifCond .ne 21, 3), (46, .aload_n 0, 1), (47, .getfield 46, 3), (50, .bipush 7, 2), (52, .iload_n 2, 1), (53, .imul, 1), (54, .iload_n 3, 1), (55, .iadd, 1), (56, .iaload, 1), (57, .ifCond .lt 7, 3), (60, .iconst 1, 1), (61, .goto 4, 3), (64, .iconst 0, 1), (65, .istore 4, 2), (67, .iload 4, 2), (69, .ifCond .eq 52, 3), (72, .aload_n 0, 1), (73, .getfield 46, 3), (76, .bipush 7, 2), (78, .iload_n 2, 1), (79, .imul, 1), (80, .iload_n 3, 1), (81, .iadd, 1), (82, .iaload, 1), (83, .aload_n 0, 1), (84, .getfield 43, 3), (87, .sipush 128, 3), (90, .iload_n 2, 1), (91, .iconst 1, 1), (92, .iadd, 1), (93, .imul, 1), (94, .iload_n 1, 1), (95, .iconst 1, 1), (96, .iload_n 3, 1), (97, .ishl, 1), (98, .ior, 1), (99, .iadd, 1), (100, .iaload, 1), (101, .iadd, 1), (102, .aload_n 0, 1), (103, .getfield 43, 3), (106, .sipush 128, 3), (109, .iload_n 2, 1), (110, .imul, 1), (111, .iload_n 1, 1), (112, .iadd, 1), (113, .iaload, 1), (114, .if_icmp .ne 7, 3), (117, .iconst 1, 1), (118, .goto 4, 3), (121, .iconst 0, 1), (122, .istore 5, 2), (124, .aload_n 0, 1), (125, .getfield 49, 3), (128, .iload_n 2, 1), (129, .iload 5, 2), (131, .ifCond .eq 7, 3), (134, .iload_n 3, 1), (135, .goto 9, 3), (138, .aload_n 0, 1), (139, .getfield 49, 3), (142, .iload_n 2, 1), (143, .iaload, 1), (144, .iastore, 1), (145, .iinc 3 (-1), 3), (148, .goto (-114), 3), (151, .iload_n 1, 1), (152, .aload_n 0, 1), (153, .getfield 49, 3), (156, .iload_n 2, 1), (157, .iaload, 1), (158, .ifCond .ge 7, 3), (161, .iconst 0, 1), (162, .goto 11, 3), (165, .iconst 1, 1), (166, .aload_n 0, 1), (167, .getfield 49, 3), (170, .iload_n 2, 1), (171, .iaload, 1), (172, .ishl, 1), (173, .ior, 1), (174, .istore_n 1, 1), (175, .iinc 2 1, 3), (178, .goto (-170), 3), (181, .return_, 1)]
theorem xd_M_findBest : xc_M_findBest.all (fun q => decide (decode prog_12_method_63_code q.1 = .ok (q.2.1, q.2.2))) = true := by decide +kernel
def xc_M_best : List (Nat × Instr × Nat) := [(0, .iload_n 1, 1), (1, .iconst (-1), 1), (2, .bipush 6, 2), (4, .invokestatic 63, 3), (7, .ifCond .ne 10, 3), (10, .aload_n 0, 1), (11, .ldc 92, 2), (13, .invokevirtual 93, 3), (16, .ireturn, 1), (17, .iload_n 1, 1), (18, .aload_n 0, 1), (19, .getfield 9, 3), (22, .iconst 3, 1), (23, .iaload, 1), (24, .if_icmp .lt 10, 3), (27, .aload_n 0, 1), (28, .ldc 217, 2), (30, .invokevirtual 93, 3), (33, .ireturn, 1), (34, .aload_n 0, 1), (35, .invokevirtual 218, 3), (38, .aload_n 0, 1), (39, .invokevirtual 221, 3), (42, .iload_n 1, 1), (43, .ifCond .ge 12, 3), (46, .aload_n 0, 1), (47, .getfield 43, 3), (50, .iconst 0, 1), (51, .iaload, 1), (52, .goto 9, 3), (55, .aload_n 0, 1), (56, .getfield 49, 3), (59, .iload_n 1, 1), (60, .iaload, 1), (61, .ireturn, 1)]
theorem xd_M_best : xc_M_best.all (fun q => decide (decode prog_12_method_64_code q.1 = .ok (q.2.1, q.2.2))) = true := by decide +kernel
def xc_M_wished : List (Nat × Instr × Nat) := [(0, .iconst 0, 1), (1, .istore_n 1, 1), (2, .iload_n 1, 1), (3, .aload_n 0, 1), (4, .getfield 9, 3), (7, .iconst 3, 1), (8, .iaload, 1), (9, .if_icmp .ge 61, 3), (12, .iconst 0, 1), (13, .istore_n 2, 1), (14, .iload_n 2, 1), (15, .aload_n 0, 1), (16, .getfield 9, 3), (19, .iconst 2, 1), (20, .iaload, 1), (21, .if_icmp .ge 43, 3), (24, .aload_n 0, 1), (25, .getfield 46, 3), (28, .bipush 7, 2), (30, .iload_n 1, 1), (31, .imul, 1), (32, .iload_n 2, 1), (33, .iadd, 1), (34, .aload_n 0, 1), (35, .iload_n 1, 1), (36, .iload_n 2, 1), (37, .invokevirtual 97, 3), (40, .ifCond .eq 16, 3), (43, .aload_n 0, 1), (44, .iload_n 1, 1), (45, .iload_n 2, 1), (46, .invokevirtual 74, 3), (49, .ifCond .le 7, 3), (52, .iconst 1, 1), (53, .goto 4, 3), (56, .iconst (-1), 1), (57, .iastore, 1), (58, .iinc 2 1, 3), (61, .goto (-47), 3), (64, .iinc 1 1, 3), (67, .goto (-65), 3), (70, .aload_n 0, 1), (71, .invokevirtual 214, 3), (74, .aload_n 0, 1), (75, .getfield 43, 3), (78, .iconst 0, 1), (79, .iaload, 1), (80, .ireturn, 1)]
theorem xd_M_wished : xc_M_wished.all (fun q => decide (decode prog_12_method_65_code q.1 = .ok (q.2.1, q.2.2))) = true := by decide +kernel
def xc_M_without : List (Nat × Instr × Nat) := [(0, .aload_n 0, 1), (1, .iload_n 1, 1), (2, .invokevirtual 121, 3), (5, .ifCond .ne 10, 3), (8, .aload_n 0, 1), (9, .ldc 92, 2), (11, .invokevirtual 93, 3), (14, .ireturn, 1), (15, .aload_n 0, 1), (16, .invokevirtual 218, 3), (19, .aload_n 0, 1), (20, .invokevirtual 214, 3), (23, .aload_n 0, 1), (24, .getfield 43, 3), (27, .iconst 0, 1), (28, .iaload, 1), (29, .istore_n 2, 1), (30, .iconst 0, 1), (31, .istore_n 3, 1), (32, .iload_n 3, 1), (33, .aload_n 0, 1), (34, .getfield 9, 3), (37, .iconst 2, 1), (38, .iaload, 1), (39, .if_icmp .ge 21, 3), (42, .aload_n 0, 1), (43, .getfield 46, 3), (46, .bipush 7, 2), (48, .iload_n 1, 1), (49, .imul, 1), (50, .iload_n 3, 1), (51, .iadd, 1), (52, .iconst (-1), 1), (53, .iastore, 1), (54, .iinc 3 1, 3), (57, .goto (-25), 3), (60, .aload_n 0, 1), (61, .invokevirtual 214, 3), (64, .iload_n 2, 1), (65, .aload_n 0, 1), (66, .getfield 43, 3), (69, .iconst 0, 1), (70, .iaload, 1), (71, .isub, 1), (72, .ireturn, 1)]
theorem xd_M_without : xc_M_without.all (fun q => decide (decode prog_12_method_66_code q.1 = .ok (q.2.1, q.2.2))) = true := by decide +kernel
def xc_M_lies : List (Nat × Instr × Nat) := [(0, .aload_n 0, 1), (1, .iload_n 1, 1), (2, .invokevirtual 121, 3), (5, .ifCond .eq 12, 3), (8, .iload_n 2, 1), (9, .iconst 0, 1), (10, .iconst 1, 1), (11, .invokestatic 63, 3), (14, .ifCond .ne 10, 3), (17, .aload_n 0, 1), (18, .ldc 92, 2), (20, .invokevirtual 93, 3), (23, .ireturn, 1), (24, .aload_n 0, 1), (25, .invokevirtual 218, 3), (28, .aload_n 0, 1), (29, .invokevirtual 221, 3), (32, .iconst 0, 1), (33, .istore_n 3, 1), (34, .iload_n 3, 1), (35, .aload_n 0, 1), (36, .getfield 9, 3), (39, .iconst 2, 1), (40, .iaload, 1), (41, .if_icmp .ge 21, 3), (44, .aload_n 0, 1), (45, .getfield 52, 3), (48, .iload_n 3, 1), (49, .aload_n 0, 1), (50, .iload_n 1, 1), (51, .iload_n 3, 1), (52, .invokevirtual 81, 3), (55, .iastore, 1), (56, .iinc 3 1, 3), (59, .goto (-25), 3), (62, .aload_n 0, 1), (63, .getfield 49, 3), (66, .iload_n 1, 1), (67, .iaload, 1), (68, .ifCond .ge 7, 3), (71, .iconst 0, 1), (72, .goto 14, 3), (75, .aload_n 0, 1), (76, .getfield 52, 3), (79, .aload_n 0, 1), (80, .getfield 49, 3), (83, .iload_n 1, 1), (84, .iaload, 1), (85, .iaload, 1), (86, .istore_n 3, 1), (87, .iconst (-1), 1), (88, .istore 4, 2), (90, .iload_n 3, 1), (91, .istore 5, 2), (93, .aload_n 0, 1), (94, .invokevirtual 224, 3), (97, .iconst 0, 1), (98, .istore 6, 2), (100, .iload 6, 2), (102, .bipush 10, 2), (104, .aload_n 0, 1), (105, .getfield 9, 3), (108, .iconst 2, 1), (109, .iaload, 1), (110, .imul, 1), (111, .if_icmp .ge 170, 3), (114, .iload 6, 2), (116, .bipush 10, 2), (118, .irem, 1), (119, .aload_n 0, 1), (120, .getfield 9, 3), (123, .iconst 2, 1), (124, .iaload, 1), (125, .if_icmp .ge 150, 3), (128, .aload_n 0, 1), (129, .iload_n 1, 1), (130, .bipush 6, 2), (132, .iload 6, 2), (134, .bipush 10, 2), (136, .idiv, 1), (137, .invokevirtual 117, 3), (140, .aload_n 0, 1), (141, .iload_n 1, 1), (142, .bipush 7, 2), (144, .iload 6, 2), (146, .bipush 10, 2), (148, .irem, 1), (149, .invokevirtual 117, 3), (152, .aload_n 0, 1), (153, .iload_n 1, 1), (154, .bipush 8, 2), (156, .iconst (-1), 1), (157, .invokevirtual 117, 3), (160, .iconst 0, 1), (161, .istore 7, 2), (163, .iload 7, 2), (165, .aload_n 0, 1), (166, .getfield 9, 3), (169, .iconst 2, 1), (170, .iaload, 1), (171, .if_icmp .ge 42, 3), (174, .aload_n 0, 1), (175, .getfield 46, 3), (178, .bipush 7, 2), (180, .iload_n 1, 1), (181, .imul, 1), (182, .iload 7, 2), (184, .iadd, 1), (185, .aload_n 0, 1), (186, .iload_n 1, 1), (187, .iload 7, 2), (189, .invokevirtual 97, 3), (192, .ifCond .eq 13, 3), (195, .aload_n 0, 1), (196, .iload_n 1, 1), (197, .iload 7, 2), (199, .invokevirtual 81, 3), (202, .goto 4, 3), (205, .iconst (-1), 1), (206, .iastore, 1), (207, .iinc 7 1, 3), (210, .goto (-47), 3), (213, .aload_n 0, 1), (214, .invokevirtual 221, 3), (217, .aload_n 0, 1), (218, .getfield 49, 3), (221, .iload_n 1, 1), (222, .iaload, 1), (223, .ifCond .ge 7, 3), (226, .iconst 0, 1), (227, .goto 14, 3), (230, .aload_n 0, 1), (231, .getfield 52, 3), (234, .aload_n 0, 1), (235, .getfield 49, 3), (238, .iload_n 1, 1), (239, .iaload, 1), (240, .iaload, 1), (241, .istore 7, 2), (243, .iload 7, 2), (245, .iload 5, 2), (247, .if_icmp .le 8, 3), (250, .iload 6, 2), (252, .goto 5, 3), (255, .iload 4, 2), (257, .istore 4, 2), (259, .iload 7, 2), (261, .iload 5, 2), (263, .if_icmp .le 8, 3), (266, .iload 7, 2), (268, .goto 5, 3), (271, .iload 5, 2), (273, .istore 5, 2), (275, .iinc 6 1, 3), (278, .goto (-178), 3), (281, .aload_n 0, 1), (282, .invokevirtual 227, 3), (285, .iload_n 2, 1), (286, .ifCond .ne 8, 3), (289, .iload 4, 2), (291, .goto 7, 3), (294, .iload 5, 2), (296, .iload_n 3, 1), (297, .isub, 1), (298, .ireturn, 1)]
theorem xd_M_lies : xc_M_lies.all (fun q => decide (decode prog_12_method_67_code q.1 = .ok (q.2.1, q.2.2))) = true := by decide +kernel
def xc_M_odds : List (Nat × Instr × Nat) := [(0, .aload_n 0, 1), (1, .iload_n 1, 1), (2, .invokevirtual 121, 3), (5, .ifCond .eq 12, 3), (8, .iload_n 2, 1), (9, .iconst 0, 1), (10, .iconst 1, 1), (11, .invokestatic 63, 3), (14, .ifCond .ne 10, 3), (17, .aload_n 0, 1), (18, .ldc 92, 2), (20, .invokevirtual 93, 3), (23, .ireturn, 1), (24, .iconst 0, 1), (25, .istore_n 3, 1), (26, .iconst 0, 1), (27, .istore 4, 2), (29, .iconst 0, 1), (30, .istore 5, 2), (32, .iload 5, 2), (34, .aload_n 0, 1), (35, .getfield 9, 3), (38, .iconst 2, 1), (39, .iaload, 1), (40, .if_icmp .ge 56, 3), (43, .aload_n 0, 1), (44, .iload_n 1, 1), (45, .iload 5, 2), (47, .invokevirtual 97, 3), (50, .istore 6, 2), (52, .iload 4, 2), (54, .iload 6, 2), (56, .ifCond .eq 7, 3), (59, .iconst 1, 1), (60, .goto 4, 3), (63, .iconst 0, 1), (64, .iadd, 1), (65, .istore 4, 2), (67, .iload_n 3, 1), (68, .iload 6, 2), (70, .ifCond .eq 17, 3), (73, .aload_n 0, 1), (74, .iload_n 1, 1), (75, .iload 5, 2), (77, .invokevirtual 74, 3), (80, .ifCond .le 7, 3), (83, .iconst 1, 1), (84, .goto 4, 3), (87, .iconst 0, 1), (88, .iadd, 1), (89, .istore_n 3, 1), (90, .iinc 5 1, 3), (93, .goto (-61), 3), (96, .iload 4, 2), (98, .ifCond .ne 10, 3), (101, .aload_n 0, 1), (102, .ldc 124, 2), (104, .invokevirtual 93, 3), (107, .ireturn, 1), (108, .iload 4, 2), (110, .istore 5, 2), (112, .iload 5, 2), (114, .iconst 1, 1), (115, .if_icmp .le 36, 3), (118, .iload_n 3, 1), (119, .iload 5, 2), (121, .irem, 1), (122, .ifCond .ne 23, 3), (125, .iload 4, 2), (127, .iload 5, 2), (129, .irem, 1), (130, .ifCond .ne 15, 3), (133, .iload_n 3, 1), (134, .iload 5, 2), (136, .idiv, 1), (137, .istore_n 3, 1), (138, .iload 4, 2), (140, .iload 5, 2), (142, .idiv, 1), (143, .istore 4, 2), (145, .iinc 5 (-1), 3), (148, .goto (-36), 3), (151, .iload_n 2, 1), (152, .ifCond .ne 7, 3), (155, .iload_n 3, 1), (156, .goto 5, 3), (159, .iload 4, 2), (161, .ireturn, 1)]
theorem xd_M_odds : xc_M_odds.all (fun q => decide (decode prog_12_method_68_code q.1 = .ok (q.2.1, q.2.2))) = true := by decide +kernel
def xc_M_rightOf : List (Nat × Instr × Nat) := [(0, .iconst 0, 1), (1, .istore_n 2, 1), (2, .iload_n 2, 1), (3, .aload_n 0, 1), (4, .getfield 25, 3), (7, .iload_n 1, 1), (8, .iaload, 1), (9, .if_icmp .ge 39, 3), (12, .iload_n 2, 1), (13, .aload_n 0, 1), (14, .getfield 9, 3), (17, .iconst 3, 1), (18, .iaload, 1), (19, .if_icmp .ge 29, 3), (22, .aload_n 0, 1), (23, .getfield 28, 3), (26, .bipush 24, 2), (28, .iload_n 1, 1), (29, .imul, 1), (30, .iload_n 2, 1), (31, .iadd, 1), (32, .iaload, 1), (33, .aload_n 0, 1), (34, .iload_n 2, 1), (35, .iconst 5, 1), (36, .invokevirtual 71, 3), (39, .if_icmp .ne 9, 3), (42, .iinc 2 1, 3), (45, .goto (-43), 3), (48, .iload_n 2, 1), (49, .ireturn, 1)]
theorem xd_M_rightOf : xc_M_rightOf.all (fun q => decide (decode prog_12_method_69_code q.1 = .ok (q.2.1, q.2.2))) = true := by decide +kernel
def xc_M_fits : List (Nat × Instr × Nat) := [(0, .iload_n 1, 1), (1, .invokestatic 230, 3), (4, .ifCond .eq 12, 3), (7, .iload_n 2, 1), (8, .iconst 0, 1), (9, .iconst 1, 1), (10, .invokestatic 63, 3), (13, .ifCond .ne 10, 3), (16, .aload_n 0, 1), (17, .ldc 92, 2), (19, .invokevirtual 93, 3), (22, .ireturn, 1), (23, .aload_n 0, 1), (24, .getfield 22, 3), (27, .iload_n 1, 1), (28, .iaload, 1), (29, .ifCond .ne 10, 3), (32, .aload_n 0, 1), (33, .ldc 217, 2), (35, .invokevirtual 93, 3), (38, .ireturn, 1), (39, .aload_n 0, 1), (40, .invokevirtual 224, 3), (43, .iconst 0, 1), (44, .istore_n 3, 1), (45, .iconst (-1), 1), (46, .istore 4, 2), (48, .sipush 255, 3), (51, .istore 5, 2), (53, .iload 5, 2), (55, .ifCond .lt 70, 3), (58, .aload_n 0, 1), (59, .getfield 9, 3), (62, .iconst 1, 1), (63, .iload 5, 2), (65, .iastore, 1), (66, .aload_n 0, 1), (67, .invokevirtual 211, 3), (70, .pop, 1), (71, .aload_n 0, 1), (72, .iload_n 1, 1), (73, .invokevirtual 233, 3), (76, .aload_n 0, 1), (77, .getfield 25, 3), (80, .iload_n 1, 1), (81, .iaload, 1), (82, .if_icmp .ne 7, 3), (85, .iconst 1, 1), (86, .goto 4, 3), (89, .iconst 0, 1), (90, .istore 6, 2), (92, .iload_n 3, 1), (93, .iload 6, 2), (95, .ifCond .eq 7, 3), (98, .iconst 1, 1), (99, .goto 4, 3), (102, .iconst 0, 1), (103, .iadd, 1), (104, .istore_n 3, 1), (105, .iload 6, 2), (107, .ifCond .eq 8, 3), (110, .iload 5, 2), (112, .goto 5, 3), (115, .iload 4, 2), (117, .istore 4, 2), (119, .iinc 5 (-1), 3), (122, .goto (-69), 3), (125, .aload_n 0, 1), (126, .invokevirtual 227, 3), (129, .iload_n 2, 1), (130, .ifCond .ne 7, 3), (133, .iload_n 3, 1), (134, .goto 19, 3), (137, .iload 4, 2), (139, .ifCond .ge 12, 3), (142, .aload_n 0, 1), (143, .ldc 217, 2), (145, .invokevirtual 93, 3), (148, .goto 5, 3), (151, .iload 4, 2), (153, .ireturn, 1)]
theorem xd_M_fits : xc_M_fits.all (fun q => decide (decode prog_12_method_70_code q.1 = .ok (q.2.1, q.2.2))) = true := by decide +kernel
def xc_M_begins : List (Nat × Instr × Nat) := [(0, .aload_n 0, 1), (1, .getfield 236, 3), (4, .bipush 30, 2), (6, .if_icmp .ge 23, 3), (9, .aload_n 0, 1), (10, .getfield 55, 3), (13, .aload_n 0, 1), (14, .getfield 236, 3), (17, .iload_n 1, 1), (18, .iastore, 1), (19, .aload_n 0, 1), (20, .dup, 1), (21, .getfield 236, 3), (24, .iconst 1, 1), (25, .iadd, 1), (26, .putfield 236, 3), (29, .return_, 1)]
theorem xd_M_begins : xc_M_begins.all (fun q => decide (decode prog_12_method_71_code q.1 = .ok (q.2.1, q.2.2))) = true := by decide +kernel
def xc_M_plainSays : List (Nat × Instr × Nat) := [(0, .aload_n 0, 1), (1, .bipush 10, 2), (3, .invokevirtual 239, 3), (6, .iload_n 2, 1), (7, .iload_n 1, 1), (8, .iadd, 1), (9, .ireturn, 1)]
theorem xd_M_plainSays : xc_M_plainSays.all (fun q => decide (decode prog_12_method_72_code q.1 = .ok (q.2.1, q.2.2))) = true := by decide +kernel
def xc_M_speakerSays : List (Nat × Instr × Nat) := [(0, .aload_n 0, 1), (1, .bipush 20, 2), (3, .invokevirtual 239, 3), (6, .aload_n 0, 1), (7, .iload_n 1, 1), (8, .iload_n 2, 1), (9, .invokevirtual 242, 3), (12, .iconst 4, 1), (13, .isub, 1), (14, .ireturn, 1)]
theorem xd_M_speakerSays : xc_M_speakerSays.all (fun q => decide (decode prog_12_method_73_code q.1 = .ok (q.2.1, q.2.2))) = true := by decide +kernel
def xc_M_says : List (Nat × Instr × Nat) := [(0, .aload_n 0, 1), (1, .iload_n 1, 1), (2, .iconst 0, 1), (3, .invokevirtual 67, 3), (6, .lookupswitch 65 #[(1, 34), (4, 41), (6, 56)], 34), (40, .aload_n 0, 1), (41, .iload_n 1, 1), (42, .iload_n 2, 1), (43, .invokevirtual 245, 3), (46, .ireturn, 1), (47, .aload_n 0, 1), (48, .bipush 50, 2), (50, .invokevirtual 239, 3), (53, .aload_n 0, 1), (54, .iload_n 1, 1), (55, .iload_n 2, 1), (56, .invokevirtual 245, 3), (59, .iconst 3, 1), (60, .imul, 1), (61, .ireturn, 1), (62, .aload_n 0, 1), (63, .bipush 70, 2), (65, .invokevirtual 239, 3), (68, .bipush 9, 2), (70, .ireturn, 1), (71, .aload_n 0, 1), (72, .iload_n 1, 1), (73, .iload_n 2, 1), (74, .invokevirtual 242, 3), (77, .ireturn, 1)]
theorem xd_M_says : xc_M_says.all (fun q => decide (decode prog_12_method_74_code q.1 = .ok (q.2.1, q.2.2))) = true := by decide +kernel
def xc_M_plainSings : List (Nat × Instr × Nat) := [(0, .aload_n 0, 1), (1, .bipush 11, 2), (3, .invokevirtual 239, 3), (6, .aload_n 0, 1), (7, .iload_n 1, 1), (8, .iload_n 2, 1), (9, .invokevirtual 248, 3), (12, .iconst 2, 1), (13, .imul, 1), (14, .ireturn, 1)]
theorem xd_M_plainSings : xc_M_plainSings.all (fun q => decide (decode prog_12_method_75_code q.1 = .ok (q.2.1, q.2.2))) = true := by decide +kernel
def xc_M_crownSings : List (Nat × Instr × Nat) := [(0, .aload_n 0, 1), (1, .bipush 30, 2), (3, .invokevirtual 239, 3), (6, .aload_n 0, 1), (7, .iload_n 1, 1), (8, .iload_n 2, 1), (9, .invokevirtual 251, 3), (12, .ineg, 1), (13, .ireturn, 1)]
theorem xd_M_crownSings : xc_M_crownSings.all (fun q => decide (decode prog_12_method_76_code q.1 = .ok (q.2.1, q.2.2))) = true := by decide +kernel
def xc_M_sings : List (Nat × Instr × Nat) := [(0, .aload_n 0, 1), (1, .iload_n 1, 1), (2, .iconst 0, 1), (3, .invokevirtual 67, 3), (6, .tableswitch 76 2 6 #[34, 76, 76, 41, 56], 34), (40, .aload_n 0, 1), (41, .iload_n 1, 1), (42, .iload_n 2, 1), (43, .invokevirtual 254, 3), (46, .ireturn, 1), (47, .aload_n 0, 1), (48, .bipush 60, 2), (50, .invokevirtual 239, 3), (53, .aload_n 0, 1), (54, .iload_n 1, 1), (55, .iload_n 2, 1), (56, .iconst 1, 1), (57, .iadd, 1), (58, .invokevirtual 254, 3), (61, .ireturn, 1), (62, .aload_n 0, 1), (63, .bipush 71, 2), (65, .invokevirtual 239, 3), (68, .aload_n 0, 1), (69, .iload_n 1, 1), (70, .iload_n 2, 1), (71, .invokevirtual 251, 3), (74, .aload_n 0, 1), (75, .iload_n 1, 1), (76, .iconst 1, 1), (77, .invokevirtual 67, 3), (80, .iadd, 1), (81, .ireturn, 1), (82, .aload_n 0, 1), (83, .iload_n 1, 1), (84, .iload_n 2, 1), (85, .invokevirtual 251, 3), (88, .ireturn, 1)]
theorem xd_M_sings : xc_M_sings.all (fun q => decide (decode prog_12_method_77_code q.1 = .ok (q.2.1, q.2.2))) = true := by decide +kernel
def xc_M_plainWaits : List (Nat × Instr × Nat) := [(0, .aload_n 0, 1), (1, .bipush 12, 2), (3, .invokevirtual 239, 3), (6, .aload_n 0, 1), (7, .iload_n 1, 1), (8, .iload_n 2, 1), (9, .invokevirtual 257, 3), (12, .aload_n 0, 1), (13, .iload_n 1, 1), (14, .iconst 1, 1), (15, .invokevirtual 67, 3), (18, .isub, 1), (19, .ireturn, 1)]
theorem xd_M_plainWaits : xc_M_plainWaits.all (fun q => decide (decode prog_12_method_78_code q.1 = .ok (q.2.1, q.2.2))) = true := by decide +kernel
def xc_M_waits : List (Nat × Instr × Nat) := [(0, .aload_n 0, 1), (1, .iload_n 1, 1), (2, .iconst 0, 1), (3, .invokevirtual 67, 3), (6, .lookupswitch 56 #[(3, 26), (4, 41)], 26), (32, .aload_n 0, 1), (33, .bipush 40, 2), (35, .invokevirtual 239, 3), (38, .aload_n 0, 1), (39, .iload_n 1, 1), (40, .iload_n 2, 1), (41, .iconst 2, 1), (42, .idiv, 1), (43, .invokevirtual 260, 3), (46, .ireturn, 1), (47, .aload_n 0, 1), (48, .bipush 51, 2), (50, .invokevirtual 239, 3), (53, .aload_n 0, 1), (54, .iload_n 1, 1), (55, .iload_n 2, 1), (56, .invokevirtual 260, 3), (59, .iload_n 1, 1), (60, .ixor, 1), (61, .ireturn, 1), (62, .aload_n 0, 1), (63, .iload_n 1, 1), (64, .iload_n 2, 1), (65, .invokevirtual 260, 3), (68, .ireturn, 1)]
theorem xd_M_waits : xc_M_waits.all (fun q => decide (decode prog_12_method_79_code q.1 = .ok (q.2.1, q.2.2))) = true := by decide +kernel
def xc_M_plainParts : List (Nat × Instr × Nat) := [(0, .aload_n 0, 1), (1, .bipush 13, 2), (3, .invokevirtual 239, 3), (6, .aload_n 0, 1), (7, .iload_n 1, 1), (8, .iconst 1, 1), (9, .invokevirtual 67, 3), (12, .iload_n 1, 1), (13, .isub, 1), (14, .istore_n 3, 1), (15, .aload_n 0, 1), (16, .iload_n 3, 1), (17, .ifCond .ne 7, 3), (20, .iconst 1, 1), (21, .goto 4, 3), (24, .iconst 0, 1), (25, .putfield 263, 3), (28, .aload_n 0, 1), (29, .getfield 263, 3), (32, .ifCond .eq 7, 3), (35, .iconst 0, 1), (36, .goto 6, 3), (39, .iload_n 2, 1), (40, .iload_n 3, 1), (41, .idiv, 1), (42, .ireturn, 1)]
theorem xd_M_plainParts : xc_M_plainParts.all (fun q => decide (decode prog_12_method_80_code q.1 = .ok (q.2.1, q.2.2))) = true := by decide +kernel
def xc_M_partsBy : List (Nat × Instr × Nat) := [(0, .aload_n 0, 1), (1, .iload_n 1, 1), (2, .iconst 0, 1), (3, .invokevirtual 67, 3), (6, .iconst 1, 1), (7, .if_icmp .eq 13, 3), (10, .aload_n 0, 1), (11, .iload_n 1, 1), (12, .iconst 0, 1), (13, .invokevirtual 67, 3), (16, .iconst 4, 1), (17, .if_icmp .ne 36, 3), (20, .aload_n 0, 1), (21, .bipush 21, 2), (23, .invokevirtual 239, 3), (26, .aload_n 0, 1), (27, .iload_n 1, 1), (28, .iload_n 2, 1), (29, .invokevirtual 266, 3), (32, .istore_n 3, 1), (33, .aload_n 0, 1), (34, .getfield 263, 3), (37, .ifCond .eq 7, 3), (40, .iconst 0, 1), (41, .goto 11, 3), (44, .iload_n 3, 1), (45, .aload_n 0, 1), (46, .iload_n 1, 1), (47, .iconst 1, 1), (48, .invokevirtual 257, 3), (51, .iadd, 1), (52, .ireturn, 1), (53, .aload_n 0, 1), (54, .iload_n 1, 1), (55, .iload_n 2, 1), (56, .invokevirtual 266, 3), (59, .ireturn, 1)]
theorem xd_M_partsBy : xc_M_partsBy.all (fun q => decide (decode prog_12_method_81_code q.1 = .ok (q.2.1, q.2.2))) = true := by decide +kernel
def xc_M_voice : List (Nat × Instr × Nat) := [(0, .aload_n 0, 1), (1, .iload_n 1, 1), (2, .invokevirtual 101, 3), (5, .ifCond .eq 12, 3), (8, .iload_n 2, 1), (9, .iconst 0, 1), (10, .iconst 3, 1), (11, .invokestatic 63, 3), (14, .ifCond .ne 10, 3), (17, .aload_n 0, 1), (18, .ldc 92, 2), (20, .invokevirtual 93, 3), (23, .ireturn, 1), (24, .aload_n 0, 1), (25, .iconst 0, 1), (26, .putfield 236, 3), (29, .aload_n 0, 1), (30, .iconst 0, 1), (31, .putfield 263, 3), (34, .iload_n 2, 1), (35, .ifCond .ne 12, 3), (38, .aload_n 0, 1), (39, .iload_n 1, 1), (40, .iload_n 3, 1), (41, .invokevirtual 248, 3), (44, .goto 37, 3), (47, .iload_n 2, 1), (48, .iconst 1, 1), (49, .if_icmp .ne 12, 3), (52, .aload_n 0, 1), (53, .iload_n 1, 1), (54, .iload_n 3, 1), (55, .invokevirtual 257, 3), (58, .goto 23, 3), (61, .iload_n 2, 1), (62, .iconst 2, 1), (63, .if_icmp .ne 12, 3), (66, .aload_n 0, 1), (67, .iload_n 1, 1), (68, .iload_n 3, 1), (69, .invokevirtual 269, 3), (72, .goto 9, 3), (75, .aload_n 0, 1), (76, .iload_n 1, 1), (77, .iload_n 3, 1), (78, .invokevirtual 272, 3), (81, .istore 4, 2), (83, .aload_n 0, 1), (84, .getfield 263, 3), (87, .ifCond .eq 13, 3), (90, .aload_n 0, 1), (91, .ldc_w 275, 3), (94, .invokevirtual 93, 3), (97, .goto 5, 3), (100, .iload 4, 2), (102, .ireturn, 1)]
theorem xd_M_voice : xc_M_voice.all (fun q => decide (decode prog_12_method_82_code q.1 = .ok (q.2.1, q.2.2))) = true := by decide +kernel
def xc_M_body : List (Nat × Instr × Nat) := [(0, .iload_n 1, 1), (1, .iconst 0, 1), (2, .aload_n 0, 1), (3, .getfield 236, 3), (6, .iconst 1, 1), (7, .isub, 1), (8, .invokestatic 63, 3), (11, .ifCond .eq 12, 3), (14, .aload_n 0, 1), (15, .getfield 55, 3), (18, .iload_n 1, 1), (19, .iaload, 1), (20, .goto 9, 3), (23, .aload_n 0, 1), (24, .ldc 217, 2), (26, .invokevirtual 93, 3), (29, .ireturn, 1)]
theorem xd_M_body : xc_M_body.all (fun q => decide (decode prog_12_method_83_code q.1 = .ok (q.2.1, q.2.2))) = true := by decide +kernel
def xc_M_isSheet : List (Nat × Instr × Nat) := [(0, .iload_n 0, 1), (1, .iconst 0, 1), (2, .iconst 3, 1), (3, .invokestatic 63, 3), (6, .ireturn, 1)]
theorem xd_M_isSheet : xc_M_isSheet.all (fun q => decide (decode prog_12_method_84_code q.1 = .ok (q.2.1, q.2.2))) = true := by decide +kernel
def xc_M_sheet : List (Nat × Instr × Nat) := [(0, .iload_n 1, 1), (1, .invokestatic 230, 3), (4, .ifCond .eq 25, 3), (7, .iload_n 2, 1), (8, .ifCond .eq 28, 3), (11, .iload_n 2, 1), (12, .bipush 8, 2), (14, .if_icmp .eq 22, 3), (17, .iload_n 2, 1), (18, .bipush 16, 2), (20, .if_icmp .eq 16, 3), (23, .iload_n 2, 1), (24, .bipush 32, 2), (26, .if_icmp .eq 10, 3), (29, .aload_n 0, 1), (30, .ldc 92, 2), (32, .invokevirtual 93, 3), (35, .ireturn, 1), (36, .iload_n 2, 1), (37, .ifCond .le 14, 3), (40, .iload_n 3, 1), (41, .ifCond .ge 10, 3), (44, .aload_n 0, 1), (45, .ldc 124, 2), (47, .invokevirtual 93, 3), (50, .ireturn, 1), (51, .iload_n 2, 1), (52, .ifCond .le 16, 3), (55, .iload_n 3, 1), (56, .bipush 24, 2), (58, .if_icmp .le 10, 3), (61, .aload_n 0, 1), (62, .ldc 92, 2), (64, .invokevirtual 93, 3), (67, .ireturn, 1), (68, .aload_n 0, 1), (69, .getfield 22, 3), (72, .iload_n 1, 1), (73, .iload_n 2, 1), (74, .iastore, 1), (75, .aload_n 0, 1), (76, .getfield 25, 3), (79, .iload_n 1, 1), (80, .iload_n 2, 1), (81, .ifCond .ne 7, 3), (84, .iconst 0, 1), (85, .goto 4, 3), (88, .iload_n 3, 1), (89, .iastore, 1), (90, .iconst 0, 1), (91, .istore 4, 2), (93, .iload 4, 2), (95, .bipush 24, 2), (97, .if_icmp .ge 22, 3), (100, .aload_n 0, 1), (101, .getfield 28, 3), (104, .bipush 24, 2), (106, .iload_n 1, 1), (107, .imul, 1), (108, .iload 4, 2), (110, .iadd, 1), (111, .iconst 0, 1), (112, .iastore, 1), (113, .iinc 4 1, 3), (116, .goto (-23), 3), (119, .iconst 1, 1), (120, .ireturn, 1)]
theorem xd_M_sheet : xc_M_sheet.all (fun q => decide (decode prog_12_method_85_code q.1 = .ok (q.2.1, q.2.2))) = true := by decide +kernel
def xc_M_notThere : List (Nat × Instr × Nat) := [(0, .iload_n 1, 1), (1, .invokestatic 230, 3), (4, .ifCond .ne 8, 3), (7, .ldc 92, 2), (9, .goto 18, 3), (12, .aload_n 0, 1), (13, .getfield 22, 3), (16, .iload_n 1, 1), (17, .iaload, 1), (18, .ifCond .ne 8, 3), (21, .ldc 217, 2), (23, .goto 4, 3), (26, .iconst 0, 1), (27, .ireturn, 1)]
theorem xd_M_notThere : xc_M_notThere.all (fun q => decide (decode prog_12_method_86_code q.1 = .ok (q.2.1, q.2.2))) = true := by decide +kernel
def xc_M_put : List (Nat × Instr × Nat) := [(0, .aload_n 0, 1), (1, .iload_n 1, 1), (2, .invokevirtual 276, 3), (5, .istore 4, 2), (7, .iload 4, 2), (9, .ifCond .ne 24, 3), (12, .iload_n 2, 1), (13, .iconst 0, 1), (14, .aload_n 0, 1), (15, .getfield 25, 3), (18, .iload_n 1, 1), (19, .iaload, 1), (20, .iconst 1, 1), (21, .isub, 1), (22, .invokestatic 63, 3), (25, .ifCond .ne 8, 3), (28, .ldc 92, 2), (30, .goto 5, 3), (33, .iload 4, 2), (35, .istore 4, 2), (37, .iload 4, 2), (39, .ifCond .eq 10, 3), (42, .aload_n 0, 1), (43, .iload 4, 2), (45, .invokevirtual 93, 3), (48, .ireturn, 1), (49, .aload_n 0, 1), (50, .getfield 28, 3), (53, .bipush 24, 2), (55, .iload_n 1, 1), (56, .imul, 1), (57, .iload_n 2, 1), (58, .iadd, 1), (59, .aload_n 0, 1), (60, .getfield 22, 3), (63, .iload_n 1, 1), (64, .iaload, 1), (65, .bipush 8, 2), (67, .if_icmp .ne 8, 3), (70, .iload_n 3, 1), (71, .i2b, 1), (72, .goto 20, 3), (75, .aload_n 0, 1), (76, .getfield 22, 3), (79, .iload_n 1, 1), (80, .iaload, 1), (81, .bipush 16, 2), (83, .if_icmp .ne 8, 3), (86, .iload_n 3, 1), (87, .i2s, 1), (88, .goto 4, 3), (91, .iload_n 3, 1), (92, .iastore, 1), (93, .iconst 1, 1), (94, .ireturn, 1)]
theorem xd_M_put : xc_M_put.all (fun q => decide (decode prog_12_method_87_code q.1 = .ok (q.2.1, q.2.2))) = true := by decide +kernel
def xc_M_notMoved : List (Nat × Instr × Nat) := [(0, .iload_n 1, 1), (1, .invokestatic 230, 3), (4, .ifCond .eq 10, 3), (7, .iload_n 3, 1), (8, .invokestatic 230, 3), (11, .ifCond .ne 6, 3), (14, .ldc 92, 2), (16, .ireturn, 1), (17, .aload_n 0, 1), (18, .getfield 22, 3), (21, .iload_n 1, 1), (22, .iaload, 1), (23, .ifCond .eq 12, 3), (26, .aload_n 0, 1), (27, .getfield 22, 3), (30, .iload_n 3, 1), (31, .iaload, 1), (32, .ifCond .ne 6, 3), (35, .ldc 217, 2), (37, .ireturn, 1), (38, .aload_n 0, 1), (39, .getfield 22, 3), (42, .iload_n 1, 1), (43, .iaload, 1), (44, .aload_n 0, 1), (45, .getfield 22, 3), (48, .iload_n 3, 1), (49, .iaload, 1), (50, .if_icmp .eq 6, 3), (53, .ldc 116, 2), (55, .ireturn, 1), (56, .iload 5, 2), (58, .ifCond .lt 43, 3), (61, .iload_n 2, 1), (62, .ifCond .lt 39, 3), (65, .iload 4, 2), (67, .ifCond .lt 34, 3), (70, .iload 5, 2), (72, .aload_n 0, 1), (73, .getfield 25, 3), (76, .iload_n 1, 1), (77, .iaload, 1), (78, .iload_n 2, 1), (79, .isub, 1), (80, .if_icmp .gt 21, 3), (83, .iload 5, 2), (85, .aload_n 0, 1), (86, .getfield 25, 3), (89, .iload_n 3, 1), (90, .iaload, 1), (91, .iload 4, 2), (93, .isub, 1), (94, .if_icmp .gt 7, 3), (97, .iconst 1, 1), (98, .goto 4, 3), (101, .iconst 0, 1), (102, .istore 6, 2), (104, .iload 6, 2), (106, .ifCond .eq 7, 3), (109, .iconst 0, 1), (110, .goto 5, 3), (113, .ldc 92, 2), (115, .ireturn, 1)]
theorem xd_M_notMoved : xc_M_notMoved.all (fun q => decide (decode prog_12_method_88_code q.1 = .ok (q.2.1, q.2.2))) = true := by decide +kernel
def xc_M_move : List (Nat × Instr × Nat) := [(0, .aload_n 0, 1), (1, .iload_n 1, 1), (2, .iload_n 2, 1), (3, .iload_n 3, 1), (4, .iload 4, 2), (6, .iload 5, 2), (8, .invokevirtual 279, 3), (11, .istore 6, 2), (13, .iload 6, 2), (15, .ifCond .eq 10, 3), (18, .aload_n 0, 1), (19, .iload 6, 2), (21, .invokevirtual 93, 3), (24, .ireturn, 1), (25, .iconst 0, 1), (26, .istore 7, 2), (28, .iload 7, 2), (30, .iload 5, 2), (32, .if_icmp .ge 58, 3), (35, .iload_n 2, 1), (36, .iload 4, 2), (38, .if_icmp .ge 13, 3), (41, .iload 5, 2), (43, .iconst 1, 1), (44, .isub, 1), (45, .iload 7, 2), (47, .isub, 1), (48, .goto 5, 3), (51, .iload 7, 2), (53, .istore 8, 2), (55, .aload_n 0, 1), (56, .getfield 28, 3), (59, .bipush 24, 2), (61, .iload_n 3, 1), (62, .imul, 1), (63, .iload 4, 2), (65, .iadd, 1), (66, .iload 8, 2), (68, .iadd, 1), (69, .aload_n 0, 1), (70, .getfield 28, 3), (73, .bipush 24, 2), (75, .iload_n 1, 1), (76, .imul, 1), (77, .iload_n 2, 1), (78, .iadd, 1), (79, .iload 8, 2), (81, .iadd, 1), (82, .iaload, 1), (83, .iastore, 1), (84, .iinc 7 1, 3), (87, .goto (-59), 3), (90, .iload 5, 2), (92, .ireturn, 1)]
theorem xd_M_move : xc_M_move.all (fun q => decide (decode prog_12_method_89_code q.1 = .ok (q.2.1, q.2.2))) = true := by decide +kernel
def xc_M_casts : List (Nat × Instr × Nat) := [(0, .aload_n 0, 1), (1, .iload_n 1, 1), (2, .invokevirtual 276, 3), (5, .istore_n 2, 1), (6, .iload_n 2, 1), (7, .ifCond .eq 9, 3), (10, .aload_n 0, 1), (11, .iload_n 2, 1), (12, .invokevirtual 93, 3), (15, .ireturn, 1), (16, .aload_n 0, 1), (17, .invokevirtual 199, 3), (20, .iconst 0, 1), (21, .istore_n 3, 1), (22, .iconst 1, 1), (23, .istore 4, 2), (25, .iload_n 3, 1), (26, .aload_n 0, 1), (27, .getfield 25, 3), (30, .iload_n 1, 1), (31, .iaload, 1), (32, .if_icmp .ge 91, 3), (35, .iload_n 3, 1), (36, .aload_n 0, 1), (37, .getfield 9, 3), (40, .iconst 3, 1), (41, .iaload, 1), (42, .if_icmp .ge 81, 3), (45, .iload 4, 2), (47, .ifCond .eq 76, 3), (50, .aload_n 0, 1), (51, .getfield 28, 3), (54, .bipush 24, 2), (56, .iload_n 1, 1), (57, .imul, 1), (58, .iload_n 3, 1), (59, .iadd, 1), (60, .iaload, 1), (61, .istore 5, 2), (63, .iload 5, 2), (65, .iconst (-1), 1), (66, .if_icmp .eq 31, 3), (69, .aload_n 0, 1), (70, .iload 5, 2), (72, .invokevirtual 101, 3), (75, .ifCond .eq 26, 3), (78, .aload_n 0, 1), (79, .iload_n 3, 1), (80, .iload 5, 2), (82, .invokevirtual 97, 3), (85, .ifCond .eq 16, 3), (88, .aload_n 0, 1), (89, .iload 5, 2), (91, .invokevirtual 107, 3), (94, .ifCond .ge 7, 3), (97, .iconst 1, 1), (98, .goto 4, 3), (101, .iconst 0, 1), (102, .istore 4, 2), (104, .iload 4, 2), (106, .ifCond .eq 14, 3), (109, .aload_n 0, 1), (110, .iload_n 3, 1), (111, .iconst 5, 1), (112, .iload 5, 2), (114, .invokevirtual 117, 3), (117, .iinc 3 1, 3), (120, .goto (-95), 3), (123, .iload_n 3, 1), (124, .ireturn, 1)]
theorem xd_M_casts : xc_M_casts.all (fun q => decide (decode prog_12_method_90_code q.1 = .ok (q.2.1, q.2.2))) = true := by decide +kernel
def xc_M_judge : List (Nat × Instr × Nat) := [(0, .aload_n 0, 1), (1, .iload_n 1, 1), (2, .invokevirtual 276, 3), (5, .istore_n 2, 1), (6, .iload_n 2, 1), (7, .ifCond .eq 11, 3), (10, .aload_n 0, 1), (11, .iload_n 2, 1), (12, .invokevirtual 93, 3), (15, .goto 8, 3), (18, .aload_n 0, 1), (19, .iload_n 1, 1), (20, .invokevirtual 233, 3), (23, .ireturn, 1)]
theorem xd_M_judge : xc_M_judge.all (fun q => decide (decode prog_12_method_91_code q.1 = .ok (q.2.1, q.2.2))) = true := by decide +kernel
def xc_M_image : List (Nat × Instr × Nat) := [(0, .aload_n 0, 1), (1, .getfield 9, 3), (4, .aload_n 0, 1), (5, .getfield 13, 3), (8, .invokestatic 59, 3), (11, .aload_n 0, 1), (12, .dup, 1), (13, .getfield 283, 3), (16, .iconst 1, 1), (17, .iadd, 1), (18, .putfield 283, 3), (21, .aload_n 0, 1), (22, .getfield 283, 3), (25, .ireturn, 1)]
theorem xd_M_image : xc_M_image.all (fun q => decide (decode prog_12_method_92_code q.1 = .ok (q.2.1, q.2.2))) = true := by decide +kernel
def xc_M_restore : List (Nat × Instr × Nat) := [(0, .aload_n 0, 1), (1, .getfield 283, 3), (4, .ifCond .ne 10, 3), (7, .aload_n 0, 1), (8, .ldc 217, 2), (10, .invokevirtual 93, 3), (13, .ireturn, 1), (14, .aload_n 0, 1), (15, .getfield 13, 3), (18, .aload_n 0, 1), (19, .getfield 9, 3), (22, .invokestatic 59, 3), (25, .aload_n 0, 1), (26, .getfield 9, 3), (29, .iconst 0, 1), (30, .iaload, 1), (31, .ireturn, 1)]
theorem xd_M_restore : xc_M_restore.all (fun q => decide (decode prog_12_method_93_code q.1 = .ok (q.2.1, q.2.2))) = true := by decide +kernel
def xc_M_tell : List (Nat × Instr × Nat) := [(0, .aload_n 0, 1), (1, .getfield 9, 3), (4, .bipush 6, 2), (6, .iaload, 1), (7, .bipush 24, 2), (9, .if_icmp .ne 10, 3), (12, .aload_n 0, 1), (13, .ldc 96, 2), (15, .invokevirtual 93, 3), (18, .ireturn, 1), (19, .aload_n 0, 1), (20, .getfield 9, 3), (23, .sipush 144, 3), (26, .aload_n 0, 1), (27, .getfield 9, 3), (30, .bipush 6, 2), (32, .iaload, 1), (33, .iadd, 1), (34, .iload_n 1, 1), (35, .iastore, 1), (36, .aload_n 0, 1), (37, .getfield 9, 3), (40, .bipush 6, 2), (42, .dup2, 1), (43, .iaload, 1), (44, .iconst 1, 1), (45, .iadd, 1), (46, .iastore, 1), (47, .aload_n 0, 1), (48, .getfield 9, 3), (51, .bipush 6, 2), (53, .iaload, 1), (54, .ireturn, 1)]
theorem xd_M_tell : xc_M_tell.all (fun q => decide (decode prog_12_method_94_code q.1 = .ok (q.2.1, q.2.2))) = true := by decide +kernel
def xc_M_check : List (Nat × Instr × Nat) := [(0, .aload_n 0, 1), (1, .getfield 9, 3), (4, .bipush 6, 2), (6, .iaload, 1), (7, .istore_n 1, 1), (8, .aload_n 0, 1), (9, .getfield 9, 3), (12, .bipush 6, 2), (14, .iconst 0, 1), (15, .iastore, 1), (16, .iconst 0, 1), (17, .istore_n 2, 1), (18, .iload_n 2, 1), (19, .iload_n 1, 1), (20, .if_icmp .ge 39, 3), (23, .aload_n 0, 1), (24, .iload_n 2, 1), (25, .invokevirtual 121, 3), (28, .ifCond .eq 21, 3), (31, .aload_n 0, 1), (32, .getfield 9, 3), (35, .sipush 144, 3), (38, .iload_n 2, 1), (39, .iadd, 1), (40, .iaload, 1), (41, .aload_n 0, 1), (42, .iload_n 2, 1), (43, .invokevirtual 84, 3), (46, .if_icmp .eq 7, 3), (49, .iconst 1, 1), (50, .iload_n 2, 1), (51, .iadd, 1), (52, .ireturn, 1), (53, .iinc 2 1, 3), (56, .goto (-38), 3), (59, .iconst 0, 1), (60, .ireturn, 1)]
theorem xd_M_check : xc_M_check.all (fun q => decide (decode prog_12_method_95_code q.1 = .ok (q.2.1, q.2.2))) = true := by decide +kernel
def xc_M_count : List (Nat × Instr × Nat) := [(0, .iload_n 1, 1), (1, .tableswitch 102 0 7 #[47, 54, 61, 68, 75, 82, 90, 95], 47), (48, .aload_n 0, 1), (49, .getfield 9, 3), (52, .iconst 2, 1), (53, .iaload, 1), (54, .ireturn, 1), (55, .aload_n 0, 1), (56, .getfield 9, 3), (59, .iconst 3, 1), (60, .iaload, 1), (61, .ireturn, 1), (62, .aload_n 0, 1), (63, .getfield 9, 3), (66, .iconst 0, 1), (67, .iaload, 1), (68, .ireturn, 1), (69, .aload_n 0, 1), (70, .getfield 9, 3), (73, .iconst 4, 1), (74, .iaload, 1), (75, .ireturn, 1), (76, .aload_n 0, 1), (77, .getfield 9, 3), (80, .iconst 5, 1), (81, .iaload, 1), (82, .ireturn, 1), (83, .aload_n 0, 1), (84, .getfield 9, 3), (87, .bipush 6, 2), (89, .iaload, 1), (90, .ireturn, 1), (91, .aload_n 0, 1), (92, .getfield 236, 3), (95, .ireturn, 1), (96, .aload_n 0, 1), (97, .getfield 9, 3), (100, .iconst 1, 1), (101, .iaload, 1), (102, .ireturn, 1), (103, .aload_n 0, 1), (104, .ldc 92, 2), (106, .invokevirtual 93, 3), (109, .ireturn, 1)]
theorem xd_M_count : xc_M_count.all (fun q => decide (decode prog_12_method_96_code q.1 = .ok (q.2.1, q.2.2))) = true := by decide +kernel
def xc_M_told : List (Nat × Instr × Nat) := [(0, .iload_n 1, 1), (1, .iconst 1, 1), (2, .bipush 6, 2), (4, .invokestatic 63, 3), (7, .ifCond .eq 12, 3), (10, .aload_n 0, 1), (11, .getfield 19, 3), (14, .iload_n 1, 1), (15, .iaload, 1), (16, .goto 9, 3), (19, .aload_n 0, 1), (20, .ldc 92, 2), (22, .invokevirtual 93, 3), (25, .ireturn, 1)]
theorem xd_M_told : xc_M_told.all (fun q => decide (decode prog_12_method_97_code q.1 = .ok (q.2.1, q.2.2))) = true := by decide +kernel
def xc_I_bitCount : List (Nat × Instr × Nat) := [(0, .iload_n 0, 1), (1, .iload_n 0, 1), (2, .iconst 1, 1), (3, .iushr, 1), (4, .ldc_w 265, 3), (7, .iand, 1), (8, .isub, 1), (9, .istore_n 0, 1), (10, .iload_n 0, 1), (11, .ldc_w 266, 3), (14, .iand, 1), (15, .iload_n 0, 1), (16, .iconst 2, 1), (17, .iushr, 1), (18, .ldc_w 266, 3), (21, .iand, 1), (22, .iadd, 1), (23, .istore_n 0, 1), (24, .iload_n 0, 1), (25, .iload_n 0, 1), (26, .iconst 4, 1), (27, .iushr, 1), (28, .iadd, 1), (29, .ldc_w 267, 3), (32, .iand, 1), (33, .istore_n 0, 1), (34, .iload_n 0, 1), (35, .iload_n 0, 1), (36, .bipush 8, 2), (38, .iushr, 1), (39, .iadd, 1), (40, .istore_n 0, 1), (41, .iload_n 0, 1), (42, .iload_n 0, 1), (43, .bipush 16, 2), (45, .iushr, 1), (46, .iadd, 1), (47, .istore_n 0, 1), (48, .iload_n 0, 1), (49, .bipush 63, 2), (51, .iand, 1), (52, .ireturn, 1)]
theorem xd_I_bitCount : xc_I_bitCount.all (fun q => decide (decode prog_14_method_49_code q.1 = .ok (q.2.1, q.2.2))) = true := by decide +kernel
def xc_G_length : List (Nat × Instr × Nat) := [(0, .aload_n 0, 1), (1, .getfield 9, 3), (4, .arraylength, 1), (5, .aload_n 0, 1), (6, .invokevirtual 335, 3), (9, .ishr, 1), (10, .ireturn, 1)]
theorem xd_G_length : xc_G_length.all (fun q => decide (decode prog_16_method_54_code q.1 = .ok (q.2.1, q.2.2))) = true := by decide +kernel
def xc_G_indexOf : List (Nat × Instr × Nat) := [(0, .aload_n 0, 1), (1, .iload_n 1, 1), (2, .iconst 0, 1), (3, .invokevirtual 633, 3), (6, .ireturn, 1)]
theorem xd_G_indexOf : xc_G_indexOf.all (fun q => decide (decode prog_16_method_79_code q.1 = .ok (q.2.1, q.2.2))) = true := by decide +kernel
def xc_G_indexOf2 : List (Nat × Instr × Nat) := [(0, .aload_n 0, 1), (1, .invokevirtual 492, 3), (4, .ifCond .eq 19, 3), (7, .aload_n 0, 1), (8, .getfield 9, 3), (11, .iload_n 1, 1), (12, .iload_n 2, 1), (13, .aload_n 0, 1), (14, .invokevirtual 505, 3), (17, .invokestatic 637, 3), (20, .goto 16, 3), (23, .aload_n 0, 1), (24, .getfield 9, 3), (27, .iload_n 1, 1), (28, .iload_n 2, 1), (29, .aload_n 0, 1), (30, .invokevirtual 505, 3), (33, .invokestatic 640, 3), (36, .ireturn, 1)]
theorem xd_G_indexOf2 : xc_G_indexOf2.all (fun q => decide (decode prog_16_method_80_code q.1 = .ok (q.2.1, q.2.2))) = true := by decide +kernel
def xc_G_coder : List (Nat × Instr × Nat) := [(0, .getstatic 38, 3), (3, .ifCond .eq 10, 3), (6, .aload_n 0, 1), (7, .getfield 15, 3), (10, .goto 4, 3), (13, .iconst 1, 1), (14, .ireturn, 1)]
theorem xd_G_coder : xc_G_coder.all (fun q => decide (decode prog_16_method_152_code q.1 = .ok (q.2.1, q.2.2))) = true := by decide +kernel
def xc_G_isLatin1 : List (Nat × Instr × Nat) := [(0, .getstatic 38, 3), (3, .ifCond .eq 14, 3), (6, .aload_n 0, 1), (7, .getfield 15, 3), (10, .ifCond .ne 7, 3), (13, .iconst 1, 1), (14, .goto 4, 3), (17, .iconst 0, 1), (18, .ireturn, 1)]
theorem xd_G_isLatin1 : xc_G_isLatin1.all (fun q => decide (decode prog_16_method_154_code q.1 = .ok (q.2.1, q.2.2))) = true := by decide +kernel
def xc_N_canEncode : List (Nat × Instr × Nat) := [(0, .iload_n 0, 1), (1, .ifCond .lt 14, 3), (4, .iload_n 0, 1), (5, .sipush 255, 3), (8, .if_icmp .gt 7, 3), (11, .iconst 1, 1), (12, .goto 4, 3), (15, .iconst 0, 1), (16, .ireturn, 1)]
theorem xd_N_canEncode : xc_N_canEncode.all (fun q => decide (decode prog_17_method_4_code q.1 = .ok (q.2.1, q.2.2))) = true := by decide +kernel
def xc_N_indexOf : List (Nat × Instr × Nat) := [(0, .iload_n 1, 1), (1, .invokestatic 88, 3), (4, .ifCond .ne 5, 3), (7, .iconst (-1), 1), (8, .ireturn, 1), (9, .iload_n 2, 1), (10, .iconst 0, 1), (11, .invokestatic 92, 3), (14, .istore_n 2, 1), (15, .iload_n 3, 1), (16, .aload_n 0, 1), (17, .arraylength, 1), (18, .invokestatic 38, 3), (21, .istore_n 3, 1), (22, .iload_n 2, 1), (23, .iload_n 3, 1), (24, .if_icmp .lt 5, 3), (27, .iconst (-1), 1), (28, .ireturn, 1), (29, .aload_n 0, 1), (30, .iload_n 1, 1), (31, .iload_n 2, 1), (32, .iload_n 3, 1), (33, .invokestatic 95, 3), (36, .ireturn, 1)]
theorem xd_N_indexOf : xc_N_indexOf.all (fun q => decide (decode prog_17_method_22_code q.1 = .ok (q.2.1, q.2.2))) = true := by decide +kernel
def xc_N_indexOfChar : List (Nat × Instr × Nat) := [(0, .iload_n 1, 1), (1, .i2b, 1), (2, .istore 4, 2), (4, .iload_n 2, 1), (5, .istore 5, 2), (7, .iload 5, 2), (9, .iload_n 3, 1), (10, .if_icmp .ge 21, 3), (13, .aload_n 0, 1), (14, .iload 5, 2), (16, .baload, 1), (17, .iload 4, 2), (19, .if_icmp .ne 6, 3), (22, .iload 5, 2), (24, .ireturn, 1), (25, .iinc 5 1, 3), (28, .goto (-21), 3), (31, .iconst (-1), 1), (32, .ireturn, 1)]
theorem xd_N_indexOfChar : xc_N_indexOfChar.all (fun q => decide (decode prog_17_method_23_code q.1 = .ok (q.2.1, q.2.2))) = true := by decide +kernel
end
section
/-! the program as tables -/
def xlook : List (Nat × Instr × Nat) → Nat → Option (Instr × Nat)
  | [], _ => none
  | q :: r, pc => cond (Nat.beq q.1 pc) (some q.2) (xlook r pc)
def xas {α : Type} : List (Nat × α) → Nat → Option α
  | [], _ => none
  | q :: r, k => cond (Nat.beq q.1 k) (some q.2) (xas r k)
def xnth {α : Type} (d : α) : List α → Nat → α
  | [], _ => d
  | a :: _, 0 => a
  | _ :: r, k + 1 => xnth d r k
def xcodes_0 : List (List (Nat × Instr × Nat)) := [xc_P_init, xc_P_part, xc_P_partIs, xc_P_become, xc_P_as, xc_P_child, xc_P_childIs, xc_P_wishes, xc_P_falls, xc_P_worth, xc_P_cast, xc_P_feed, xc_P_text, xc_P_untell, xc_P_law, xc_P_play]
def xcodes_1 : List (List (Nat × Instr × Nat)) := [xc_P_lots, xc_P_loose, xc_P_seed, xc_P_best, xc_P_wished, xc_P_without, xc_P_lies, xc_P_odds, xc_P_fits, xc_P_voice, xc_P_body, xc_P_sheet, xc_P_put, xc_P_move, xc_P_casts, xc_P_judge]
def xcodes_2 : List (List (Nat × Instr × Nat)) := [xc_P_image, xc_P_restore, xc_P_tell, xc_P_check, xc_P_count, xc_P_told, xc_P_fail, xc_P_isWithin, xc_P_isKindAndNumber, xc_P_isUse, xc_P_isSheet, xc_P_commonDivisor, xc_P_held, xc_S_init, xc_S_copyFrom, xc_S_hasPart]
def xcodes_3 : List (List (Nat × Instr × Nat)) := [xc_S_hasPartOrNone, xc_S_hasChild, xc_S_mayPlay, xc_S_holderOf, xc_S_childrenFor, xc_S_partsFor, xc_S_given, xc_S_worthOf, xc_S_worthIfDear, xc_S_joyOf, xc_S_theyPlay, xc_S_drawLots, xc_S_partAt, xc_S_castByLots, xc_S_castByRow, xc_S_rightInRow]
def xcodes_4 : List (List (Nat × Instr × Nat)) := [xc_R_init, xc_R_turnInto, xc_R_copyFrom, xc_R_isOf, xc_R_suits, xc_R_lines, xc_C_init, xc_C_startAs, xc_C_copyFrom, xc_C_valueOf, xc_C_dear, xc_C_wishSet, xc_T_init, xc_T_add, xc_T_copyFrom, xc_T_workOut]
def xcodes_5 : List (List (Nat × Instr × Nat)) := [xc_T_named, xc_T_apply, xc_D_init, xc_D_read, xc_D_failHere, xc_D_next, xc_D_isDigit, xc_D_levelOf, xc_D_readLevel, xc_D_readFactor, xc_D_readClosing, xc_D_readNumber, xc_A_init, xc_A_weighByWorth, xc_A_weighByWishes, xc_A_leaveOut]
def xcodes_6 : List (List (Nat × Instr × Nat)) := [xc_A_workOut, xc_A_mostFrom, xc_A_isFree, xc_A_comesTo, xc_A_mostWithout, xc_A_assignWithout, xc_A_leastPart, xc_L_init, xc_L_tryAll, xc_L_learnOthers, xc_L_rankOf, xc_L_learnWorth, xc_L_claim, xc_L_chosenBy, xc_V_init, xc_V_speak]
def xcodes_7 : List (List (Nat × Instr × Nat)) := [xc_V_begin, xc_V_above, xc_V_says, xc_V_sings, xc_V_waits, xc_V_parts, xc_H_init, xc_H_clearTo, xc_H_lowestBits, xc_H_hasRun, xc_H_startsLike, xc_M_init, xc_M_error, xc_M_in, xc_M_held, xc_M_copyAll]
def xcodes_8 : List (List (Nat × Instr × Nat)) := [xc_M_thinks, xc_M_putsBack, xc_M_bits, xc_M_isPart, xc_M_isChild, xc_M_becomes, xc_M_of, xc_M_about, xc_M_lets, xc_M_mayPlay, xc_M_linesOf, xc_M_dearTo, xc_M_worthTo, xc_M_joyOf, xc_M_joyOfAll, xc_M_whoHas]
def xcodes_9 : List (List (Nat × Instr × Nat)) := [xc_M_isKm, xc_M_part, xc_M_whoMay, xc_M_partIs, xc_M_become, xc_M_as, xc_M_child, xc_M_childIs, xc_M_wishes, xc_M_falls, xc_M_worth, xc_M_cast, xc_M_feed, xc_M_look, xc_M_step, xc_M_nameOf]
def xcodes_10 : List (List (Nat × Instr × Nat)) := [xc_M_number, xc_M_opens, xc_M_one, xc_M_times, xc_M_sum, xc_M_compares, xc_M_all, xc_M_any, xc_M_text, xc_M_untell, xc_M_twoOf, xc_M_works, xc_M_gives, xc_M_law, xc_M_plays, xc_M_play]
def xcodes_11 : List (List (Nat × Instr × Nat)) := [xc_M_draw, xc_M_freeFor, xc_M_nobodyHas, xc_M_drawn, xc_M_lots, xc_M_loose, xc_M_seed, xc_M_findWorths, xc_M_findValues, xc_M_findBest, xc_M_best, xc_M_wished, xc_M_without, xc_M_lies, xc_M_odds, xc_M_rightOf]
def xcodes_12 : List (List (Nat × Instr × Nat)) := [xc_M_fits, xc_M_begins, xc_M_plainSays, xc_M_speakerSays, xc_M_says, xc_M_plainSings, xc_M_crownSings, xc_M_sings, xc_M_plainWaits, xc_M_waits, xc_M_plainParts, xc_M_partsBy, xc_M_voice, xc_M_body, xc_M_isSheet, xc_M_sheet]
def xcodes_13 : List (List (Nat × Instr × Nat)) := [xc_M_notThere, xc_M_put, xc_M_notMoved, xc_M_move, xc_M_casts, xc_M_judge, xc_M_image, xc_M_restore, xc_M_tell, xc_M_check, xc_M_count, xc_M_told, xc_I_bitCount, xc_G_length, xc_G_indexOf, xc_G_indexOf2]
def xcodes_14 : List (List (Nat × Instr × Nat)) := [xc_G_coder, xc_G_isLatin1, xc_N_canEncode, xc_N_indexOf, xc_N_indexOfChar]
def xcodes : List (List (List (Nat × Instr × Nat))) := [xcodes_0, xcodes_1, xcodes_2, xcodes_3, xcodes_4, xcodes_5, xcodes_6, xcodes_7, xcodes_8, xcodes_9, xcodes_10, xcodes_11, xcodes_12, xcodes_13, xcodes_14]
def xcodeOf (M : Nat) : List (Nat × Instr × Nat) := xnth [] (xnth [] xcodes (M / 16)) (M % 16)
def xat (M pc : Nat) : Option (Instr × Nat) := xlook (xcodeOf M) pc
def xrecs_0 : List (Nat × Nat × Nat × Nat × Nat) := [(0, 2, 0, 4, 1), (0, 2, 1, 4, 2), (0, 3, 1, 4, 3), (0, 4, 1, 4, 3), (0, 3, 1, 4, 3), (0, 4, 1, 4, 4), (0, 3, 1, 4, 3), (0, 5, 1, 4, 4), (0, 4, 1, 4, 3), (0, 3, 1, 4, 3), (0, 4, 1, 4, 3), (0, 5, 1, 4, 3), (0, 3, 1, 4, 2), (0, 3, 1, 4, 2), (0, 5, 1, 4, 5), (0, 1, 1, 4, 1)]
def xrecs_1 : List (Nat × Nat × Nat × Nat × Nat) := [(0, 1, 1, 4, 1), (0, 3, 1, 4, 2), (0, 3, 1, 4, 2), (0, 2, 1, 4, 2), (0, 1, 1, 4, 1), (0, 3, 1, 4, 2), (0, 3, 1, 4, 3), (0, 7, 1, 4, 3), (0, 6, 1, 4, 3), (0, 5, 1, 4, 4), (0, 2, 1, 4, 2), (0, 4, 1, 4, 4), (0, 4, 1, 4, 4), (0, 8, 1, 4, 6), (0, 2, 1, 4, 2), (0, 2, 1, 4, 2)]
def xrecs_2 : List (Nat × Nat × Nat × Nat × Nat) := [(0, 1, 1, 4, 1), (0, 1, 1, 4, 1), (0, 2, 1, 4, 2), (0, 3, 1, 4, 1), (0, 2, 1, 4, 2), (0, 2, 1, 4, 2), (0, 2, 1, 4, 2), (0, 3, 2, 0, 3), (0, 1, 2, 0, 1), (0, 1, 2, 0, 1), (0, 1, 2, 0, 1), (0, 6, 1, 0, 2), (0, 3, 1, 0, 3), (1, 2, 0, 5, 1), (1, 3, 0, 5, 2), (1, 2, 2, 5, 2)]
def xrecs_3 : List (Nat × Nat × Nat × Nat × Nat) := [(1, 2, 2, 5, 2), (1, 2, 2, 5, 2), (1, 3, 2, 5, 3), (1, 3, 1, 5, 2), (1, 4, 1, 5, 2), (1, 4, 1, 5, 2), (1, 6, 1, 5, 5), (1, 4, 1, 5, 3), (1, 5, 1, 5, 4), (1, 4, 1, 5, 2), (1, 3, 1, 5, 1), (1, 8, 1, 5, 3), (1, 4, 1, 0, 2), (1, 4, 1, 5, 2), (1, 4, 1, 5, 3), (1, 4, 1, 5, 3)]
def xrecs_4 : List (Nat × Nat × Nat × Nat × Nat) := [(2, 1, 0, 7, 1), (2, 2, 0, 7, 2), (2, 2, 0, 7, 2), (2, 4, 2, 7, 2), (2, 2, 2, 7, 2), (2, 2, 1, 7, 2), (3, 1, 0, 9, 1), (3, 5, 0, 9, 4), (3, 2, 0, 9, 2), (3, 3, 1, 9, 2), (3, 3, 1, 9, 2), (3, 3, 1, 9, 1), (4, 1, 0, 13, 1), (4, 2, 0, 13, 2), (4, 2, 0, 13, 2), (4, 7, 1, 13, 4)]
def xrecs_5 : List (Nat × Nat × Nat × Nat × Nat) := [(4, 4, 1, 0, 4), (4, 3, 1, 0, 3), (5, 1, 0, 17, 1), (5, 4, 1, 17, 4), (5, 1, 0, 17, 1), (5, 1, 1, 17, 1), (5, 1, 2, 0, 1), (5, 1, 1, 0, 1), (5, 6, 0, 17, 3), (5, 3, 0, 17, 2), (5, 1, 0, 17, 1), (5, 3, 0, 17, 1), (6, 1, 0, 19, 1), (6, 4, 0, 19, 2), (6, 5, 0, 19, 2), (6, 3, 0, 19, 2)]
def xrecs_6 : List (Nat × Nat × Nat × Nat × Nat) := [(6, 4, 0, 19, 1), (6, 5, 1, 19, 3), (6, 4, 2, 19, 4), (6, 4, 1, 19, 4), (6, 2, 1, 19, 2), (6, 4, 0, 19, 2), (6, 4, 1, 19, 3), (7, 1, 0, 25, 1), (7, 8, 0, 25, 4), (7, 6, 0, 25, 4), (7, 4, 1, 0, 2), (7, 5, 0, 25, 3), (7, 5, 0, 25, 3), (7, 5, 1, 25, 2), (8, 1, 0, 33, 1), (8, 5, 1, 33, 5)]
def xrecs_7 : List (Nat × Nat × Nat × Nat × Nat) := [(8, 2, 0, 33, 2), (8, 1, 1, 0, 1), (8, 3, 1, 33, 3), (8, 3, 1, 33, 3), (8, 3, 1, 33, 3), (8, 4, 1, 33, 3), (9, 1, 0, 36, 1), (9, 4, 0, 36, 3), (9, 2, 1, 36, 2), (9, 3, 2, 36, 3), (9, 4, 2, 36, 3), (10, 1, 0, 40, 1), (10, 2, 1, 40, 2), (10, 3, 2, 0, 3), (10, 3, 1, 0, 3), (10, 3, 0, 0, 2)]
def xrecs_8 : List (Nat × Nat × Nat × Nat × Nat) := [(10, 1, 0, 40, 1), (10, 1, 0, 40, 1), (10, 3, 1, 0, 1), (10, 2, 2, 40, 2), (10, 2, 2, 40, 2), (10, 4, 1, 40, 3), (10, 3, 1, 40, 3), (10, 3, 1, 40, 3), (10, 4, 0, 40, 4), (10, 5, 2, 40, 3), (10, 3, 1, 40, 2), (10, 4, 1, 40, 3), (10, 3, 1, 40, 3), (10, 3, 1, 40, 2), (10, 3, 1, 40, 1), (10, 3, 1, 40, 2)]
def xrecs_9 : List (Nat × Nat × Nat × Nat × Nat) := [(10, 1, 2, 0, 1), (10, 3, 1, 40, 2), (10, 4, 1, 40, 2), (10, 3, 1, 40, 3), (10, 3, 1, 40, 3), (10, 5, 1, 40, 3), (10, 6, 1, 40, 4), (10, 3, 1, 40, 3), (10, 5, 1, 40, 4), (10, 3, 1, 40, 3), (10, 3, 1, 40, 3), (10, 5, 1, 40, 3), (10, 5, 1, 40, 3), (10, 1, 1, 40, 1), (10, 3, 0, 40, 3), (10, 2, 1, 40, 2)]
def xrecs_10 : List (Nat × Nat × Nat × Nat × Nat) := [(10, 3, 0, 40, 1), (10, 2, 0, 40, 2), (10, 3, 0, 40, 1), (10, 2, 0, 40, 1), (10, 2, 0, 40, 1), (10, 2, 0, 40, 1), (10, 1, 0, 40, 1), (10, 1, 0, 40, 1), (10, 4, 1, 40, 2), (10, 2, 1, 40, 2), (10, 3, 1, 0, 3), (10, 5, 1, 40, 2), (10, 7, 1, 40, 5), (10, 5, 1, 40, 5), (10, 4, 1, 40, 1), (10, 1, 1, 40, 1)]
def xrecs_11 : List (Nat × Nat × Nat × Nat × Nat) := [(10, 1, 1, 40, 1), (10, 4, 1, 40, 2), (10, 2, 0, 40, 1), (10, 6, 1, 40, 1), (10, 1, 1, 40, 1), (10, 3, 1, 40, 2), (10, 2, 1, 40, 2), (10, 3, 0, 40, 1), (10, 8, 0, 40, 1), (10, 6, 0, 40, 1), (10, 2, 1, 40, 2), (10, 3, 1, 40, 1), (10, 4, 1, 40, 2), (10, 8, 1, 40, 3), (10, 7, 1, 40, 3), (10, 3, 1, 40, 2)]
def xrecs_12 : List (Nat × Nat × Nat × Nat × Nat) := [(10, 7, 1, 40, 3), (10, 2, 0, 40, 2), (10, 3, 1, 40, 3), (10, 3, 1, 40, 3), (10, 3, 1, 40, 3), (10, 3, 1, 40, 3), (10, 3, 1, 40, 3), (10, 3, 1, 40, 3), (10, 3, 1, 40, 3), (10, 3, 1, 40, 3), (10, 4, 1, 40, 3), (10, 4, 1, 40, 3), (10, 5, 1, 40, 4), (10, 2, 1, 40, 2), (10, 1, 2, 0, 1), (10, 5, 1, 40, 4)]
def xrecs_13 : List (Nat × Nat × Nat × Nat × Nat) := [(10, 2, 1, 40, 2), (10, 5, 1, 40, 4), (10, 7, 1, 40, 6), (10, 9, 1, 40, 6), (10, 6, 1, 40, 2), (10, 3, 1, 40, 2), (10, 1, 1, 40, 1), (10, 1, 1, 40, 1), (10, 2, 1, 40, 2), (10, 3, 1, 40, 1), (10, 2, 1, 40, 2), (10, 2, 1, 40, 2), (11, 1, 1, 0, 1), (12, 1, 1, 1, 1), (12, 2, 1, 1, 2), (12, 3, 1, 1, 3)]
def xrecs_14 : List (Nat × Nat × Nat × Nat × Nat) := [(12, 1, 3, 1, 1), (12, 1, 2, 1, 1), (13, 1, 2, 0, 1), (13, 4, 1, 0, 4), (13, 6, 1, 0, 4)]
def xrecs : List (List (Nat × Nat × Nat × Nat × Nat)) := [xrecs_0, xrecs_1, xrecs_2, xrecs_3, xrecs_4, xrecs_5, xrecs_6, xrecs_7, xrecs_8, xrecs_9, xrecs_10, xrecs_11, xrecs_12, xrecs_13, xrecs_14]
/-- own class, locals, kind of answer (0 none, 1 int, 2 boolean, 3 byte), receiver (0: none), arguments -/
def xrec (M : Nat) : Nat × Nat × Nat × Nat × Nat := xnth (0, 0, 9, 0, 0) (xnth [] xrecs (M / 16)) (M % 16)
abbrev xN : Nat := 229
abbrev m_P_init : Nat := 0
abbrev m_P_part : Nat := 1
abbrev m_P_partIs : Nat := 2
abbrev m_P_become : Nat := 3
abbrev m_P_as : Nat := 4
abbrev m_P_child : Nat := 5
abbrev m_P_childIs : Nat := 6
abbrev m_P_wishes : Nat := 7
abbrev m_P_falls : Nat := 8
abbrev m_P_worth : Nat := 9
abbrev m_P_cast : Nat := 10
abbrev m_P_feed : Nat := 11
abbrev m_P_text : Nat := 12
abbrev m_P_untell : Nat := 13
abbrev m_P_law : Nat := 14
abbrev m_P_play : Nat := 15
abbrev m_P_lots : Nat := 16
abbrev m_P_loose : Nat := 17
abbrev m_P_seed : Nat := 18
abbrev m_P_best : Nat := 19
abbrev m_P_wished : Nat := 20
abbrev m_P_without : Nat := 21
abbrev m_P_lies : Nat := 22
abbrev m_P_odds : Nat := 23
abbrev m_P_fits : Nat := 24
abbrev m_P_voice : Nat := 25
abbrev m_P_body : Nat := 26
abbrev m_P_sheet : Nat := 27
abbrev m_P_put : Nat := 28
abbrev m_P_move : Nat := 29
abbrev m_P_casts : Nat := 30
abbrev m_P_judge : Nat := 31
abbrev m_P_image : Nat := 32
abbrev m_P_restore : Nat := 33
abbrev m_P_tell : Nat := 34
abbrev m_P_check : Nat := 35
abbrev m_P_count : Nat := 36
abbrev m_P_told : Nat := 37
abbrev m_P_fail : Nat := 38
abbrev m_P_isWithin : Nat := 39
abbrev m_P_isKindAndNumber : Nat := 40
abbrev m_P_isUse : Nat := 41
abbrev m_P_isSheet : Nat := 42
abbrev m_P_commonDivisor : Nat := 43
abbrev m_P_held : Nat := 44
abbrev m_S_init : Nat := 45
abbrev m_S_copyFrom : Nat := 46
abbrev m_S_hasPart : Nat := 47
abbrev m_S_hasPartOrNone : Nat := 48
abbrev m_S_hasChild : Nat := 49
abbrev m_S_mayPlay : Nat := 50
abbrev m_S_holderOf : Nat := 51
abbrev m_S_childrenFor : Nat := 52
abbrev m_S_partsFor : Nat := 53
abbrev m_S_given : Nat := 54
abbrev m_S_worthOf : Nat := 55
abbrev m_S_worthIfDear : Nat := 56
abbrev m_S_joyOf : Nat := 57
abbrev m_S_theyPlay : Nat := 58
abbrev m_S_drawLots : Nat := 59
abbrev m_S_partAt : Nat := 60
abbrev m_S_castByLots : Nat := 61
abbrev m_S_castByRow : Nat := 62
abbrev m_S_rightInRow : Nat := 63
abbrev m_R_init : Nat := 64
abbrev m_R_turnInto : Nat := 65
abbrev m_R_copyFrom : Nat := 66
abbrev m_R_isOf : Nat := 67
abbrev m_R_suits : Nat := 68
abbrev m_R_lines : Nat := 69
abbrev m_C_init : Nat := 70
abbrev m_C_startAs : Nat := 71
abbrev m_C_copyFrom : Nat := 72
abbrev m_C_valueOf : Nat := 73
abbrev m_C_dear : Nat := 74
abbrev m_C_wishSet : Nat := 75
abbrev m_T_init : Nat := 76
abbrev m_T_add : Nat := 77
abbrev m_T_copyFrom : Nat := 78
abbrev m_T_workOut : Nat := 79
abbrev m_T_named : Nat := 80
abbrev m_T_apply : Nat := 81
abbrev m_D_init : Nat := 82
abbrev m_D_read : Nat := 83
abbrev m_D_failHere : Nat := 84
abbrev m_D_next : Nat := 85
abbrev m_D_isDigit : Nat := 86
abbrev m_D_levelOf : Nat := 87
abbrev m_D_readLevel : Nat := 88
abbrev m_D_readFactor : Nat := 89
abbrev m_D_readClosing : Nat := 90
abbrev m_D_readNumber : Nat := 91
abbrev m_A_init : Nat := 92
abbrev m_A_weighByWorth : Nat := 93
abbrev m_A_weighByWishes : Nat := 94
abbrev m_A_leaveOut : Nat := 95
abbrev m_A_workOut : Nat := 96
abbrev m_A_mostFrom : Nat := 97
abbrev m_A_isFree : Nat := 98
abbrev m_A_comesTo : Nat := 99
abbrev m_A_mostWithout : Nat := 100
abbrev m_A_assignWithout : Nat := 101
abbrev m_A_leastPart : Nat := 102
abbrev m_L_init : Nat := 103
abbrev m_L_tryAll : Nat := 104
abbrev m_L_learnOthers : Nat := 105
abbrev m_L_rankOf : Nat := 106
abbrev m_L_learnWorth : Nat := 107
abbrev m_L_claim : Nat := 108
abbrev m_L_chosenBy : Nat := 109
abbrev m_V_init : Nat := 110
abbrev m_V_speak : Nat := 111
abbrev m_V_begin : Nat := 112
abbrev m_V_above : Nat := 113
abbrev m_V_says : Nat := 114
abbrev m_V_sings : Nat := 115
abbrev m_V_waits : Nat := 116
abbrev m_V_parts : Nat := 117
abbrev m_H_init : Nat := 118
abbrev m_H_clearTo : Nat := 119
abbrev m_H_lowestBits : Nat := 120
abbrev m_H_hasRun : Nat := 121
abbrev m_H_startsLike : Nat := 122
abbrev m_M_init : Nat := 123
abbrev m_M_error : Nat := 124
abbrev m_M_in : Nat := 125
abbrev m_M_held : Nat := 126
abbrev m_M_copyAll : Nat := 127
abbrev m_M_thinks : Nat := 128
abbrev m_M_putsBack : Nat := 129
abbrev m_M_bits : Nat := 130
abbrev m_M_isPart : Nat := 131
abbrev m_M_isChild : Nat := 132
abbrev m_M_becomes : Nat := 133
abbrev m_M_of : Nat := 134
abbrev m_M_about : Nat := 135
abbrev m_M_lets : Nat := 136
abbrev m_M_mayPlay : Nat := 137
abbrev m_M_linesOf : Nat := 138
abbrev m_M_dearTo : Nat := 139
abbrev m_M_worthTo : Nat := 140
abbrev m_M_joyOf : Nat := 141
abbrev m_M_joyOfAll : Nat := 142
abbrev m_M_whoHas : Nat := 143
abbrev m_M_isKm : Nat := 144
abbrev m_M_part : Nat := 145
abbrev m_M_whoMay : Nat := 146
abbrev m_M_partIs : Nat := 147
abbrev m_M_become : Nat := 148
abbrev m_M_as : Nat := 149
abbrev m_M_child : Nat := 150
abbrev m_M_childIs : Nat := 151
abbrev m_M_wishes : Nat := 152
abbrev m_M_falls : Nat := 153
abbrev m_M_worth : Nat := 154
abbrev m_M_cast : Nat := 155
abbrev m_M_feed : Nat := 156
abbrev m_M_look : Nat := 157
abbrev m_M_step : Nat := 158
abbrev m_M_nameOf : Nat := 159
abbrev m_M_number : Nat := 160
abbrev m_M_opens : Nat := 161
abbrev m_M_one : Nat := 162
abbrev m_M_times : Nat := 163
abbrev m_M_sum : Nat := 164
abbrev m_M_compares : Nat := 165
abbrev m_M_all : Nat := 166
abbrev m_M_any : Nat := 167
abbrev m_M_text : Nat := 168
abbrev m_M_untell : Nat := 169
abbrev m_M_twoOf : Nat := 170
abbrev m_M_works : Nat := 171
abbrev m_M_gives : Nat := 172
abbrev m_M_law : Nat := 173
abbrev m_M_plays : Nat := 174
abbrev m_M_play : Nat := 175
abbrev m_M_draw : Nat := 176
abbrev m_M_freeFor : Nat := 177
abbrev m_M_nobodyHas : Nat := 178
abbrev m_M_drawn : Nat := 179
abbrev m_M_lots : Nat := 180
abbrev m_M_loose : Nat := 181
abbrev m_M_seed : Nat := 182
abbrev m_M_findWorths : Nat := 183
abbrev m_M_findValues : Nat := 184
abbrev m_M_findBest : Nat := 185
abbrev m_M_best : Nat := 186
abbrev m_M_wished : Nat := 187
abbrev m_M_without : Nat := 188
abbrev m_M_lies : Nat := 189
abbrev m_M_odds : Nat := 190
abbrev m_M_rightOf : Nat := 191
abbrev m_M_fits : Nat := 192
abbrev m_M_begins : Nat := 193
abbrev m_M_plainSays : Nat := 194
abbrev m_M_speakerSays : Nat := 195
abbrev m_M_says : Nat := 196
abbrev m_M_plainSings : Nat := 197
abbrev m_M_crownSings : Nat := 198
abbrev m_M_sings : Nat := 199
abbrev m_M_plainWaits : Nat := 200
abbrev m_M_waits : Nat := 201
abbrev m_M_plainParts : Nat := 202
abbrev m_M_partsBy : Nat := 203
abbrev m_M_voice : Nat := 204
abbrev m_M_body : Nat := 205
abbrev m_M_isSheet : Nat := 206
abbrev m_M_sheet : Nat := 207
abbrev m_M_notThere : Nat := 208
abbrev m_M_put : Nat := 209
abbrev m_M_notMoved : Nat := 210
abbrev m_M_move : Nat := 211
abbrev m_M_casts : Nat := 212
abbrev m_M_judge : Nat := 213
abbrev m_M_image : Nat := 214
abbrev m_M_restore : Nat := 215
abbrev m_M_tell : Nat := 216
abbrev m_M_check : Nat := 217
abbrev m_M_count : Nat := 218
abbrev m_M_told : Nat := 219
abbrev m_I_bitCount : Nat := 220
abbrev m_G_length : Nat := 221
abbrev m_G_indexOf : Nat := 222
abbrev m_G_indexOf2 : Nat := 223
abbrev m_G_coder : Nat := 224
abbrev m_G_isLatin1 : Nat := 225
abbrev m_N_canEncode : Nat := 226
abbrev m_N_indexOf : Nat := 227
abbrev m_N_indexOfChar : Nat := 228
def xfldT : List (List (Nat × (Nat × Nat))) := [[(10, (4, 1)), (16, (4, 2)), (22, (4, 3)), (29, (4, 4)), (36, (4, 5)), (43, (4, 6)), (49, (4, 7)), (53, (4, 8)), (57, (4, 9)), (69, (5, 0)), (73, (5, 7)), (86, (7, 0)), (89, (7, 1)), (92, (5, 2)), (111, (5, 1)), (114, (5, 8)), (136, (9, 6)), (139, (9, 3)), (150, (9, 5)), (153, (5, 5)), (156, (5, 9)), (166, (5, 10)), (170, (17, 4)), (180, (13, 0)), (195, (5, 3)), (198, (5, 4)), (214, (19, 4)), (226, (25, 1)), (229, (25, 2)), (249, (36, 0)), (264, (33, 1)), (268, (33, 0)), (271, (33, 5)), (278, (36, 1)), (281, (36, 2)), (305, (4, 0)), (308, (5, 6)), (311, (5, 11))], [(11, (5, 7)), (19, (5, 8)), (23, (5, 4)), (27, (5, 9)), (33, (5, 10)), (37, (5, 11)), (53, (5, 0)), (56, (5, 1)), (59, (5, 2)), (62, (5, 3)), (71, (5, 5)), (74, (5, 6)), (85, (9, 5)), (92, (13, 0)), (106, (9, 4)), (109, (9, 0)), (120, (9, 2))], [(9, (7, 0)), (15, (7, 1)), (22, (9, 3)), (27, (9, 0)), (30, (9, 1)), (33, (9, 2))], [(9, (9, 6)), (15, (9, 0)), (19, (9, 1)), (22, (9, 2)), (25, (9, 3)), (28, (9, 4)), (31, (9, 5))], [(9, (13, 1)), (15, (13, 2)), (18, (13, 0))], [(12, (17, 4)), (18, (17, 5)), (24, (17, 3)), (38, (17, 0)), (52, (13, 0)), (55, (17, 1)), (58, (17, 2))], [(11, (19, 2)), (16, (19, 3)), (19, (19, 4)), (23, (5, 1)), (29, (19, 0)), (32, (5, 0)), (35, (19, 1)), (46, (5, 8))], [(11, (25, 3)), (15, (25, 4)), (18, (25, 5)), (22, (25, 6)), (27, (25, 7)), (30, (25, 8)), (33, (5, 0)), (39, (25, 0)), (42, (25, 1)), (45, (25, 2)), (84, (19, 4)), (87, (5, 1))], [(11, (33, 5)), (15, (33, 2)), (19, (7, 0)), (24, (33, 3)), (25, (7, 1)), (28, (33, 4)), (29, (33, 0)), (32, (33, 1))], [(9, (36, 2)), (15, (36, 0)), (19, (36, 1))], [(9, (40, 8)), (13, (40, 9)), (16, (40, 10)), (19, (40, 11)), (22, (40, 12)), (25, (40, 13)), (28, (40, 14)), (31, (40, 15)), (34, (40, 16)), (37, (40, 17)), (40, (40, 18)), (43, (40, 19)), (46, (40, 20)), (49, (40, 21)), (52, (40, 22)), (55, (40, 23)), (127, (40, 2)), (131, (40, 1)), (134, (40, 5)), (141, (40, 4)), (149, (40, 3)), (236, (40, 6)), (263, (40, 7)), (283, (40, 0))], [], [(9, (1, 0)), (15, (1, 1))], []]
def xfld (c k : Nat) : Option ((Nat × Nat)) := xas (xnth [] xfldT c) k
def xcalT : List (List (Nat × (Nat × Nat))) := [[(1, (999, 5)), (9, (45, 2)), (21, (82, 4)), (28, (92, 4)), (35, (103, 4)), (42, (110, 4)), (60, (118, 4)), (61, (40, 1)), (65, (38, 0)), (77, (65, 0)), (83, (47, 0)), (95, (69, 0)), (98, (51, 0)), (101, (52, 0)), (104, (67, 0)), (107, (39, 1)), (118, (71, 0)), (124, (49, 0)), (127, (57, 0)), (130, (73, 0)), (133, (48, 0)), (142, (55, 0)), (146, (50, 0)), (159, (41, 1)), (162, (83, 0)), (174, (78, 0)), (183, (54, 0)), (187, (58, 0)), (191, (61, 0)), (201, (93, 0)), (205, (96, 0)), (208, (100, 0)), (211, (101, 0)), (216, (94, 0)), (219, (95, 0)), (222, (104, 0)), (232, (53, 0)), (235, (220, 1)), (240, (75, 0)), (243, (43, 1)), (246, (42, 1)), (252, (59, 0)), (256, (122, 0)), (260, (111, 0)), (274, (119, 0)), (284, (120, 0)), (287, (121, 0)), (290, (999, 6)), (296, (62, 0)), (300, (63, 0)), (303, (46, 0)), (315, (999, 8)), (320, (999, 7))], [(3, (999, 5)), (40, (64, 4)), (41, (70, 4)), (42, (76, 4)), (43, (66, 0)), (47, (72, 0)), (50, (78, 0)), (65, (999, 6)), (77, (47, 0)), (81, (68, 0)), (88, (50, 0)), (95, (79, 0)), (99, (44, 3)), (102, (74, 0)), (112, (54, 0)), (116, (55, 0)), (123, (57, 0)), (128, (53, 0)), (131, (220, 1)), (137, (60, 1)), (140, (59, 0)), (144, (48, 0)), (147, (51, 0))], [(3, (999, 5))], [(3, (999, 5)), (34, (999, 6))], [(3, (999, 5)), (22, (999, 6)), (28, (80, 1)), (32, (81, 1))], [(3, (999, 5)), (11, (76, 4)), (28, (999, 8)), (34, (44, 3)), (42, (999, 6)), (61, (88, 0)), (65, (84, 0)), (68, (89, 0)), (72, (85, 0)), (76, (87, 1)), (80, (77, 0)), (83, (86, 1)), (87, (91, 0)), (90, (222, 0)), (95, (90, 0))], [(3, (999, 5)), (38, (50, 0)), (42, (55, 0)), (49, (74, 0)), (55, (97, 0)), (58, (98, 0)), (62, (99, 0)), (66, (999, 7)), (71, (102, 0))], [(3, (999, 5)), (48, (105, 0)), (52, (107, 0)), (56, (109, 0)), (60, (108, 0)), (64, (95, 0)), (70, (96, 0)), (73, (50, 0)), (77, (100, 0)), (81, (101, 0)), (90, (106, 1)), (94, (55, 0)), (98, (56, 0))], [(3, (999, 5)), (36, (114, 0)), (40, (115, 0)), (43, (116, 0)), (46, (117, 0)), (52, (112, 0)), (56, (113, 1))], [(3, (999, 5))], [(3, (999, 5)), (59, (127, 1)), (63, (125, 1)), (67, (134, 0)), (71, (135, 0)), (74, (139, 0)), (77, (172, 0)), (81, (140, 0)), (84, (141, 0)), (88, (144, 1)), (93, (124, 0)), (97, (137, 0)), (101, (131, 0)), (104, (138, 0)), (107, (143, 0)), (110, (146, 0)), (113, (133, 0)), (117, (136, 0)), (121, (132, 0)), (137, (157, 0)), (145, (158, 0)), (152, (162, 0)), (155, (167, 0)), (158, (159, 0)), (161, (161, 0)), (165, (160, 0)), (168, (163, 0)), (171, (164, 0)), (174, (165, 0)), (177, (166, 0)), (180, (170, 1)), (184, (171, 0)), (187, (126, 1)), (190, (142, 0)), (195, (174, 0)), (199, (178, 0)), (202, (177, 0)), (205, (176, 0)), (208, (130, 1)), (211, (179, 0)), (214, (184, 0)), (218, (183, 0)), (221, (185, 0)), (224, (128, 0)), (227, (129, 0)), (230, (206, 1)), (233, (191, 0)), (239, (193, 0)), (242, (194, 0)), (245, (195, 0)), (248, (196, 0)), (251, (197, 0)), (254, (198, 0)), (257, (199, 0)), (260, (200, 0)), (266, (202, 0)), (269, (201, 0)), (272, (203, 0)), (276, (208, 0)), (279, (210, 0))], [], [(335, (224, 0)), (492, (225, 0)), (505, (221, 0)), (633, (223, 0)), (637, (227, 1))], [(38, (999, 8)), (88, (226, 1)), (92, (999, 7)), (95, (228, 1))]]
def xcal (c k : Nat) : Option ((Nat × Nat)) := xas (xnth [] xcalT c) k
def xkonT : List (List (Nat × Int)) := [[(314, (-1000000000 : Int))], [(126, (-99999 : Int)), (127, (99999 : Int)), (136, (1103515245 : Int))], [], [], [], [], [], [], [], [], [(58, (-1000000000 : Int)), (92, (-1000000001 : Int)), (96, (-1000000004 : Int)), (116, (-1000000005 : Int)), (124, (-1000000003 : Int)), (193, (-99999 : Int)), (194, (99999 : Int)), (198, (1103515245 : Int)), (217, (-1000000002 : Int)), (275, (-1000000006 : Int))], [(265, (1431655765 : Int)), (266, (858993459 : Int)), (267, (252645135 : Int))], [], []]
def xkon (c k : Nat) : Option Int := xas (xnth [] xkonT c) k
def xkonLT : List (List (Nat × Int)) := [[], [], [], [], [], [], [], [], [], [], [(125, (255 : Int))], [], [], []]
def xkonL (c k : Nat) : Option Int := xas (xnth [] xkonLT c) k
def xstrT : List (List (Nat × Nat)) := [[], [], [], [], [], [(22, 1), (48, 2), (50, 3)], [], [], [], [], [], [], [], []]
def xstr (c k : Nat) : Option Nat := xas (xnth [] xstrT c) k
def xstaT : List (List (Nat × Bool)) := [[], [], [(18, true)], [], [], [], [], [], [(49, true)], [], [], [], [(38, false)], []]
def xsta (c k : Nat) : Option Bool := xas (xnth [] xstaT c) k
/-- 0 nothing, 1 object, 2 ints, 3 booleans, 4 references -/
def xkindL : List Nat := [0, 0, 0, 0, 1, 1, 4, 1, 4, 1, 2, 2, 4, 1, 2, 2, 2, 1, 2, 1, 4, 2, 4, 2, 2, 1, 2, 2, 3, 2, 4, 2, 2, 1, 2, 4, 1, 2, 2, 2, 1, 2, 2, 2, 2, 2, 2, 2, 2, 2, 2, 2, 2, 2, 2, 2, 2]
def xkind (t : Nat) : Nat := xnth 0 xkindL t
/-- an array's length -/
def xlenL : List Int := [0, 0, 0, 7, 0, 0, 7, 0, 7, 0, 3, 60, 2, 0, 60, 60, 24, 0, 60, 0, 7, 7, 8, 128, 7, 0, 8, 8, 8, 8, 4, 8, 8, 0, 30, 4, 0, 24, 7, 7, 0, 410, 410, 410, 7, 4, 4, 96, 60, 60, 3, 60, 1024, 49, 7, 7, 30]
def xlen (t : Nat) : Int := xnth 0 xlenL t
/-- how many places a cell has -/
def xszL : List Nat := [0, 0, 0, 0, 10, 12, 7, 2, 7, 7, 3, 60, 2, 3, 60, 60, 24, 6, 60, 5, 7, 7, 8, 128, 7, 9, 8, 8, 8, 8, 4, 8, 8, 6, 30, 4, 3, 24, 7, 7, 24, 410, 410, 410, 7, 4, 4, 96, 60, 60, 3, 60, 1024, 49, 7, 7, 30]
def xsz (t : Nat) : Nat := xnth 0 xszL t
def xciL : List Nat := [0, 0, 0, 0, 0, 1, 0, 2, 0, 3, 0, 0, 0, 4, 0, 0, 0, 5, 0, 6, 0, 0, 0, 0, 0, 7, 0, 0, 0, 0, 0, 0, 0, 8, 0, 0, 9, 0, 0, 0, 10, 0, 0, 0, 0, 0, 0, 0, 0, 0, 0, 0, 0, 0, 0, 0, 0]
def xci (t : Nat) : Nat := xnth 0 xciL t
/-- how many cells of a kind there are -/
def xcntL : List Nat := [0, 0, 0, 0, 1, 2, 2, 14, 2, 14, 14, 2, 2, 5, 5, 5, 2, 1, 1, 1, 1, 7, 1, 8, 1, 1, 1, 1, 1, 1, 1, 4, 1, 1, 1, 1, 4, 4, 1, 1, 1, 1, 1, 1, 1, 1, 1, 1, 1, 1, 1, 1, 1, 1, 1, 1, 1]
def xcnt (t : Nat) : Nat := xnth 0 xcntL t
def xatyL : List FieldType := [.int, .int, .int, .int, .int, .int, .object "PlayParts$Role", .int, .object "PlayParts$Child", .int, .int, .int, .object "PlayParts$Text", .int, .int, .int, .int, .int, .int, .int, .array .int, .int, .array .int, .int, .int, .int, .int, .int, .boolean, .int, .array .int, .int, .int, .int, .int, .object "PlayParts$Sheet", .int, .int, .int, .int, .int, .int, .int, .int, .int, .int, .int, .int, .int, .int, .int, .int, .int, .int, .int, .int, .int]
def xaty (t : Nat) : FieldType := xnth .int xatyL t
/-- a field: 0 int, 1 reference, 2 text, 3 boolean -/
def xftL : List (List Nat) := [[], [1, 0], [], [], [0, 1, 1, 1, 1, 1, 1, 1, 1, 1], [0, 0, 0, 0, 0, 0, 0, 1, 1, 1, 1, 1], [], [0, 0], [], [0, 0, 0, 0, 0, 0, 1], [], [], [], [0, 1, 1], [], [], [], [0, 0, 0, 2, 1, 1], [], [0, 0, 1, 1, 1], [], [], [], [], [], [0, 0, 0, 1, 1, 1, 1, 1, 1], [], [], [], [], [], [], [], [0, 3, 0, 0, 0, 1], [], [], [0, 0, 1], [], [], [], [0, 0, 0, 0, 3, 0, 0, 3, 1, 1, 1, 1, 1, 1, 1, 1, 1, 1, 1, 1, 1, 1, 1, 1], [], [], [], [], [], [], [], [], [], [], [], [], [], [], [], []]
def xft (t k : Nat) : Nat := xnth 9 (xnth [] xftL t) k
/-- where references lead -/
def xrhoL : List (Nat → Nat → Nat × Nat) := [fun _ _ => (0, 0),
  fun i k => cond (Nat.beq k 0) ((2, i)) ((0, 0)),
  fun _ _ => (0, 0),
  fun _ _ => (0, 0),
  fun i k => cond (Nat.beq k 1) ((5, 0)) (cond (Nat.beq k 2) ((5, 1)) (cond (Nat.beq k 3) ((17, 0)) (cond (Nat.beq k 4) ((19, 0)) (cond (Nat.beq k 5) ((25, 0)) (cond (Nat.beq k 6) ((33, 0)) (cond (Nat.beq k 7) ((35, 0)) (cond (Nat.beq k 8) ((38, 0)) (cond (Nat.beq k 9) ((39, 0)) ((0, 0)))))))))),
  fun i k => cond (Nat.beq k 7) ((6, i)) (cond (Nat.beq k 8) ((8, i)) (cond (Nat.beq k 9) ((11, i)) (cond (Nat.beq k 10) ((12, i)) (cond (Nat.beq k 11) ((16, i)) ((0, 0)))))),
  fun i j => (7, cond (Nat.beq i 0) j (7 + j)),
  fun _ _ => (0, 0),
  fun i j => (9, cond (Nat.beq i 0) j (7 + j)),
  fun i k => cond (Nat.beq k 6) ((10, i)) ((0, 0)),
  fun _ _ => (0, 0),
  fun _ _ => (0, 0),
  fun i j => (13, cond (Nat.beq i 0) j (2 + j)),
  fun i k => cond (Nat.beq k 1) ((14, i)) (cond (Nat.beq k 2) ((15, i)) ((0, 0))),
  fun _ _ => (0, 0),
  fun _ _ => (0, 0),
  fun _ _ => (0, 0),
  fun i k => cond (Nat.beq k 4) ((13, 4)) (cond (Nat.beq k 5) ((18, 0)) ((0, 0))),
  fun _ _ => (0, 0),
  fun i k => cond (Nat.beq k 2) ((20, 0)) (cond (Nat.beq k 3) ((22, 0)) (cond (Nat.beq k 4) ((24, 0)) ((0, 0)))),
  fun i j => (21, j),
  fun _ _ => (0, 0),
  fun i j => (23, j),
  fun _ _ => (0, 0),
  fun _ _ => (0, 0),
  fun i k => cond (Nat.beq k 3) ((26, 0)) (cond (Nat.beq k 4) ((27, 0)) (cond (Nat.beq k 5) ((28, 0)) (cond (Nat.beq k 6) ((29, 0)) (cond (Nat.beq k 7) ((30, 0)) (cond (Nat.beq k 8) ((32, 0)) ((0, 0))))))),
  fun _ _ => (0, 0),
  fun _ _ => (0, 0),
  fun _ _ => (0, 0),
  fun _ _ => (0, 0),
  fun i j => (31, j),
  fun _ _ => (0, 0),
  fun _ _ => (0, 0),
  fun i k => cond (Nat.beq k 5) ((34, 0)) ((0, 0)),
  fun _ _ => (0, 0),
  fun i j => (36, j),
  fun i k => cond (Nat.beq k 2) ((37, i)) ((0, 0)),
  fun _ _ => (0, 0),
  fun _ _ => (0, 0),
  fun _ _ => (0, 0),
  fun i k => cond (Nat.beq k 8) ((41, 0)) (cond (Nat.beq k 9) ((42, 0)) (cond (Nat.beq k 10) ((43, 0)) (cond (Nat.beq k 11) ((44, 0)) (cond (Nat.beq k 12) ((45, 0)) (cond (Nat.beq k 13) ((46, 0)) (cond (Nat.beq k 14) ((47, 0)) (cond (Nat.beq k 15) ((48, 0)) (cond (Nat.beq k 16) ((49, 0)) (cond (Nat.beq k 17) ((50, 0)) (cond (Nat.beq k 18) ((51, 0)) (cond (Nat.beq k 19) ((52, 0)) (cond (Nat.beq k 20) ((53, 0)) (cond (Nat.beq k 21) ((54, 0)) (cond (Nat.beq k 22) ((55, 0)) (cond (Nat.beq k 23) ((56, 0)) ((0, 0))))))))))))))))),
  fun _ _ => (0, 0),
  fun _ _ => (0, 0),
  fun _ _ => (0, 0),
  fun _ _ => (0, 0),
  fun _ _ => (0, 0),
  fun _ _ => (0, 0),
  fun _ _ => (0, 0),
  fun _ _ => (0, 0),
  fun _ _ => (0, 0),
  fun _ _ => (0, 0),
  fun _ _ => (0, 0),
  fun _ _ => (0, 0),
  fun _ _ => (0, 0),
  fun _ _ => (0, 0),
  fun _ _ => (0, 0),
  fun _ _ => (0, 0)]
def xrho (t i k : Nat) : Nat × Nat := xnth (fun _ _ => (0, 0)) xrhoL t i k
def xR_P : String := "PlayParts"
def xF_P : u_T := fun k => xnth ("", "", "", false) [("PlayParts", "images", "I", false), ("PlayParts", "now", "LPlayParts$Stage;", true), ("PlayParts", "kept", "LPlayParts$Stage;", true), ("PlayParts", "reader", "LPlayParts$Reader;", true), ("PlayParts", "caster", "LPlayParts$Caster;", true), ("PlayParts", "liar", "LPlayParts$Liar;", true), ("PlayParts", "voices", "LPlayParts$Voices;", true), ("PlayParts", "sheets", "[LPlayParts$Sheet;", true), ("PlayParts", "drawn", "[I", true), ("PlayParts", "errors", "[I", true)] k
def xR_S : String := "PlayParts$Stage"
def xF_S : u_T := fun k => xnth ("", "", "", false) [("PlayParts$Stage", "partCount", "I", false), ("PlayParts$Stage", "childCount", "I", false), ("PlayParts$Stage", "year", "I", false), ("PlayParts$Stage", "joy", "I", false), ("PlayParts$Stage", "z", "I", false), ("PlayParts$Stage", "tapeCount", "I", false), ("PlayParts$Stage", "waitingCount", "I", false), ("PlayParts$Stage", "parts", "[LPlayParts$Role;", true), ("PlayParts$Stage", "children", "[LPlayParts$Child;", true), ("PlayParts$Stage", "tape", "[I", true), ("PlayParts$Stage", "texts", "[LPlayParts$Text;", true), ("PlayParts$Stage", "waiting", "[I", true)] k
def xR_R : String := "PlayParts$Role"
def xF_R : u_T := fun k => xnth ("", "", "", false) [("PlayParts$Role", "kind", "I", false), ("PlayParts$Role", "m", "I", false)] k
def xR_C : String := "PlayParts$Child"
def xF_C : u_T := fun k => xnth ("", "", "", false) [("PlayParts$Child", "voice", "I", false), ("PlayParts$Child", "size", "I", false), ("PlayParts$Child", "shy", "I", false), ("PlayParts$Child", "ill", "I", false), ("PlayParts$Child", "last", "I", false), ("PlayParts$Child", "has", "I", false), ("PlayParts$Child", "wish", "[I", true)] k
def xR_T : String := "PlayParts$Text"
def xF_T : u_T := fun k => xnth ("", "", "", false) [("PlayParts$Text", "length", "I", false), ("PlayParts$Text", "codes", "[I", true), ("PlayParts$Text", "stack", "[I", true)] k
def xR_D : String := "PlayParts$Reader"
def xF_D : u_T := fun k => xnth ("", "", "", false) [("PlayParts$Reader", "count", "I", false), ("PlayParts$Reader", "at", "I", false), ("PlayParts$Reader", "fault", "I", false), ("PlayParts$Reader", "names", "Ljava/lang/String;", false), ("PlayParts$Reader", "draft", "LPlayParts$Text;", true), ("PlayParts$Reader", "tape", "[I", true)] k
def xR_A : String := "PlayParts$Caster"
def xF_A : u_T := fun k => xnth ("", "", "", false) [("PlayParts$Caster", "children", "I", false), ("PlayParts$Caster", "parts", "I", false), ("PlayParts$Caster", "weight", "[[I", true), ("PlayParts$Caster", "most", "[[I", true), ("PlayParts$Caster", "given", "[I", true)] k
def xR_L : String := "PlayParts$Liar"
def xF_L : u_T := fun k => xnth ("", "", "", false) [("PlayParts$Liar", "none", "I", false), ("PlayParts$Liar", "which", "I", false), ("PlayParts$Liar", "more", "I", false), ("PlayParts$Liar", "others", "[I", true), ("PlayParts$Liar", "rank", "[I", true), ("PlayParts$Liar", "may", "[Z", true), ("PlayParts$Liar", "truly", "[I", true), ("PlayParts$Liar", "ifDear", "[[I", true), ("PlayParts$Liar", "claimed", "[I", true)] k
def xR_V : String := "PlayParts$Voices"
def xF_V : u_T := fun k => xnth ("", "", "", false) [("PlayParts$Voices", "traceCount", "I", false), ("PlayParts$Voices", "parted", "Z", false), ("PlayParts$Voices", "number", "I", false), ("PlayParts$Voices", "kind", "I", false), ("PlayParts$Voices", "m", "I", false), ("PlayParts$Voices", "trace", "[I", true)] k
def xR_H : String := "PlayParts$Sheet"
def xF_H : u_T := fun k => xnth ("", "", "", false) [("PlayParts$Sheet", "bits", "I", false), ("PlayParts$Sheet", "count", "I", false), ("PlayParts$Sheet", "row", "[I", true)] k
def xR_M : String := "PlayPartsModel"
def xF_M : u_T := fun k => xnth ("", "", "", false) [("PlayPartsModel", "images", "I", false), ("PlayPartsModel", "laid", "I", false), ("PlayPartsModel", "here", "I", false), ("PlayPartsModel", "opened", "I", false), ("PlayPartsModel", "bad", "Z", false), ("PlayPartsModel", "using", "I", false), ("PlayPartsModel", "traced", "I", false), ("PlayPartsModel", "isParted", "Z", false), ("PlayPartsModel", "row", "[I", true), ("PlayPartsModel", "kept", "[I", true), ("PlayPartsModel", "before", "[I", true), ("PlayPartsModel", "errors", "[I", true), ("PlayPartsModel", "bitsOf", "[I", true), ("PlayPartsModel", "sizeOf", "[I", true), ("PlayPartsModel", "cells", "[I", true), ("PlayPartsModel", "act", "[I", true), ("PlayPartsModel", "with", "[I", true), ("PlayPartsModel", "facts", "[I", true), ("PlayPartsModel", "pile", "[I", true), ("PlayPartsModel", "value", "[I", true), ("PlayPartsModel", "worths", "[I", true), ("PlayPartsModel", "has", "[I", true), ("PlayPartsModel", "truly", "[I", true), ("PlayPartsModel", "trace", "[I", true)] k
abbrev xcl : List vw_C := [(xR_P, xF_P, 10), (xR_S, xF_S, 12), (xR_R, xF_R, 2), (xR_C, xF_C, 7), (xR_T, xF_T, 3), (xR_D, xF_D, 6), (xR_A, xF_A, 5), (xR_L, xF_L, 9), (xR_V, xF_V, 6), (xR_H, xF_H, 3), (xR_M, xF_M, 24)]
def xowL : List String := ["PlayParts", "PlayParts$Stage", "PlayParts$Role", "PlayParts$Child", "PlayParts$Text", "PlayParts$Reader", "PlayParts$Caster", "PlayParts$Liar", "PlayParts$Voices", "PlayParts$Sheet", "PlayPartsModel", "java/lang/Integer", "java/lang/String", "java/lang/StringLatin1"]
def xow (M : Nat) : String := xnth "" xowL (xrec M).1
def xys_0 : List (MethodName × ByteArray × Option FieldType) := [(⟨"PlayParts", "<init>", "()V"⟩, prog_1_method_1_code, none), (⟨"PlayParts", "part", "(I)I"⟩, prog_1_method_2_code, some .int), (⟨"PlayParts", "partIs", "(II)I"⟩, prog_1_method_3_code, some .int), (⟨"PlayParts", "become", "(II)I"⟩, prog_1_method_4_code, some .int), (⟨"PlayParts", "as", "(II)I"⟩, prog_1_method_5_code, some .int), (⟨"PlayParts", "child", "(III)I"⟩, prog_1_method_6_code, some .int), (⟨"PlayParts", "childIs", "(II)I"⟩, prog_1_method_7_code, some .int), (⟨"PlayParts", "wishes", "(III)I"⟩, prog_1_method_8_code, some .int), (⟨"PlayParts", "falls", "(II)I"⟩, prog_1_method_9_code, some .int), (⟨"PlayParts", "worth", "(II)I"⟩, prog_1_method_10_code, some .int), (⟨"PlayParts", "cast", "(II)I"⟩, prog_1_method_11_code, some .int), (⟨"PlayParts", "feed", "(JI)I"⟩, prog_1_method_12_code, some .int), (⟨"PlayParts", "text", "(I)I"⟩, prog_1_method_13_code, some .int), (⟨"PlayParts", "untell", "(I)I"⟩, prog_1_method_14_code, some .int), (⟨"PlayParts", "law", "(IIII)I"⟩, prog_1_method_15_code, some .int), (⟨"PlayParts", "play", "()I"⟩, prog_1_method_16_code, some .int)]
def xys_1 : List (MethodName × ByteArray × Option FieldType) := [(⟨"PlayParts", "lots", "()I"⟩, prog_1_method_17_code, some .int), (⟨"PlayParts", "loose", "(I)I"⟩, prog_1_method_18_code, some .int), (⟨"PlayParts", "seed", "(I)I"⟩, prog_1_method_19_code, some .int), (⟨"PlayParts", "best", "(I)I"⟩, prog_1_method_20_code, some .int), (⟨"PlayParts", "wished", "()I"⟩, prog_1_method_21_code, some .int), (⟨"PlayParts", "without", "(I)I"⟩, prog_1_method_22_code, some .int), (⟨"PlayParts", "lies", "(II)I"⟩, prog_1_method_23_code, some .int), (⟨"PlayParts", "odds", "(II)I"⟩, prog_1_method_24_code, some .int), (⟨"PlayParts", "fits", "(II)I"⟩, prog_1_method_25_code, some .int), (⟨"PlayParts", "voice", "(III)I"⟩, prog_1_method_26_code, some .int), (⟨"PlayParts", "body", "(I)I"⟩, prog_1_method_27_code, some .int), (⟨"PlayParts", "sheet", "(III)I"⟩, prog_1_method_28_code, some .int), (⟨"PlayParts", "put", "(III)I"⟩, prog_1_method_29_code, some .int), (⟨"PlayParts", "move", "(IIIII)I"⟩, prog_1_method_30_code, some .int), (⟨"PlayParts", "casts", "(I)I"⟩, prog_1_method_31_code, some .int), (⟨"PlayParts", "judge", "(I)I"⟩, prog_1_method_32_code, some .int)]
def xys_2 : List (MethodName × ByteArray × Option FieldType) := [(⟨"PlayParts", "image", "()I"⟩, prog_1_method_33_code, some .int), (⟨"PlayParts", "restore", "()I"⟩, prog_1_method_34_code, some .int), (⟨"PlayParts", "tell", "(I)I"⟩, prog_1_method_35_code, some .int), (⟨"PlayParts", "check", "()I"⟩, prog_1_method_36_code, some .int), (⟨"PlayParts", "count", "(I)I"⟩, prog_1_method_37_code, some .int), (⟨"PlayParts", "told", "(I)I"⟩, prog_1_method_38_code, some .int), (⟨"PlayParts", "fail", "(I)I"⟩, prog_1_method_39_code, some .int), (⟨"PlayParts", "isWithin", "(III)Z"⟩, prog_1_method_40_code, some .boolean), (⟨"PlayParts", "isKindAndNumber", "(I)Z"⟩, prog_1_method_41_code, some .boolean), (⟨"PlayParts", "isUse", "(I)Z"⟩, prog_1_method_42_code, some .boolean), (⟨"PlayParts", "isSheet", "(I)Z"⟩, prog_1_method_43_code, some .boolean), (⟨"PlayParts", "commonDivisor", "(II)I"⟩, prog_1_method_44_code, some .int), (⟨"PlayParts", "held", "(III)I"⟩, prog_1_method_45_code, some .int), (⟨"PlayParts$Stage", "<init>", "()V"⟩, prog_8_method_1_code, none), (⟨"PlayParts$Stage", "copyFrom", "(LPlayParts$Stage;)V"⟩, prog_8_method_2_code, none), (⟨"PlayParts$Stage", "hasPart", "(I)Z"⟩, prog_8_method_3_code, some .boolean)]
def xys_3 : List (MethodName × ByteArray × Option FieldType) := [(⟨"PlayParts$Stage", "hasPartOrNone", "(I)Z"⟩, prog_8_method_4_code, some .boolean), (⟨"PlayParts$Stage", "hasChild", "(I)Z"⟩, prog_8_method_5_code, some .boolean), (⟨"PlayParts$Stage", "mayPlay", "(II)Z"⟩, prog_8_method_6_code, some .boolean), (⟨"PlayParts$Stage", "holderOf", "(I)I"⟩, prog_8_method_7_code, some .int), (⟨"PlayParts$Stage", "childrenFor", "(I)I"⟩, prog_8_method_8_code, some .int), (⟨"PlayParts$Stage", "partsFor", "(I)I"⟩, prog_8_method_9_code, some .int), (⟨"PlayParts$Stage", "given", "(IIII)I"⟩, prog_8_method_10_code, some .int), (⟨"PlayParts$Stage", "worthOf", "(II)I"⟩, prog_8_method_11_code, some .int), (⟨"PlayParts$Stage", "worthIfDear", "(III)I"⟩, prog_8_method_12_code, some .int), (⟨"PlayParts$Stage", "joyOf", "(I)I"⟩, prog_8_method_13_code, some .int), (⟨"PlayParts$Stage", "theyPlay", "()I"⟩, prog_8_method_14_code, some .int), (⟨"PlayParts$Stage", "drawLots", "(I[I)I"⟩, prog_8_method_15_code, some .int), (⟨"PlayParts$Stage", "partAt", "(II)I"⟩, prog_8_method_16_code, some .int), (⟨"PlayParts$Stage", "castByLots", "([I)I"⟩, prog_8_method_17_code, some .int), (⟨"PlayParts$Stage", "castByRow", "([II)I"⟩, prog_8_method_18_code, some .int), (⟨"PlayParts$Stage", "rightInRow", "([II)I"⟩, prog_8_method_19_code, some .int)]
def xys_4 : List (MethodName × ByteArray × Option FieldType) := [(⟨"PlayParts$Role", "<init>", "()V"⟩, prog_6_method_1_code, none), (⟨"PlayParts$Role", "turnInto", "(I)V"⟩, prog_6_method_2_code, none), (⟨"PlayParts$Role", "copyFrom", "(LPlayParts$Role;)V"⟩, prog_6_method_3_code, none), (⟨"PlayParts$Role", "isOf", "(I)Z"⟩, prog_6_method_4_code, some .boolean), (⟨"PlayParts$Role", "suits", "(LPlayParts$Child;)Z"⟩, prog_6_method_5_code, some .boolean), (⟨"PlayParts$Role", "lines", "(I)I"⟩, prog_6_method_6_code, some .int), (⟨"PlayParts$Child", "<init>", "()V"⟩, prog_3_method_1_code, none), (⟨"PlayParts$Child", "startAs", "(III)V"⟩, prog_3_method_2_code, none), (⟨"PlayParts$Child", "copyFrom", "(LPlayParts$Child;)V"⟩, prog_3_method_3_code, none), (⟨"PlayParts$Child", "valueOf", "(I)I"⟩, prog_3_method_4_code, some .int), (⟨"PlayParts$Child", "dear", "(I)I"⟩, prog_3_method_5_code, some .int), (⟨"PlayParts$Child", "wishSet", "()I"⟩, prog_3_method_6_code, some .int), (⟨"PlayParts$Text", "<init>", "()V"⟩, prog_9_method_1_code, none), (⟨"PlayParts$Text", "add", "(I)V"⟩, prog_9_method_2_code, none), (⟨"PlayParts$Text", "copyFrom", "(LPlayParts$Text;)V"⟩, prog_9_method_3_code, none), (⟨"PlayParts$Text", "workOut", "(III)I"⟩, prog_9_method_4_code, some .int)]
def xys_5 : List (MethodName × ByteArray × Option FieldType) := [(⟨"PlayParts$Text", "named", "(IIII)I"⟩, prog_9_method_5_code, some .int), (⟨"PlayParts$Text", "apply", "(III)I"⟩, prog_9_method_6_code, some .int), (⟨"PlayParts$Reader", "<init>", "()V"⟩, prog_5_method_1_code, none), (⟨"PlayParts$Reader", "read", "([III)I"⟩, prog_5_method_2_code, some .int), (⟨"PlayParts$Reader", "failHere", "()V"⟩, prog_5_method_3_code, none), (⟨"PlayParts$Reader", "next", "()I"⟩, prog_5_method_4_code, some .int), (⟨"PlayParts$Reader", "isDigit", "(I)Z"⟩, prog_5_method_5_code, some .boolean), (⟨"PlayParts$Reader", "levelOf", "(I)I"⟩, prog_5_method_6_code, some .int), (⟨"PlayParts$Reader", "readLevel", "(II)V"⟩, prog_5_method_7_code, none), (⟨"PlayParts$Reader", "readFactor", "(I)V"⟩, prog_5_method_8_code, none), (⟨"PlayParts$Reader", "readClosing", "()V"⟩, prog_5_method_9_code, none), (⟨"PlayParts$Reader", "readNumber", "()V"⟩, prog_5_method_10_code, none), (⟨"PlayParts$Caster", "<init>", "()V"⟩, prog_2_method_1_code, none), (⟨"PlayParts$Caster", "weighByWorth", "(LPlayParts$Stage;)V"⟩, prog_2_method_2_code, none), (⟨"PlayParts$Caster", "weighByWishes", "(LPlayParts$Stage;)V"⟩, prog_2_method_3_code, none), (⟨"PlayParts$Caster", "leaveOut", "(I)V"⟩, prog_2_method_4_code, none)]
def xys_6 : List (MethodName × ByteArray × Option FieldType) := [(⟨"PlayParts$Caster", "workOut", "()V"⟩, prog_2_method_5_code, none), (⟨"PlayParts$Caster", "mostFrom", "(II)I"⟩, prog_2_method_6_code, some .int), (⟨"PlayParts$Caster", "isFree", "(III)Z"⟩, prog_2_method_7_code, some .boolean), (⟨"PlayParts$Caster", "comesTo", "(III)I"⟩, prog_2_method_8_code, some .int), (⟨"PlayParts$Caster", "mostWithout", "(I)I"⟩, prog_2_method_9_code, some .int), (⟨"PlayParts$Caster", "assignWithout", "(I)V"⟩, prog_2_method_10_code, none), (⟨"PlayParts$Caster", "leastPart", "(II)I"⟩, prog_2_method_11_code, some .int), (⟨"PlayParts$Liar", "<init>", "()V"⟩, prog_4_method_1_code, none), (⟨"PlayParts$Liar", "tryAll", "(LPlayParts$Stage;LPlayParts$Caster;I)V"⟩, prog_4_method_2_code, none), (⟨"PlayParts$Liar", "learnOthers", "(LPlayParts$Stage;LPlayParts$Caster;I)V"⟩, prog_4_method_3_code, none), (⟨"PlayParts$Liar", "rankOf", "([II)I"⟩, prog_4_method_4_code, some .int), (⟨"PlayParts$Liar", "learnWorth", "(LPlayParts$Stage;I)V"⟩, prog_4_method_5_code, none), (⟨"PlayParts$Liar", "claim", "(II)V"⟩, prog_4_method_6_code, none), (⟨"PlayParts$Liar", "chosenBy", "([I)I"⟩, prog_4_method_7_code, some .int), (⟨"PlayParts$Voices", "<init>", "()V"⟩, prog_10_method_1_code, none), (⟨"PlayParts$Voices", "speak", "(ILPlayParts$Role;II)I"⟩, prog_10_method_2_code, some .int)]
def xys_7 : List (MethodName × ByteArray × Option FieldType) := [(⟨"PlayParts$Voices", "begin", "(I)V"⟩, prog_10_method_3_code, none), (⟨"PlayParts$Voices", "above", "(I)I"⟩, prog_10_method_4_code, some .int), (⟨"PlayParts$Voices", "says", "(II)I"⟩, prog_10_method_5_code, some .int), (⟨"PlayParts$Voices", "sings", "(II)I"⟩, prog_10_method_6_code, some .int), (⟨"PlayParts$Voices", "waits", "(II)I"⟩, prog_10_method_7_code, some .int), (⟨"PlayParts$Voices", "parts", "(II)I"⟩, prog_10_method_8_code, some .int), (⟨"PlayParts$Sheet", "<init>", "()V"⟩, prog_7_method_1_code, none), (⟨"PlayParts$Sheet", "clearTo", "(II)V"⟩, prog_7_method_2_code, none), (⟨"PlayParts$Sheet", "lowestBits", "(I)I"⟩, prog_7_method_3_code, some .int), (⟨"PlayParts$Sheet", "hasRun", "(II)Z"⟩, prog_7_method_4_code, some .boolean), (⟨"PlayParts$Sheet", "startsLike", "([II)Z"⟩, prog_7_method_5_code, some .boolean), (⟨"PlayPartsModel", "<init>", "()V"⟩, prog_12_method_1_code, none), (⟨"PlayPartsModel", "error", "(I)I"⟩, prog_12_method_2_code, some .int), (⟨"PlayPartsModel", "in", "(III)Z"⟩, prog_12_method_3_code, some .boolean), (⟨"PlayPartsModel", "held", "(III)I"⟩, prog_12_method_4_code, some .int), (⟨"PlayPartsModel", "copyAll", "([I[I)V"⟩, prog_12_method_5_code, none)]
def xys_8 : List (MethodName × ByteArray × Option FieldType) := [(⟨"PlayPartsModel", "thinks", "()V"⟩, prog_12_method_6_code, none), (⟨"PlayPartsModel", "putsBack", "()V"⟩, prog_12_method_7_code, none), (⟨"PlayPartsModel", "bits", "(I)I"⟩, prog_12_method_8_code, some .int), (⟨"PlayPartsModel", "isPart", "(I)Z"⟩, prog_12_method_9_code, some .boolean), (⟨"PlayPartsModel", "isChild", "(I)Z"⟩, prog_12_method_10_code, some .boolean), (⟨"PlayPartsModel", "becomes", "(II)I"⟩, prog_12_method_11_code, some .int), (⟨"PlayPartsModel", "of", "(II)I"⟩, prog_12_method_12_code, some .int), (⟨"PlayPartsModel", "about", "(II)I"⟩, prog_12_method_13_code, some .int), (⟨"PlayPartsModel", "lets", "(III)V"⟩, prog_12_method_14_code, none), (⟨"PlayPartsModel", "mayPlay", "(II)Z"⟩, prog_12_method_15_code, some .boolean), (⟨"PlayPartsModel", "linesOf", "(I)I"⟩, prog_12_method_16_code, some .int), (⟨"PlayPartsModel", "dearTo", "(II)I"⟩, prog_12_method_17_code, some .int), (⟨"PlayPartsModel", "worthTo", "(II)I"⟩, prog_12_method_18_code, some .int), (⟨"PlayPartsModel", "joyOf", "(I)I"⟩, prog_12_method_19_code, some .int), (⟨"PlayPartsModel", "joyOfAll", "()I"⟩, prog_12_method_20_code, some .int), (⟨"PlayPartsModel", "whoHas", "(I)I"⟩, prog_12_method_21_code, some .int)]
def xys_9 : List (MethodName × ByteArray × Option FieldType) := [(⟨"PlayPartsModel", "isKm", "(I)Z"⟩, prog_12_method_22_code, some .boolean), (⟨"PlayPartsModel", "part", "(I)I"⟩, prog_12_method_23_code, some .int), (⟨"PlayPartsModel", "whoMay", "(I)I"⟩, prog_12_method_24_code, some .int), (⟨"PlayPartsModel", "partIs", "(II)I"⟩, prog_12_method_25_code, some .int), (⟨"PlayPartsModel", "become", "(II)I"⟩, prog_12_method_26_code, some .int), (⟨"PlayPartsModel", "as", "(II)I"⟩, prog_12_method_27_code, some .int), (⟨"PlayPartsModel", "child", "(III)I"⟩, prog_12_method_28_code, some .int), (⟨"PlayPartsModel", "childIs", "(II)I"⟩, prog_12_method_29_code, some .int), (⟨"PlayPartsModel", "wishes", "(III)I"⟩, prog_12_method_30_code, some .int), (⟨"PlayPartsModel", "falls", "(II)I"⟩, prog_12_method_31_code, some .int), (⟨"PlayPartsModel", "worth", "(II)I"⟩, prog_12_method_32_code, some .int), (⟨"PlayPartsModel", "cast", "(II)I"⟩, prog_12_method_33_code, some .int), (⟨"PlayPartsModel", "feed", "(JI)I"⟩, prog_12_method_34_code, some .int), (⟨"PlayPartsModel", "look", "()I"⟩, prog_12_method_35_code, some .int), (⟨"PlayPartsModel", "step", "(II)V"⟩, prog_12_method_36_code, none), (⟨"PlayPartsModel", "nameOf", "(I)I"⟩, prog_12_method_37_code, some .int)]
def xys_10 : List (MethodName × ByteArray × Option FieldType) := [(⟨"PlayPartsModel", "number", "()V"⟩, prog_12_method_38_code, none), (⟨"PlayPartsModel", "opens", "(I)V"⟩, prog_12_method_39_code, none), (⟨"PlayPartsModel", "one", "()V"⟩, prog_12_method_40_code, none), (⟨"PlayPartsModel", "times", "()V"⟩, prog_12_method_41_code, none), (⟨"PlayPartsModel", "sum", "()V"⟩, prog_12_method_42_code, none), (⟨"PlayPartsModel", "compares", "()V"⟩, prog_12_method_43_code, none), (⟨"PlayPartsModel", "all", "()V"⟩, prog_12_method_44_code, none), (⟨"PlayPartsModel", "any", "()V"⟩, prog_12_method_45_code, none), (⟨"PlayPartsModel", "text", "(I)I"⟩, prog_12_method_46_code, some .int), (⟨"PlayPartsModel", "untell", "(I)I"⟩, prog_12_method_47_code, some .int), (⟨"PlayPartsModel", "twoOf", "(III)I"⟩, prog_12_method_48_code, some .int), (⟨"PlayPartsModel", "works", "(I)I"⟩, prog_12_method_49_code, some .int), (⟨"PlayPartsModel", "gives", "(IIII)I"⟩, prog_12_method_50_code, some .int), (⟨"PlayPartsModel", "law", "(IIII)I"⟩, prog_12_method_51_code, some .int), (⟨"PlayPartsModel", "plays", "()I"⟩, prog_12_method_52_code, some .int), (⟨"PlayPartsModel", "play", "()I"⟩, prog_12_method_53_code, some .int)]
def xys_11 : List (MethodName × ByteArray × Option FieldType) := [(⟨"PlayPartsModel", "draw", "()I"⟩, prog_12_method_54_code, some .int), (⟨"PlayPartsModel", "freeFor", "(I)I"⟩, prog_12_method_55_code, some .int), (⟨"PlayPartsModel", "nobodyHas", "()V"⟩, prog_12_method_56_code, none), (⟨"PlayPartsModel", "drawn", "()I"⟩, prog_12_method_57_code, some .int), (⟨"PlayPartsModel", "lots", "()I"⟩, prog_12_method_58_code, some .int), (⟨"PlayPartsModel", "loose", "(I)I"⟩, prog_12_method_59_code, some .int), (⟨"PlayPartsModel", "seed", "(I)I"⟩, prog_12_method_60_code, some .int), (⟨"PlayPartsModel", "findWorths", "()V"⟩, prog_12_method_61_code, none), (⟨"PlayPartsModel", "findValues", "()V"⟩, prog_12_method_62_code, none), (⟨"PlayPartsModel", "findBest", "()V"⟩, prog_12_method_63_code, none), (⟨"PlayPartsModel", "best", "(I)I"⟩, prog_12_method_64_code, some .int), (⟨"PlayPartsModel", "wished", "()I"⟩, prog_12_method_65_code, some .int), (⟨"PlayPartsModel", "without", "(I)I"⟩, prog_12_method_66_code, some .int), (⟨"PlayPartsModel", "lies", "(II)I"⟩, prog_12_method_67_code, some .int), (⟨"PlayPartsModel", "odds", "(II)I"⟩, prog_12_method_68_code, some .int), (⟨"PlayPartsModel", "rightOf", "(I)I"⟩, prog_12_method_69_code, some .int)]
def xys_12 : List (MethodName × ByteArray × Option FieldType) := [(⟨"PlayPartsModel", "fits", "(II)I"⟩, prog_12_method_70_code, some .int), (⟨"PlayPartsModel", "begins", "(I)V"⟩, prog_12_method_71_code, none), (⟨"PlayPartsModel", "plainSays", "(II)I"⟩, prog_12_method_72_code, some .int), (⟨"PlayPartsModel", "speakerSays", "(II)I"⟩, prog_12_method_73_code, some .int), (⟨"PlayPartsModel", "says", "(II)I"⟩, prog_12_method_74_code, some .int), (⟨"PlayPartsModel", "plainSings", "(II)I"⟩, prog_12_method_75_code, some .int), (⟨"PlayPartsModel", "crownSings", "(II)I"⟩, prog_12_method_76_code, some .int), (⟨"PlayPartsModel", "sings", "(II)I"⟩, prog_12_method_77_code, some .int), (⟨"PlayPartsModel", "plainWaits", "(II)I"⟩, prog_12_method_78_code, some .int), (⟨"PlayPartsModel", "waits", "(II)I"⟩, prog_12_method_79_code, some .int), (⟨"PlayPartsModel", "plainParts", "(II)I"⟩, prog_12_method_80_code, some .int), (⟨"PlayPartsModel", "partsBy", "(II)I"⟩, prog_12_method_81_code, some .int), (⟨"PlayPartsModel", "voice", "(III)I"⟩, prog_12_method_82_code, some .int), (⟨"PlayPartsModel", "body", "(I)I"⟩, prog_12_method_83_code, some .int), (⟨"PlayPartsModel", "isSheet", "(I)Z"⟩, prog_12_method_84_code, some .boolean), (⟨"PlayPartsModel", "sheet", "(III)I"⟩, prog_12_method_85_code, some .int)]
def xys_13 : List (MethodName × ByteArray × Option FieldType) := [(⟨"PlayPartsModel", "notThere", "(I)I"⟩, prog_12_method_86_code, some .int), (⟨"PlayPartsModel", "put", "(III)I"⟩, prog_12_method_87_code, some .int), (⟨"PlayPartsModel", "notMoved", "(IIIII)I"⟩, prog_12_method_88_code, some .int), (⟨"PlayPartsModel", "move", "(IIIII)I"⟩, prog_12_method_89_code, some .int), (⟨"PlayPartsModel", "casts", "(I)I"⟩, prog_12_method_90_code, some .int), (⟨"PlayPartsModel", "judge", "(I)I"⟩, prog_12_method_91_code, some .int), (⟨"PlayPartsModel", "image", "()I"⟩, prog_12_method_92_code, some .int), (⟨"PlayPartsModel", "restore", "()I"⟩, prog_12_method_93_code, some .int), (⟨"PlayPartsModel", "tell", "(I)I"⟩, prog_12_method_94_code, some .int), (⟨"PlayPartsModel", "check", "()I"⟩, prog_12_method_95_code, some .int), (⟨"PlayPartsModel", "count", "(I)I"⟩, prog_12_method_96_code, some .int), (⟨"PlayPartsModel", "told", "(I)I"⟩, prog_12_method_97_code, some .int), (⟨"java/lang/Integer", "bitCount", "(I)I"⟩, prog_14_method_49_code, some .int), (⟨"java/lang/String", "length", "()I"⟩, prog_16_method_54_code, some .int), (⟨"java/lang/String", "indexOf", "(I)I"⟩, prog_16_method_79_code, some .int), (⟨"java/lang/String", "indexOf", "(II)I"⟩, prog_16_method_80_code, some .int)]
def xys_14 : List (MethodName × ByteArray × Option FieldType) := [(⟨"java/lang/String", "coder", "()B"⟩, prog_16_method_152_code, some .byte), (⟨"java/lang/String", "isLatin1", "()Z"⟩, prog_16_method_154_code, some .boolean), (⟨"java/lang/StringLatin1", "canEncode", "(I)Z"⟩, prog_17_method_4_code, some .boolean), (⟨"java/lang/StringLatin1", "indexOf", "([BIII)I"⟩, prog_17_method_22_code, some .int), (⟨"java/lang/StringLatin1", "indexOfChar", "([BIII)I"⟩, prog_17_method_23_code, some .int)]
def xys : List (List (MethodName × ByteArray × Option FieldType)) := [xys_0, xys_1, xys_2, xys_3, xys_4, xys_5, xys_6, xys_7, xys_8, xys_9, xys_10, xys_11, xys_12, xys_13, xys_14]
def xy (M : Nat) : MethodName × ByteArray × Option FieldType := xnth (⟨"", "", ""⟩, ⟨#[]⟩, none) (xnth [] xys (M / 16)) (M % 16)
end
section
/-! the words of the tables, by their places -/
def xGT : List Cond := lw_tbl.filter fun w => k2_isCode w || goodWord w
theorem xGT_in {w : Cond} (i : Nat) (h : lw_tbl[i]? = some w) (hg : (k2_isCode w || goodWord w) = true) : w ∈ xGT := List.mem_filter.mpr ⟨List.mem_of_getElem? h, hg⟩
theorem xGT_good : ∀ w ∈ xGT, (w.onTables && w.keeps) = true ∨ ∃ ty, w = .arrayClass ty := by
  intro w hw
  have h := (List.mem_filter.mp hw).2
  rcases Bool.or_eq_true _ _ ▸ h with h | h
  · cases w <;> first | (simp [k2_isCode] at h; done) | exact Or.inl rfl
  · exact good_of_word h
theorem xas_mem {α : Type} : ∀ (l : List (Nat × α)) (k : Nat) (v : α), xas l k = some v → (k, v) ∈ l
  | [], _, _, h => by cases h
  | q :: r, k, v, h => by
    simp only [xas] at h
    cases hb : Nat.beq q.1 k with
    | true =>
      rw [hb] at h
      have e : q.1 = k := Nat.eq_of_beq_eq_true hb
      have e2 : q.2 = v := Option.some.inj h
      subst e; subst e2
      exact List.mem_cons_self
    | false =>
      rw [hb] at h
      exact List.mem_cons_of_mem _ (xas_mem r k v h)
theorem xnth_out {α : Type} (d : α) : ∀ (l : List α) (k : Nat), l.length ≤ k → xnth d l k = d
  | [], _, _ => rfl
  | _ :: r, 0, h => by simp at h
  | _ :: r, k + 1, h => xnth_out d r k (by simpa using h)
theorem xall_nth {α : Type} {d : List α} {T : List (List α)} {n : Nat} {f : Nat → α → Bool} (hn : T.length = n) (hd : d = []) (h : (List.range n).all (fun c => (xnth d T c).all (f c)) = true) : ∀ (c : Nat) (e : α), e ∈ xnth d T c → f c e = true := by
  intro c e he
  by_cases hc : c < n
  · exact List.all_eq_true.mp (List.all_eq_true.mp h c (List.mem_range.mpr hc)) e he
  · rw [xnth_out d T c (by omega), hd] at he
    cases he
def xfpT : List (List (Nat × (Nat × Bool))) := [[(10, (381, false)), (16, (382, false)), (22, (384, false)), (29, (385, false)), (36, (386, false)), (43, (387, false)), (49, (388, false)), (53, (389, false)), (57, (390, false)), (69, (189, true)), (73, (186, true)), (86, (119, true)), (89, (122, true)), (92, (199, true)), (111, (197, true)), (114, (193, true)), (136, (151, true)), (139, (144, true)), (150, (149, true)), (153, (207, true)), (156, (205, true)), (166, (209, true)), (170, (249, true)), (180, (176, true)), (195, (201, true)), (198, (203, true)), (214, (281, true)), (226, (310, true)), (229, (312, true)), (249, (371, true)), (264, (344, true)), (268, (342, true)), (271, (340, true)), (278, (373, true)), (281, (369, true)), (305, (383, false)), (308, (213, true)), (311, (211, true))], [(11, (185, false)), (19, (191, false)), (23, (202, false)), (27, (204, false)), (33, (208, false)), (37, (210, false)), (53, (190, false)), (56, (195, false)), (59, (198, false)), (62, (200, false)), (71, (206, false)), (74, (212, false)), (85, (148, true)), (92, (175, true)), (106, (146, true)), (109, (136, true)), (120, (141, true))], [(9, (117, false)), (15, (120, false)), (22, (143, true)), (27, (135, true)), (30, (138, true)), (33, (140, true))], [(9, (150, false)), (15, (134, false)), (19, (137, false)), (22, (139, false)), (25, (142, false)), (28, (145, false)), (31, (147, false))], [(9, (172, false)), (15, (177, false)), (18, (173, false))], [(12, (248, false)), (18, (250, false)), (24, (254, false)), (38, (251, false)), (52, (174, true)), (55, (252, false)), (58, (253, false))], [(11, (277, false)), (16, (278, false)), (19, (279, false)), (23, (194, true)), (29, (282, false)), (32, (188, true)), (35, (283, false)), (46, (192, true))], [(11, (302, false)), (15, (303, false)), (18, (304, false)), (22, (305, false)), (27, (306, false)), (30, (307, false)), (33, (187, true)), (39, (308, false)), (42, (309, false)), (45, (311, false)), (84, (280, true)), (87, (196, true))], [(11, (339, false)), (15, (345, false)), (19, (118, true)), (24, (346, false)), (25, (121, true)), (28, (347, false)), (29, (341, false)), (32, (343, false))], [(9, (368, false)), (15, (370, false)), (19, (372, false))], [(9, (990, false)), (13, (991, false)), (16, (992, false)), (19, (994, false)), (22, (995, false)), (25, (996, false)), (28, (997, false)), (31, (998, false)), (34, (999, false)), (37, (1000, false)), (40, (1001, false)), (43, (1007, false)), (46, (1008, false)), (49, (1009, false)), (52, (1010, false)), (55, (1011, false)), (127, (1003, false)), (131, (1002, false)), (134, (1006, false)), (141, (1005, false)), (149, (1004, false)), (236, (1012, false)), (263, (1013, false)), (283, (993, false))], [], [(9, (1453, false)), (15, (1452, false))], []]
def xcpT : List (List (Nat × Nat)) := [[(1, 97), (9, 102), (21, 241), (28, 271), (35, 297), (42, 335), (60, 364), (61, 416), (65, 422), (77, 427), (83, 435), (95, 439), (98, 443), (101, 447), (104, 467), (107, 419), (118, 477), (124, 485), (127, 489), (130, 524), (133, 532), (142, 545), (146, 550), (159, 559), (162, 562), (174, 689), (183, 702), (187, 707), (191, 718), (201, 752), (205, 758), (208, 775), (211, 779), (216, 791), (219, 800), (222, 808), (232, 845), (235, 846), (240, 847), (243, 851), (246, 858), (252, 861), (256, 862), (260, 870), (274, 906), (284, 914), (287, 922), (290, 926), (296, 931), (300, 941), (303, 949), (315, 518), (320, 521)], [(3, 105), (40, 113), (41, 130), (42, 168), (43, 953), (47, 957), (50, 962), (65, 963), (77, 536), (81, 455), (88, 451), (95, 505), (99, 515), (102, 497), (112, 501), (116, 493), (123, 711), (128, 726), (131, 730), (137, 737), (140, 722), (144, 935), (147, 936)], [(3, 116)], [(3, 133), (34, 961)], [(3, 171), (22, 693), (28, 509), (32, 512)], [(3, 244), (11, 246), (28, 566), (34, 567), (42, 568), (61, 573), (65, 682), (68, 577), (72, 581), (76, 686), (80, 592), (83, 585), (87, 588), (90, 596), (95, 678)], [(3, 274), (38, 756), (42, 757), (49, 795), (55, 762), (58, 766), (62, 770), (66, 774), (71, 783)], [(3, 300), (48, 812), (52, 824), (56, 833), (60, 837), (64, 816), (70, 817), (73, 818), (77, 819), (81, 820), (90, 821), (94, 828), (98, 829)], [(3, 338), (36, 874), (40, 886), (43, 890), (46, 894), (52, 878), (56, 882)], [(3, 367)], [(3, 989), (59, 1324), (63, 1070), (67, 1088), (71, 1100), (74, 1149), (77, 1153), (81, 1145), (84, 1141), (88, 1067), (93, 1074), (97, 1108), (101, 1084), (104, 1092), (107, 1096), (110, 1104), (113, 1116), (117, 1129), (121, 1137), (137, 1217), (145, 1225), (152, 1213), (155, 1193), (158, 1221), (161, 1229), (165, 1233), (168, 1209), (171, 1205), (174, 1201), (177, 1197), (180, 1161), (184, 1157), (187, 1164), (190, 1253), (195, 1249), (199, 1267), (202, 1271), (205, 1275), (208, 1280), (211, 1263), (214, 1304), (218, 1296), (221, 1300), (224, 1320), (227, 1327), (230, 1339), (233, 1342), (239, 1358), (242, 1362), (245, 1354), (248, 1350), (251, 1374), (254, 1370), (257, 1366), (260, 1382), (266, 1390), (269, 1378), (272, 1386), (276, 1407), (279, 1415)], [], [(335, 614), (492, 604), (505, 610), (633, 600), (637, 618)], [(38, 625), (88, 621), (92, 624), (95, 626)]]
def xkpT : List (List (Nat × Nat)) := [[(314, 426)], [(126, 712), (127, 713), (136, 736)], [], [], [], [], [], [], [], [], [(58, 1078), (92, 1073), (96, 1079), (116, 1124), (124, 1183), (193, 1257), (194, 1258), (198, 1279), (217, 1295), (275, 1394)], [(265, 733), (266, 734), (267, 735)], [], []]
def xlpT : List (List (Nat × Nat)) := [[], [], [], [], [], [], [], [], [], [], [(125, 1188)], [], [], []]
def xspT : List (List (Nat × Nat)) := [[], [], [(18, 471)], [], [], [], [], [], [(49, 885)], [], [], [], [(38, 608)], []]
def xFt (t : Nat) : u_T := cond (Nat.beq t 4) (xF_P) (cond (Nat.beq t 5) (xF_S) (cond (Nat.beq t 7) (xF_R) (cond (Nat.beq t 9) (xF_C) (cond (Nat.beq t 13) (xF_T) (cond (Nat.beq t 17) (xF_D) (cond (Nat.beq t 19) (xF_A) (cond (Nat.beq t 25) (xF_L) (cond (Nat.beq t 33) (xF_V) (cond (Nat.beq t 36) (xF_H) (cond (Nat.beq t 40) (xF_M) (cond (Nat.beq t 1) (fun k => xnth ("", "", "", false) [("java/lang/String", "value", "[B", true), ("java/lang/String", "coder", "B", true)] k) (fun _ => ("", "", "", false)))))))))))))
def xCt (t : Nat) : String := cond (Nat.beq t 4) (xR_P) (cond (Nat.beq t 5) (xR_S) (cond (Nat.beq t 7) (xR_R) (cond (Nat.beq t 9) (xR_C) (cond (Nat.beq t 13) (xR_T) (cond (Nat.beq t 17) (xR_D) (cond (Nat.beq t 19) (xR_A) (cond (Nat.beq t 25) (xR_L) (cond (Nat.beq t 33) (xR_V) (cond (Nat.beq t 36) (xR_H) (cond (Nat.beq t 40) (xR_M) (cond (Nat.beq t 1) ("java/lang/String") (""))))))))))))
def xfw (c x : Nat) (n : Bool) (q : Nat × Nat) : Cond := cond n (.fieldLinkNest (xnth "" xowL c) x (xCt q.1) (xFt q.1 q.2).2.1 (xFt q.1 q.2).2.2.1 "PlayParts") (.fieldLink (xnth "" xowL c) x (xCt q.1) (xFt q.1 q.2).2.1 (xFt q.1 q.2).2.2.1)
def xchF (c : Nat) (e : Nat × (Nat × Nat)) : Bool := match xas (xnth [] xfpT c) e.1 with
  | some p => decide (lw_tbl[p.1]? = some (xfw c e.1 p.2 e.2)) && (Nat.blt e.2.2 (xsz e.2.1) || Nat.beq e.2.1 1) && (Nat.beq (xkind e.2.1) 1 || Nat.beq e.2.1 1)
  | none => false
theorem xchF_ok : (List.range 14).all (fun c => (xnth [] xfldT c).all (xchF c)) = true := by decide +kernel
def xcw (c x : Nat) (q : Nat × Nat) : Cond := match q.2 with
  | 3 => .methodLinkNest (xnth "" xowL c) x (xy q.1).1 "PlayParts"
  | 4 => .methodLinkNest (xnth "" xowL c) x (xy q.1).1 "PlayParts"
  | 5 => .methodLink (xnth "" xowL c) x objectInit
  | 6 => .methodLink (xnth "" xowL c) x arraycopyName
  | 7 => .methodLink (xnth "" xowL c) x Lib.Math.max.name
  | 8 => .methodLink (xnth "" xowL c) x Lib.Math.min.name
  | _ => .methodLink (xnth "" xowL c) x (xy q.1).1
def xchC (c : Nat) (e : Nat × (Nat × Nat)) : Bool := match xas (xnth [] xcpT c) e.1 with
  | some p => decide (lw_tbl[p]? = some (xcw c e.1 e.2)) && (Nat.blt e.2.1 xN || Nat.beq e.2.1 999)
  | none => false
theorem xchC_ok : (List.range 14).all (fun c => (xnth [] xcalT c).all (xchC c)) = true := by decide +kernel
def xchK (c : Nat) (e : Nat × Int) : Bool := match xas (xnth [] xkpT c) e.1 with
  | some p => decide (lw_tbl[p]? = some (.constant (xnth "" xowL c) e.1 (Int32.ofInt e.2))) && decide (-2147483648 ≤ e.2 ∧ e.2 < 2147483648)
  | none => false
theorem xchK_ok : (List.range 14).all (fun c => (xnth [] xkonT c).all (xchK c)) = true := by decide +kernel
def xchL (c : Nat) (e : Nat × Int) : Bool := match xas (xnth [] xlpT c) e.1 with
  | some p => decide (lw_tbl[p]? = some (.constantLong (xnth "" xowL c) e.1 (Int64.ofInt e.2))) && decide (-9223372036854775808 ≤ e.2 ∧ e.2 < 9223372036854775808)
  | none => false
theorem xchL_ok : (List.range 14).all (fun c => (xnth [] xkonLT c).all (xchL c)) = true := by decide +kernel
def xchS (c : Nat) (e : Nat × Bool) : Bool := match xas (xnth [] xspT c) e.1 with
  | some p => decide (lw_tbl[p]? = some (cond e.2 (.fieldLinkNest (xnth "" xowL c) e.1 "PlayParts" "ABOVE" "[I" "PlayParts") (.fieldLink (xnth "" xowL c) e.1 "java/lang/String" "COMPACT_STRINGS" "Z")))
  | none => false
theorem xchS_ok : (List.range 14).all (fun c => (xnth [] xstaT c).all (xchS c)) = true := by decide +kernel
def xstrs : List (String × Nat × String × Nat) := [("PlayParts$Reader", 22, "", 1), ("PlayParts$Reader", 48, "wlv", 2), ("PlayParts$Reader", 50, "wsy", 3)]
def xchT (c : Nat) (e : Nat × Nat) : Bool := xstrs.any fun q => decide (q.1 = xnth "" xowL c ∧ q.2.1 = e.1 ∧ q.2.2.2 = e.2 ∧ 1 ≤ e.2 ∧ e.2 ≤ 3)
theorem xchT_ok : (List.range 14).all (fun c => (xnth [] xstrT c).all (xchT c)) = true := by decide +kernel
def xmp_0 : List (Nat × Nat × Nat × Nat) := [(96, 95, 0, 73), (415, 413, 414, 73), (434, 432, 433, 73), (462, 460, 461, 73), (466, 464, 465, 73), (476, 474, 475, 73), (484, 482, 483, 73), (531, 529, 530, 73), (540, 538, 539, 73), (544, 542, 543, 73), (549, 547, 548, 73), (554, 552, 553, 73), (558, 556, 557, 73), (697, 695, 696, 73), (701, 699, 700, 73), (706, 704, 705, 73)]
def xmp_1 : List (Nat × Nat × Nat × Nat) := [(717, 715, 716, 73), (743, 741, 742, 73), (747, 745, 746, 73), (751, 749, 750, 73), (790, 788, 789, 73), (799, 797, 798, 73), (807, 805, 806, 73), (844, 842, 843, 73), (857, 855, 856, 73), (869, 867, 868, 73), (901, 899, 900, 73), (905, 903, 904, 73), (913, 911, 912, 73), (921, 919, 920, 73), (930, 928, 929, 73), (940, 938, 939, 73)]
def xmp_2 : List (Nat × Nat × Nat × Nat) := [(948, 946, 947, 73), (967, 965, 966, 73), (971, 969, 970, 73), (975, 973, 974, 73), (979, 977, 978, 73), (983, 981, 982, 73), (425, 424, 0, 73), (421, 420, 0, 73), (418, 417, 0, 73), (561, 560, 0, 73), (860, 859, 0, 73), (853, 852, 0, 73), (517, 516, 0, 73), (104, 103, 0, 74), (952, 950, 951, 74), (438, 436, 437, 74)]
def xmp_3 : List (Nat × Nat × Nat × Nat) := [(535, 533, 534, 74), (488, 486, 487, 74), (454, 452, 453, 74), (446, 444, 445, 74), (450, 448, 449, 74), (729, 727, 728, 74), (504, 502, 503, 74), (496, 494, 495, 74), (832, 830, 831, 74), (492, 490, 491, 74), (710, 708, 709, 74), (725, 723, 724, 74), (739, 738, 0, 74), (721, 719, 720, 74), (934, 932, 933, 74), (944, 942, 943, 74)]
def xmp_4 : List (Nat × Nat × Nat × Nat) := [(115, 114, 0, 75), (430, 428, 429, 75), (956, 954, 955, 75), (470, 468, 469, 75), (458, 456, 457, 75), (442, 440, 441, 75), (132, 131, 0, 76), (480, 478, 479, 76), (960, 958, 959, 76), (527, 525, 526, 76), (500, 498, 499, 76), (850, 848, 849, 76), (170, 169, 0, 77), (595, 593, 594, 77), (692, 690, 691, 77), (508, 506, 507, 77)]
def xmp_5 : List (Nat × Nat × Nat × Nat) := [(511, 510, 0, 77), (514, 513, 0, 77), (243, 242, 0, 78), (565, 563, 564, 78), (685, 684, 6, 78), (584, 583, 3, 78), (587, 586, 0, 78), (688, 687, 0, 78), (576, 575, 1, 78), (580, 579, 2, 78), (681, 680, 5, 78), (591, 590, 4, 78), (273, 272, 0, 79), (755, 753, 754, 79), (794, 792, 793, 79), (803, 801, 802, 79)]
def xmp_6 : List (Nat × Nat × Nat × Nat) := [(761, 759, 760, 79), (765, 764, 7, 79), (769, 768, 8, 79), (773, 772, 9, 79), (778, 776, 777, 79), (782, 780, 781, 79), (786, 785, 10, 79), (299, 298, 0, 80), (811, 809, 810, 80), (815, 814, 11, 80), (823, 822, 0, 80), (827, 826, 12, 80), (840, 839, 14, 80), (836, 835, 13, 80), (337, 336, 0, 81), (873, 871, 872, 81)]
def xmp_7 : List (Nat × Nat × Nat × Nat) := [(881, 880, 16, 81), (884, 883, 0, 81), (877, 876, 15, 81), (889, 888, 17, 81), (893, 892, 18, 81), (897, 896, 19, 81), (366, 365, 0, 82), (909, 907, 908, 82), (917, 915, 916, 82), (925, 923, 924, 82), (865, 863, 864, 82), (988, 987, 0, 83), (1077, 1076, 20, 83), (1072, 1071, 0, 83), (1166, 1165, 0, 83), (1326, 1325, 0, 83)]
def xmp_8 : List (Nat × Nat × Nat × Nat) := [(1323, 1322, 56, 83), (1330, 1329, 57, 83), (1282, 1281, 0, 83), (1087, 1086, 21, 83), (1140, 1139, 30, 83), (1119, 1118, 28, 83), (1091, 1090, 22, 83), (1103, 1102, 25, 83), (1132, 1131, 29, 83), (1111, 1110, 27, 83), (1095, 1094, 23, 83), (1152, 1151, 33, 83), (1148, 1147, 32, 83), (1144, 1143, 31, 83), (1256, 1255, 48, 83), (1099, 1098, 24, 83)]
def xmp_9 : List (Nat × Nat × Nat × Nat) := [(1069, 1068, 0, 83), (1066, 1064, 1065, 83), (1107, 1106, 26, 83), (1083, 1081, 1082, 83), (1115, 1113, 1114, 83), (1123, 1121, 1122, 83), (1128, 1126, 1127, 83), (1136, 1134, 1135, 83), (1170, 1168, 1169, 83), (1174, 1172, 1173, 83), (1178, 1176, 1177, 83), (1182, 1180, 1181, 83), (1187, 1185, 1186, 83), (1220, 1219, 42, 83), (1228, 1227, 44, 83), (1224, 1223, 43, 83)]
def xmp_10 : List (Nat × Nat × Nat × Nat) := [(1236, 1235, 46, 83), (1232, 1231, 45, 83), (1216, 1215, 41, 83), (1212, 1211, 40, 83), (1208, 1207, 39, 83), (1204, 1203, 38, 83), (1200, 1199, 37, 83), (1196, 1195, 36, 83), (1192, 1190, 1191, 83), (1240, 1238, 1239, 83), (1163, 1162, 0, 83), (1160, 1159, 35, 83), (1156, 1155, 34, 83), (1244, 1242, 1243, 83), (1252, 1251, 47, 83), (1248, 1246, 1247, 83)]
def xmp_11 : List (Nat × Nat × Nat × Nat) := [(1278, 1277, 52, 83), (1274, 1273, 51, 83), (1270, 1269, 50, 83), (1266, 1265, 49, 83), (1262, 1260, 1261, 83), (1286, 1284, 1285, 83), (1290, 1288, 1289, 83), (1299, 1298, 53, 83), (1307, 1306, 55, 83), (1303, 1302, 54, 83), (1294, 1292, 1293, 83), (1311, 1309, 1310, 83), (1315, 1313, 1314, 83), (1319, 1317, 1318, 83), (1334, 1332, 1333, 83), (1345, 1344, 58, 83)]
def xmp_12 : List (Nat × Nat × Nat × Nat) := [(1338, 1336, 1337, 83), (1361, 1360, 61, 83), (1365, 1364, 62, 83), (1357, 1356, 60, 83), (1353, 1352, 59, 83), (1377, 1376, 65, 83), (1373, 1372, 64, 83), (1369, 1368, 63, 83), (1385, 1384, 67, 83), (1381, 1380, 66, 83), (1393, 1392, 69, 83), (1389, 1388, 68, 83), (1349, 1347, 1348, 83), (1398, 1396, 1397, 83), (1341, 1340, 0, 83), (1402, 1400, 1401, 83)]
def xmp_13 : List (Nat × Nat × Nat × Nat) := [(1410, 1409, 70, 83), (1406, 1404, 1405, 83), (1418, 1417, 71, 83), (1414, 1412, 1413, 83), (1422, 1420, 1421, 83), (1426, 1424, 1425, 83), (1430, 1428, 1429, 83), (1434, 1432, 1433, 83), (1438, 1436, 1437, 83), (1442, 1440, 1441, 83), (1446, 1444, 1445, 83), (1450, 1448, 1449, 83), (732, 731, 0, 91), (613, 611, 612, 86), (599, 597, 598, 86), (603, 601, 602, 86)]
def xmp_14 : List (Nat × Nat × Nat × Nat) := [(617, 615, 616, 86), (607, 605, 606, 86), (623, 622, 0, 87), (620, 619, 0, 87), (628, 627, 0, 87)]
def xmp (M : Nat) : Nat × Nat × Nat × Nat := xnth (0, 0, 0, 0) (xnth [] [xmp_0, xmp_1, xmp_2, xmp_3, xmp_4, xmp_5, xmp_6, xmp_7, xmp_8, xmp_9, xmp_10, xmp_11, xmp_12, xmp_13, xmp_14] (M / 16)) (M % 16)
def xcodeW (M : Nat) : Cond := .code (xy M).1 (xy M).2.1 (xrec M).2.1 (xy M).2.2
theorem xcodeP_0 : (List.range 16).all (fun k => decide (lw_tbl[(xmp (0 + k)).1]? = some (xcodeW (0 + k))) || Nat.ble xN (0 + k)) = true := by decide +kernel
theorem xcodeP_1 : (List.range 16).all (fun k => decide (lw_tbl[(xmp (16 + k)).1]? = some (xcodeW (16 + k))) || Nat.ble xN (16 + k)) = true := by decide +kernel
theorem xcodeP_2 : (List.range 16).all (fun k => decide (lw_tbl[(xmp (32 + k)).1]? = some (xcodeW (32 + k))) || Nat.ble xN (32 + k)) = true := by decide +kernel
theorem xcodeP_3 : (List.range 16).all (fun k => decide (lw_tbl[(xmp (48 + k)).1]? = some (xcodeW (48 + k))) || Nat.ble xN (48 + k)) = true := by decide +kernel
theorem xcodeP_4 : (List.range 16).all (fun k => decide (lw_tbl[(xmp (64 + k)).1]? = some (xcodeW (64 + k))) || Nat.ble xN (64 + k)) = true := by decide +kernel
theorem xcodeP_5 : (List.range 16).all (fun k => decide (lw_tbl[(xmp (80 + k)).1]? = some (xcodeW (80 + k))) || Nat.ble xN (80 + k)) = true := by decide +kernel
theorem xcodeP_6 : (List.range 16).all (fun k => decide (lw_tbl[(xmp (96 + k)).1]? = some (xcodeW (96 + k))) || Nat.ble xN (96 + k)) = true := by decide +kernel
theorem xcodeP_7 : (List.range 16).all (fun k => decide (lw_tbl[(xmp (112 + k)).1]? = some (xcodeW (112 + k))) || Nat.ble xN (112 + k)) = true := by decide +kernel
theorem xcodeP_8 : (List.range 16).all (fun k => decide (lw_tbl[(xmp (128 + k)).1]? = some (xcodeW (128 + k))) || Nat.ble xN (128 + k)) = true := by decide +kernel
theorem xcodeP_9 : (List.range 16).all (fun k => decide (lw_tbl[(xmp (144 + k)).1]? = some (xcodeW (144 + k))) || Nat.ble xN (144 + k)) = true := by decide +kernel
theorem xcodeP_10 : (List.range 16).all (fun k => decide (lw_tbl[(xmp (160 + k)).1]? = some (xcodeW (160 + k))) || Nat.ble xN (160 + k)) = true := by decide +kernel
theorem xcodeP_11 : (List.range 16).all (fun k => decide (lw_tbl[(xmp (176 + k)).1]? = some (xcodeW (176 + k))) || Nat.ble xN (176 + k)) = true := by decide +kernel
theorem xcodeP_12 : (List.range 16).all (fun k => decide (lw_tbl[(xmp (192 + k)).1]? = some (xcodeW (192 + k))) || Nat.ble xN (192 + k)) = true := by decide +kernel
theorem xcodeP_13 : (List.range 16).all (fun k => decide (lw_tbl[(xmp (208 + k)).1]? = some (xcodeW (208 + k))) || Nat.ble xN (208 + k)) = true := by decide +kernel
theorem xcodeP_14 : (List.range 16).all (fun k => decide (lw_tbl[(xmp (224 + k)).1]? = some (xcodeW (224 + k))) || Nat.ble xN (224 + k)) = true := by decide +kernel
def xrkOk (M : Nat) : Bool := match (xy M).2.2, (xrec M).2.2.1 with
  | none, 0 => true
  | some .int, 1 => true
  | some .boolean, 2 => true
  | some .byte, 3 => true
  | _, _ => false
def xchM (M : Nat) : Bool :=
  let q := xmp M
  let y := (xy M).1
  let s := Nat.beq (xrec M).2.2.2.1 0
  let ini := decide (y.name = "<init>")
  decide (lw_tbl[q.2.1]? = some (cond s (.static y) (.instanceMethod y))) && (s || ini || decide (lw_tbl[q.2.2.1]? = some (.selects y.cls y y))) && decide (lw_tbl[q.2.2.2]? = some (.initialized y.cls)) && xrkOk M && decide (y.cls = xnth "" xowL (xrec M).1) && (s || decide (xCt (xrec M).2.2.2.1 = y.cls)) && decide (y.cls ≠ "java/lang/invoke/MethodHandle" ∧ y.cls ≠ "java/lang/invoke/VarHandle") && decide ((parseMethodDescriptor y.desc).map (fun d => d.parameters.length) = some ((xrec M).2.2.2.2 - cond s 0 1)) && plainName y.cls && Nat.ble (xrec M).2.1 9 && Nat.ble (xrec M).2.2.2.2 9 && (s || (Nat.blt 0 (xrec M).2.2.2.2 && (Nat.beq (xkind (xrec M).2.2.2.1) 1 || Nat.beq (xrec M).2.2.2.1 1)))
theorem xchM_0 : (List.range 16).all (fun k => xchM (0 + k) || Nat.ble xN (0 + k)) = true := by decide +kernel
theorem xchM_1 : (List.range 16).all (fun k => xchM (16 + k) || Nat.ble xN (16 + k)) = true := by decide +kernel
theorem xchM_2 : (List.range 16).all (fun k => xchM (32 + k) || Nat.ble xN (32 + k)) = true := by decide +kernel
theorem xchM_3 : (List.range 16).all (fun k => xchM (48 + k) || Nat.ble xN (48 + k)) = true := by decide +kernel
theorem xchM_4 : (List.range 16).all (fun k => xchM (64 + k) || Nat.ble xN (64 + k)) = true := by decide +kernel
theorem xchM_5 : (List.range 16).all (fun k => xchM (80 + k) || Nat.ble xN (80 + k)) = true := by decide +kernel
theorem xchM_6 : (List.range 16).all (fun k => xchM (96 + k) || Nat.ble xN (96 + k)) = true := by decide +kernel
theorem xchM_7 : (List.range 16).all (fun k => xchM (112 + k) || Nat.ble xN (112 + k)) = true := by decide +kernel
theorem xchM_8 : (List.range 16).all (fun k => xchM (128 + k) || Nat.ble xN (128 + k)) = true := by decide +kernel
theorem xchM_9 : (List.range 16).all (fun k => xchM (144 + k) || Nat.ble xN (144 + k)) = true := by decide +kernel
theorem xchM_10 : (List.range 16).all (fun k => xchM (160 + k) || Nat.ble xN (160 + k)) = true := by decide +kernel
theorem xchM_11 : (List.range 16).all (fun k => xchM (176 + k) || Nat.ble xN (176 + k)) = true := by decide +kernel
theorem xchM_12 : (List.range 16).all (fun k => xchM (192 + k) || Nat.ble xN (192 + k)) = true := by decide +kernel
theorem xchM_13 : (List.range 16).all (fun k => xchM (208 + k) || Nat.ble xN (208 + k)) = true := by decide +kernel
theorem xchM_14 : (List.range 16).all (fun k => xchM (224 + k) || Nat.ble xN (224 + k)) = true := by decide +kernel
theorem xw_max_code : Cond.code Lib.Math.max.name Lib.Math.max.code 2 (some .int) ∈ xGT := xGT_in 523 (by decide +kernel) (by decide +kernel)
theorem xw_max_static : Cond.static Lib.Math.max.name ∈ xGT := xGT_in 522 (by decide +kernel) (by decide +kernel)
theorem xw_min_code : Cond.code Lib.Math.min.name Lib.Math.min.code 2 (some .int) ∈ xGT := xGT_in 520 (by decide +kernel) (by decide +kernel)
theorem xw_min_static : Cond.static Lib.Math.min.name ∈ xGT := xGT_in 519 (by decide +kernel) (by decide +kernel)
theorem xw_math : Cond.initialized "java/lang/Math" ∈ xGT := xGT_in 84 (by decide +kernel) (by decide +kernel)
theorem xw_sys : Cond.initialized "java/lang/System" ∈ xGT := xGT_in 85 (by decide +kernel) (by decide +kernel)
theorem xw_ac_static : Cond.static arraycopyName ∈ xGT := xGT_in 569 (by decide +kernel) (by decide +kernel)
theorem xw_ac_native : Cond.native arraycopyName ∈ xGT := xGT_in 570 (by decide +kernel) (by decide +kernel)
theorem xw_obj_inst : Cond.instanceMethod objectInit ∈ xGT := xGT_in 98 (by decide +kernel) (by decide +kernel)
theorem xw_obj_code : Cond.code objectInit ⟨#[0xb1]⟩ 1 none ∈ xGT := xGT_in 99 (by decide +kernel) (by decide +kernel)
theorem xw_ai : Cond.arrayClass .int ∈ xGT := xGT_in 128 (by decide +kernel) (by decide +kernel)
theorem xw_az : Cond.arrayClass .boolean ∈ xGT := xGT_in 332 (by decide +kernel) (by decide +kernel)
theorem xlay_P : ∀ w ∈ u_ws xR_P xF_P 10, w ∈ xGT := by
  have h : (u_ws xR_P xF_P 10).all (fun w => decide (w ∈ lw_tbl) && (k2_isCode w || goodWord w)) = true := by decide +kernel
  intro w hw
  have h1 := List.all_eq_true.mp h w hw
  simp only [Bool.and_eq_true, decide_eq_true_eq] at h1
  exact List.mem_filter.mpr h1
theorem xlay_S : ∀ w ∈ u_ws xR_S xF_S 12, w ∈ xGT := by
  have h : (u_ws xR_S xF_S 12).all (fun w => decide (w ∈ lw_tbl) && (k2_isCode w || goodWord w)) = true := by decide +kernel
  intro w hw
  have h1 := List.all_eq_true.mp h w hw
  simp only [Bool.and_eq_true, decide_eq_true_eq] at h1
  exact List.mem_filter.mpr h1
theorem xlay_R : ∀ w ∈ u_ws xR_R xF_R 2, w ∈ xGT := by
  have h : (u_ws xR_R xF_R 2).all (fun w => decide (w ∈ lw_tbl) && (k2_isCode w || goodWord w)) = true := by decide +kernel
  intro w hw
  have h1 := List.all_eq_true.mp h w hw
  simp only [Bool.and_eq_true, decide_eq_true_eq] at h1
  exact List.mem_filter.mpr h1
theorem xlay_C : ∀ w ∈ u_ws xR_C xF_C 7, w ∈ xGT := by
  have h : (u_ws xR_C xF_C 7).all (fun w => decide (w ∈ lw_tbl) && (k2_isCode w || goodWord w)) = true := by decide +kernel
  intro w hw
  have h1 := List.all_eq_true.mp h w hw
  simp only [Bool.and_eq_true, decide_eq_true_eq] at h1
  exact List.mem_filter.mpr h1
theorem xlay_T : ∀ w ∈ u_ws xR_T xF_T 3, w ∈ xGT := by
  have h : (u_ws xR_T xF_T 3).all (fun w => decide (w ∈ lw_tbl) && (k2_isCode w || goodWord w)) = true := by decide +kernel
  intro w hw
  have h1 := List.all_eq_true.mp h w hw
  simp only [Bool.and_eq_true, decide_eq_true_eq] at h1
  exact List.mem_filter.mpr h1
theorem xlay_D : ∀ w ∈ u_ws xR_D xF_D 6, w ∈ xGT := by
  have h : (u_ws xR_D xF_D 6).all (fun w => decide (w ∈ lw_tbl) && (k2_isCode w || goodWord w)) = true := by decide +kernel
  intro w hw
  have h1 := List.all_eq_true.mp h w hw
  simp only [Bool.and_eq_true, decide_eq_true_eq] at h1
  exact List.mem_filter.mpr h1
theorem xlay_A : ∀ w ∈ u_ws xR_A xF_A 5, w ∈ xGT := by
  have h : (u_ws xR_A xF_A 5).all (fun w => decide (w ∈ lw_tbl) && (k2_isCode w || goodWord w)) = true := by decide +kernel
  intro w hw
  have h1 := List.all_eq_true.mp h w hw
  simp only [Bool.and_eq_true, decide_eq_true_eq] at h1
  exact List.mem_filter.mpr h1
theorem xlay_L : ∀ w ∈ u_ws xR_L xF_L 9, w ∈ xGT := by
  have h : (u_ws xR_L xF_L 9).all (fun w => decide (w ∈ lw_tbl) && (k2_isCode w || goodWord w)) = true := by decide +kernel
  intro w hw
  have h1 := List.all_eq_true.mp h w hw
  simp only [Bool.and_eq_true, decide_eq_true_eq] at h1
  exact List.mem_filter.mpr h1
theorem xlay_V : ∀ w ∈ u_ws xR_V xF_V 6, w ∈ xGT := by
  have h : (u_ws xR_V xF_V 6).all (fun w => decide (w ∈ lw_tbl) && (k2_isCode w || goodWord w)) = true := by decide +kernel
  intro w hw
  have h1 := List.all_eq_true.mp h w hw
  simp only [Bool.and_eq_true, decide_eq_true_eq] at h1
  exact List.mem_filter.mpr h1
theorem xlay_H : ∀ w ∈ u_ws xR_H xF_H 3, w ∈ xGT := by
  have h : (u_ws xR_H xF_H 3).all (fun w => decide (w ∈ lw_tbl) && (k2_isCode w || goodWord w)) = true := by decide +kernel
  intro w hw
  have h1 := List.all_eq_true.mp h w hw
  simp only [Bool.and_eq_true, decide_eq_true_eq] at h1
  exact List.mem_filter.mpr h1
theorem xlay_M : ∀ w ∈ u_ws xR_M xF_M 24, w ∈ xGT := by
  have h : (u_ws xR_M xF_M 24).all (fun w => decide (w ∈ lw_tbl) && (k2_isCode w || goodWord w)) = true := by decide +kernel
  intro w hw
  have h1 := List.all_eq_true.mp h w hw
  simp only [Bool.and_eq_true, decide_eq_true_eq] at h1
  exact List.mem_filter.mpr h1
end
section
/-! THE PLAIN MACHINE: ints are Int, references are (kind of cell, which one), what the cells hold of ints is one function -/
abbrev xV : Type := Int ⊕ (Int ⊕ (Nat × Nat))
abbrev xM : Type := Nat → Nat → Nat → Int
abbrev vI (x : Int) : xV := .inl x
abbrev vL (x : Int) : xV := .inr (.inl x)
abbrev vR (t i : Nat) : xV := .inr (.inr (t, i))
/-- the int that is congruent -/
def xwr (x : Int) : Int := Int.bmod x 4294967296
def xup (f : xM) (t i k : Nat) (v : Int) : xM := fun a b c => if a = t ∧ b = i ∧ c = k then v else f a b c
def xcpy (f : xM) (t0 i0 s0 t1 i1 d0 n : Nat) : xM := fun a b c => if a = t1 ∧ b = i1 ∧ d0 ≤ c ∧ c < d0 + n then f t0 i0 (s0 + (c - d0)) else f a b c
def xshl (x y : Int) : Int := (Int32.ofInt x <<< (Int32.ofInt y &&& 31)).toInt
def xshr (x y : Int) : Int := (Int32.ofInt x >>> (Int32.ofInt y &&& 31)).toInt
def xush (x y : Int) : Int := ((Int32.ofInt x).toUInt32 >>> ((Int32.ofInt y).toUInt32 &&& Int32.toUInt32 31)).toInt32.toInt
def xand (x y : Int) : Int := (Int32.ofInt x &&& Int32.ofInt y).toInt
def xior (x y : Int) : Int := (Int32.ofInt x ||| Int32.ofInt y).toInt
def xxor (x y : Int) : Int := (Int32.ofInt x ^^^ Int32.ofInt y).toInt
def xi2b (x : Int) : Int := (Int32.ofInt x).toInt8.toInt32.toInt
def xi2s (x : Int) : Int := (Int32.ofInt x).toInt16.toInt32.toInt
def xi2c (x : Int) : Int := ((Int32.ofInt x).toUInt32 % 65536).toInt32.toInt
def xl2i (x : Int) : Int := (Int64.ofInt x).toInt32.toInt
def xlushr (x y : Int) : Int := ((Int64.ofInt x).toUInt64 >>> ((Int32.ofInt y).toInt64.toUInt64 &&& Int64.toUInt64 63)).toInt64.toInt
def xlshl (x y : Int) : Int := (Int64.ofInt x <<< ((Int32.ofInt y).toInt64 &&& 63)).toInt
def xlshr (x y : Int) : Int := (Int64.ofInt x >>> ((Int32.ofInt y).toInt64 &&& 63)).toInt
def xland (x y : Int) : Int := (Int64.ofInt x &&& Int64.ofInt y).toInt
def xlor (x y : Int) : Int := (Int64.ofInt x ||| Int64.ofInt y).toInt
def xget : List xV → Nat → xV
  | [], _ => vR 0 0
  | v :: _, 0 => v
  | _ :: r, k + 1 => xget r k
def xset : List xV → Nat → xV → List xV
  | [], _, _ => []
  | _ :: r, 0, v => v :: r
  | a :: r, k + 1, v => a :: xset r k v
def xI1 (st : List xV) (k : Int → List xV → Prop) : Prop := match st with
  | .inl x :: r => k x r
  | _ => False
def xI2 (st : List xV) (k : Int → Int → List xV → Prop) : Prop := match st with
  | .inl y :: .inl x :: r => k x y r
  | _ => False
def xL1 (st : List xV) (k : Int → List xV → Prop) : Prop := match st with
  | .inr (.inl x) :: r => k x r
  | _ => False
def xL2 (st : List xV) (k : Int → Int → List xV → Prop) : Prop := match st with
  | .inr (.inl y) :: .inr (.inl x) :: r => k x y r
  | _ => False
def xLI (st : List xV) (k : Int → Int → List xV → Prop) : Prop := match st with
  | .inl y :: .inr (.inl x) :: r => k x y r
  | _ => False
def xR1 (st : List xV) (k : Nat → Nat → List xV → Prop) : Prop := match st with
  | .inr (.inr q) :: r => k q.1 q.2 r
  | _ => False
def xIR (st : List xV) (k : Nat → Nat → Int → List xV → Prop) : Prop := match st with
  | .inl x :: .inr (.inr q) :: r => k q.1 q.2 x r
  | _ => False
def xIIR (st : List xV) (k : Nat → Nat → Int → Int → List xV → Prop) : Prop := match st with
  | .inl v :: .inl x :: .inr (.inr q) :: r => k q.1 q.2 x v r
  | _ => False
def xvI (v : xV) (k : Int → Prop) : Prop := match v with
  | .inl x => k x
  | _ => False
def xvL (v : xV) (k : Int → Prop) : Prop := match v with
  | .inr (.inl x) => k x
  | _ => False
/-- a reference that is one -/
def xvR (v : xV) (k : Nat → Nat → Prop) : Prop := match v with
  | .inr (.inr q) => cond (Nat.beq q.1 0) False (k q.1 q.2)
  | _ => False
/-- a value of one word -/
def xv1 (v : xV) (P : Prop) : Prop := match v with
  | .inl _ => P
  | .inr (.inl _) => False
  | .inr (.inr q) => cond (Nat.beq q.1 0) False P
def xif (c : ClassFile.Cond) (x y : Int) (A B : Prop) : Prop := match c with
  | .eq => if x = y then A else B
  | .ne => if x = y then B else A
  | .lt => if x < y then A else B
  | .ge => if x < y then B else A
  | .gt => if y < x then A else B
  | .le => if y < x then B else A
def xsw (x : Int) : Int → List Int → (Int → Prop) → Prop → Prop
  | _, [], _, d => d
  | lo, o :: os, k, d => if x = lo then k o else xsw x (lo + 1) os k d
def xlsw (x : Int) : List (Int × Int) → (Int → Prop) → Prop → Prop
  | [], _, d => d
  | q :: r, k, d => if x = q.1 then k q.2 else xlsw x r k d
def xjmp (pc : Nat) (o : Int) : Nat := ((pc : Int) + o).toNat
/-- the texts' bytes; the constant array -/
def xblen (i : Nat) : Int := cond (Nat.beq i 1) 0 3
def xbyt (i j : Nat) : Int := xnth 0 (xnth [] [[], [], [119, 108, 118], [119, 115, 121]] i) j
def xabv (j : Nat) : Int := xnth 0 [-1, 0, 0, 0, 1, 2, 0] j
/-- which local of a method holds a long -/
def xlg (M k : Nat) : Bool := (Nat.beq M m_P_feed || Nat.beq M m_M_feed) && Nat.beq k 1
def xlgS (M k : Nat) : Bool := match k with
  | 0 => false
  | k + 1 => xlg M k
def xpush (k : Nat) (r : Int) (st : List xV) : List xV := cond (Nat.beq (xrec k).2.2.1 0) st (vI r :: st)
def xents : List xV → List xV
  | [] => []
  | .inr (.inl x) :: r => vL x :: vR 0 0 :: xents r
  | v :: r => v :: xents r
def xpad : Nat → List xV
  | 0 => []
  | n + 1 => vR 0 0 :: xpad n
def xfit : List xV → Nat → List xV
  | l, 0 => []
  | [], n => xpad n
  | v :: r, n + 1 => v :: xfit r n
/-- a method's locals at its entry -/
def xent (k : Nat) (as : List xV) : List xV := xfit (xents as) (xrec k).2.1
def xtake : Nat → List xV → List xV → (List xV → List xV → Prop) → Prop
  | 0, acc, st, k => k acc st
  | n + 1, acc, v :: st, k => xtake n (v :: acc) st k
  | _ + 1, _, [], _ => False
/-- the receiver is of the class -/
def xrcv (t0 : Nat) (as : List xV) : Bool := match t0, as with
  | 0, _ => true
  | t0, .inr (.inr q) :: _ => Nat.beq q.1 t0
  | _, _ => false
def xnl : List xV → Bool
  | [] => true
  | .inr (.inl _) :: _ => false
  | _ :: r => xnl r
/-- what lies below a call's arguments is little -/
def xrs (r : List xV) : Bool := xnl r && Nat.ble r.length 8
def xints (t : Nat) : Bool := Nat.beq (xkind t) 2
def xstp (ins : Instr) (M pc : Nat) (L st : List xV) (σ : xM) (K : Nat → List xV → List xV → xM → Prop) (C : Nat → List xV → List xV → Prop) (R : Int → Prop) : Prop :=
  let own := (xrec M).1
  match ins with
  | .iconst n => K (pc + 1) L (vI n :: st) σ
  | .bipush n => K (pc + 2) L (vI n :: st) σ
  | .sipush n => K (pc + 3) L (vI n :: st) σ
  | .ldc x => match xkon own x with
    | some v => K (pc + 2) L (vI v :: st) σ
    | none => match xstr own x with
      | some z => K (pc + 2) L (vR 1 z :: st) σ
      | none => False
  | .ldc_w x => match xkon own x with
    | some v => K (pc + 3) L (vI v :: st) σ
    | none => False
  | .ldc2_w x => match xkonL own x with
    | some v => K (pc + 3) L (vL v :: st) σ
    | none => False
  | .iload_n k => xvI (xget L k) fun x => K (pc + 1) L (vI x :: st) σ
  | .iload k => xvI (xget L k) fun x => K (pc + 2) L (vI x :: st) σ
  | .lload_n k => xvL (xget L k) fun x => K (pc + 1) L (vL x :: st) σ
  | .aload_n k => xvR (xget L k) fun t i => K (pc + 1) L (vR t i :: st) σ
  | .aload k => xvR (xget L k) fun t i => K (pc + 2) L (vR t i :: st) σ
  | .istore_n k => cond (xlgS M k) False (xI1 st fun x r => K (pc + 1) (xset L k (vI x)) r σ)
  | .istore k => cond (xlgS M k) False (xI1 st fun x r => K (pc + 2) (xset L k (vI x)) r σ)
  | .astore_n k => cond (xlgS M k) False (xR1 st fun t i r => cond (Nat.beq t 0) False (K (pc + 1) (xset L k (vR t i)) r σ))
  | .astore k => cond (xlgS M k) False (xR1 st fun t i r => cond (Nat.beq t 0) False (K (pc + 2) (xset L k (vR t i)) r σ))
  | .iinc k n => cond (xlgS M k) False (xvI (xget L k) fun x => K (pc + 3) (xset L k (vI (xwr (x + n)))) st σ)
  | .iadd => xI2 st fun x y r => K (pc + 1) L (vI (xwr (x + y)) :: r) σ
  | .isub => xI2 st fun x y r => K (pc + 1) L (vI (xwr (x - y)) :: r) σ
  | .imul => xI2 st fun x y r => K (pc + 1) L (vI (xwr (x * y)) :: r) σ
  | .ineg => xI1 st fun x r => K (pc + 1) L (vI (xwr (-x)) :: r) σ
  | .idiv => xI2 st fun x y r => y ≠ 0 ∧ K (pc + 1) L (vI (xwr (Int.tdiv x y)) :: r) σ
  | .irem => xI2 st fun x y r => y ≠ 0 ∧ K (pc + 1) L (vI (Int.tmod x y) :: r) σ
  | .ishl => xI2 st fun x y r => K (pc + 1) L (vI (xshl x y) :: r) σ
  | .ishr => xI2 st fun x y r => K (pc + 1) L (vI (xshr x y) :: r) σ
  | .iushr => xI2 st fun x y r => K (pc + 1) L (vI (xush x y) :: r) σ
  | .iand => xI2 st fun x y r => K (pc + 1) L (vI (xand x y) :: r) σ
  | .ior => xI2 st fun x y r => K (pc + 1) L (vI (xior x y) :: r) σ
  | .ixor => xI2 st fun x y r => K (pc + 1) L (vI (xxor x y) :: r) σ
  | .i2b => xI1 st fun x r => K (pc + 1) L (vI (xi2b x) :: r) σ
  | .i2s => xI1 st fun x r => K (pc + 1) L (vI (xi2s x) :: r) σ
  | .i2c => xI1 st fun x r => K (pc + 1) L (vI (xi2c x) :: r) σ
  | .i2l => xI1 st fun x r => K (pc + 1) L (vL x :: r) σ
  | .l2i => xL1 st fun x r => K (pc + 1) L (vI (xl2i x) :: r) σ
  | .land => xL2 st fun x y r => K (pc + 1) L (vL (xland x y) :: r) σ
  | .lor => xL2 st fun x y r => K (pc + 1) L (vL (xlor x y) :: r) σ
  | .lshl => xLI st fun x y r => K (pc + 1) L (vL (xlshl x y) :: r) σ
  | .lshr => xLI st fun x y r => K (pc + 1) L (vL (xlshr x y) :: r) σ
  | .lushr => xLI st fun x y r => K (pc + 1) L (vL (xlushr x y) :: r) σ
  | .ifCond c o => xI1 st fun x r => xif c x 0 (K (xjmp pc o) L r σ) (K (pc + 3) L r σ)
  | .if_icmp c o => xI2 st fun x y r => xif c x y (K (xjmp pc o) L r σ) (K (pc + 3) L r σ)
  | .goto o => K (xjmp pc o) L st σ
  | .tableswitch d lo _ os => xI1 st fun x r => xsw x lo os.toList (fun o => K (xjmp pc o) L r σ) (K (xjmp pc d) L r σ)
  | .lookupswitch d ps => xI1 st fun x r => xlsw x ps.toList (fun o => K (xjmp pc o) L r σ) (K (xjmp pc d) L r σ)
  | .dup => match st with
    | v :: r => xv1 v (K (pc + 1) L (v :: v :: r) σ)
    | [] => False
  | .dup2 => match st with
    | v :: w :: r => xv1 v (xv1 w (K (pc + 1) L (v :: w :: v :: w :: r) σ))
    | _ => False
  | .pop => match st with
    | v :: r => xv1 v (K (pc + 1) L r σ)
    | [] => False
  | .getfield x => xR1 st fun t i r => match xfld own x with
    | some q => cond (Nat.beq t q.1) (match xft q.1 q.2 with
      | 0 => cond (Nat.beq q.1 1) (K (pc + 3) L (vI 0 :: r) σ) (K (pc + 3) L (vI (σ t i q.2) :: r) σ)
      | 1 => K (pc + 3) L (.inr (.inr (xrho t i q.2)) :: r) σ
      | 2 => (1 ≤ σ t i q.2 ∧ σ t i q.2 ≤ 3) ∧ K (pc + 3) L (vR 1 (σ t i q.2).toNat :: r) σ
      | 3 => K (pc + 3) L (vI (σ t i q.2) :: r) σ
      | _ => False) False
    | none => False
  | .putfield x => match st with
    | v :: st' => xR1 st' fun t i r => match xfld own x with
      | some q => cond (Nat.beq t q.1) (match xft q.1 q.2 with
        | 0 => cond (Nat.beq q.1 1) False (xvI v fun y => K (pc + 3) L r (xup σ t i q.2 y))
        | 2 => xvR v fun a z => cond (Nat.beq a 1) (K (pc + 3) L r (xup σ t i q.2 z)) False
        | 3 => xvI v fun y => (y = 0 ∨ y = 1) ∧ K (pc + 3) L r (xup σ t i q.2 y)
        | _ => False) False
      | none => False
    | [] => False
  | .iaload => xIR st fun t i x r => cond (xints t) ((0 ≤ x ∧ x < xlen t) ∧ K (pc + 1) L (vI (σ t i x.toNat) :: r) σ)
      (cond (Nat.beq t 3) ((0 ≤ x ∧ x < xlen t) ∧ K (pc + 1) L (vI (xabv x.toNat) :: r) σ) False)
  | .iastore => xIIR st fun t i x v r => cond (xints t) ((0 ≤ x ∧ x < xlen t) ∧ K (pc + 1) L r (xup σ t i x.toNat v)) False
  | .baload => xIR st fun t i x r => cond (Nat.beq (xkind t) 3) ((0 ≤ x ∧ x < xlen t) ∧ K (pc + 1) L (vI (σ t i x.toNat) :: r) σ)
      (cond (Nat.beq t 2) ((0 ≤ x ∧ x < xblen i) ∧ K (pc + 1) L (vI (xbyt i x.toNat) :: r) σ) False)
  | .bastore => xIIR st fun t i x v r => cond (Nat.beq (xkind t) 3) ((0 ≤ x ∧ x < xlen t) ∧ (v = 0 ∨ v = 1) ∧ K (pc + 1) L r (xup σ t i x.toNat v)) False
  | .aaload => xIR st fun t i x r => cond (Nat.beq (xkind t) 4) ((0 ≤ x ∧ x < xlen t) ∧ K (pc + 1) L (.inr (.inr (xrho t i x.toNat)) :: r) σ) False
  | .arraylength => xR1 st fun t i r => cond (Nat.ble 2 (xkind t)) (K (pc + 1) L (vI (xlen t) :: r) σ)
      (cond (Nat.beq t 2) (K (pc + 1) L (vI (xblen i) :: r) σ) False)
  | .getstatic x => match xsta own x with
    | some true => K (pc + 3) L (vR 3 0 :: st) σ
    | some false => K (pc + 3) L (vI 1 :: st) σ
    | none => False
  | .ireturn => match st with
    | [.inl x] => match (xrec M).2.2.1 with
      | 1 => R x
      | 2 => (x = 0 ∨ x = 1) ∧ R x
      | 3 => (-128 ≤ x ∧ x ≤ 127) ∧ R x
      | _ => False
    | _ => False
  | .return_ => match st with
    | [] => match (xrec M).2.2.1 with
      | 0 => R 0
      | _ => False
    | _ => False
  | .invokevirtual x => match xcal own x with
    | some q => xtake (xrec q.1).2.2.2.2 [] st fun as r => cond (Nat.beq q.2 0 && xrcv (xrec q.1).2.2.2.1 as && xnl as && xrs r) (C q.1 as r) False
    | none => False
  | .invokestatic x => match xcal own x with
    | some q => match q.2 with
      | 6 => match st with
        | .inl n :: .inl dp :: .inr (.inr b) :: .inl sp :: .inr (.inr a) :: r => cond (xints a.1 && xints b.1 && xrs r) ((0 ≤ sp ∧ 0 ≤ dp ∧ 0 ≤ n ∧ sp + n ≤ xlen a.1 ∧ dp + n ≤ xlen b.1) ∧ K (pc + 3) L r (xcpy σ a.1 a.2 sp.toNat b.1 b.2 dp.toNat n.toNat)) False
        | _ => False
      | 7 => xI2 st fun x y r => cond (xrs r) (K (pc + 3) L (vI (if x < y then y else x) :: r) σ) False
      | 8 => xI2 st fun x y r => cond (xrs r) (K (pc + 3) L (vI (if y < x then y else x) :: r) σ) False
      | 1 => xtake (xrec q.1).2.2.2.2 [] st fun as r => cond (Nat.beq (xrec q.1).2.2.2.1 0 && xnl as && xrs r) (C q.1 as r) False
      | 3 => xtake (xrec q.1).2.2.2.2 [] st fun as r => cond (Nat.beq (xrec q.1).2.2.2.1 0 && xnl as && xrs r) (C q.1 as r) False
      | _ => False
    | none => False
  | _ => False
/-- n steps of the machine, calls at most d deep: it returns, with Q -/
def xF : Nat → Nat → Nat → Nat → List xV → List xV → xM → (Int → xM → Prop) → Prop
  | 0, _, _, _, _, _, _, _ => False
  | n + 1, d, M, pc, L, st, σ, Q => match xat M pc with
    | none => False
    | some q => xstp q.1 M pc L st σ (fun pc' L' st' σ' => xF n d M pc' L' st' σ' Q)
        (fun k as r => match d with
          | 0 => False
          | d' + 1 => xF n d' k 0 (xent k as) [] σ (fun v σ' => xF n (d' + 1) M (pc + 3) L (xpush k v r) σ' Q))
        (fun v => Q v σ)
def Ev (d M pc : Nat) (L st : List xV) (σ : xM) (Q : Int → xM → Prop) : Prop := ∃ n, xF n d M pc L st σ Q
end
section
/-! THE PLAIN MACHINE'S STATES IN THE MACHINE'S: which cells hold what -/
abbrev xP : Type := Nat → Nat → Nat → Nat × Nat
def xvd (cnt : Nat → Nat) (t i : Nat) : Prop := 4 ≤ t ∧ t < 57 ∧ i < cnt t
def xokr (cnt : Nat → Nat) (t i : Nat) : Prop := (t = 1 ∧ 1 ≤ i ∧ i ≤ 3) ∨ (t = 2 ∧ 1 ≤ i ∧ i ≤ 3) ∨ (t = 3 ∧ i = 0) ∨ xvd cnt t i
def xok (cnt : Nat → Nat) : xV → Prop
  | .inl x => -2147483648 ≤ x ∧ x < 2147483648
  | .inr (.inl x) => -9223372036854775808 ≤ x ∧ x < 9223372036854775808
  | .inr (.inr q) => q.1 = 0 ∨ xokr cnt q.1 q.2
def xcv (ad : Nat → Nat → Nat) : xV → Value
  | .inl x => .int (Int32.ofInt x)
  | .inr (.inl x) => .long (Int64.ofInt x)
  | .inr (.inr q) => cond (Nat.beq q.1 0) .null (.ref (ad q.1 q.2))
def xfv (ρ : xP) (σ : xM) (t i k : Nat) : xV := match xft t k with
  | 1 => .inr (.inr (ρ t i k))
  | 2 => cond (Nat.beq (σ t i k).toNat 0) (vR 0 0) (vR 1 (σ t i k).toNat)
  | _ => vI (σ t i k)
def xE (ad : Nat → Nat → Nat) (ca : Nat → Nat → ClassId) (ρ : xP) (σ : xM) (t i : Nat) : va_E := match xkind t with
  | 1 => .inr (xci t, (List.range (xsz t)).map fun k => xcv ad (xfv ρ σ t i k))
  | 4 => .inl (ca t i, xsz t, .inr (.inr (.inr (.inr (fun j => cond (Nat.beq (ρ t i j).1 0) none (some (ad (ρ t i j).1 (ρ t i j).2)))))))
  | _ => .inl (ca t i, xsz t, .inl (fun j => Int32.ofInt (σ t i j)))
def xids (cnt : Nat → Nat) : List (Nat × Nat) := (List.range 57).flatMap fun t => cond (Nat.ble 4 t) ((List.range (cnt t)).map fun i => (t, i)) []
def xW (ad : Nat → Nat → Nat) (ca : Nat → Nat → ClassId) (cnt : Nat → Nat) (ρ : xP) (σ : xM) : va_W := (xids cnt).map fun q => (ad q.1 q.2, xE ad ca ρ σ q.1 q.2)
def xrg (σ : xM) : Prop := ∀ t i k, -2147483648 ≤ σ t i k ∧ σ t i k < 2147483648
def xrv (cnt : Nat → Nat) (ρ : xP) : Prop := ∀ t i k, xvd cnt t i → k < xsz t → (ρ t i k).1 = 0 ∨ xokr cnt (ρ t i k).1 (ρ t i k).2
def xinj (ad : Nat → Nat → Nat) (cnt : Nat → Nat) : Prop := ∀ t i t' i', xvd cnt t i → xvd cnt t' i' → ad t i = ad t' i' → t = t' ∧ i = i'
def xarr (ca : Nat → Nat → ClassId) (cnt : Nat → Nat) (U : State) : Prop := ∀ t i, xvd cnt t i → xkind t ≠ 1 → ArrOfT U (ca t i) (xaty t) ∧ va_RA U (ca t i) (xaty t)
def xWd (D : va_G) (ad : Nat → Nat → Nat) (ca : Nat → Nat → ClassId) (cnt : Nat → Nat) (ρ : xP) (σ : xM) (A : Nat → Prop) (U : State) (H : Heap) : Prop :=
  (∀ t i, xvd cnt t i → va_at D xcl (ad t i, xE ad ca ρ σ t i) H) ∧ xinj ad cnt ∧ (∀ t i, xvd cnt t i → A (ad t i)) ∧ xrg σ ∧ xrv cnt ρ ∧ xarr ca cnt U
theorem xids_mem {cnt : Nat → Nat} {t i : Nat} : (t, i) ∈ xids cnt ↔ xvd cnt t i := by
  simp only [xids, List.mem_flatMap, List.mem_range, xvd]
  constructor
  · rintro ⟨a, ha, h⟩
    cases hb : Nat.ble 4 a with
    | false => rw [hb] at h; cases h
    | true =>
      rw [hb] at h
      obtain ⟨j, hj, e⟩ := List.mem_map.mp h
      cases e
      exact ⟨Nat.le_of_ble_eq_true hb, ha, List.mem_range.mp hj⟩
  · rintro ⟨h1, h2, h3⟩
    refine ⟨t, h2, ?_⟩
    rw [Nat.ble_eq_true_of_le h1]
    exact List.mem_map.mpr ⟨i, List.mem_range.mpr h3, rfl⟩
theorem xids_nodup (cnt : Nat → Nat) : (xids cnt).Nodup := by
  unfold xids List.Nodup
  rw [List.pairwise_flatMap]
  refine ⟨fun t _ => ?_, ?_⟩
  · cases Nat.ble 4 t with
    | false => exact List.Pairwise.nil
    | true =>
      show List.Pairwise _ (List.map _ _)
      rw [List.pairwise_map]
      exact (List.nodup_range (n := cnt t)).imp fun h e => h (Prod.mk.inj e).2
  · refine (List.nodup_range (n := 57)).imp fun {a b} h x hx y hy => ?_
    have fx : ∀ {c : Nat} {z : Nat × Nat}, z ∈ (cond (Nat.ble 4 c) ((List.range (cnt c)).map fun i => (c, i)) []) → z.1 = c := by
      intro c z hz
      cases hb : Nat.ble 4 c with
      | false => rw [hb] at hz; cases hz
      | true =>
        rw [hb] at hz
        obtain ⟨j, -, e⟩ := List.mem_map.mp hz
        rw [← e]
    intro e
    exact h (by rw [← fx hx, ← fx hy, e])
theorem xids_inj {cnt : Nat → Nat} {j k : Nat} {q : Nat × Nat} (h1 : (xids cnt)[j]? = some q) (h2 : (xids cnt)[k]? = some q) : j = k := by
  have hp := List.pairwise_iff_getElem.mp (xids_nodup cnt)
  obtain ⟨hj, e1⟩ := List.getElem?_eq_some_iff.mp h1
  obtain ⟨hk, e2⟩ := List.getElem?_eq_some_iff.mp h2
  rcases Nat.lt_trichotomy j k with h | h | h
  · exact absurd (e1.trans e2.symm) (hp j k hj hk h)
  · exact h
  · exact absurd (e2.trans e1.symm) (hp k j hk hj h)
section XW
variable {D : va_G} {ad : Nat → Nat → Nat} {ca : Nat → Nat → ClassId} {cnt : Nat → Nat} {ρ : xP} {σ : xM} {A : Nat → Prop} {U : State} {H : Heap}
theorem xW_get {k : Nat} {q : Nat × va_E} (h : (xW ad ca cnt ρ σ)[k]? = some q) : ∃ t i, (xids cnt)[k]? = some (t, i) ∧ xvd cnt t i ∧ q = (ad t i, xE ad ca ρ σ t i) := by
  unfold xW at h
  rw [List.getElem?_map] at h
  cases hk : (xids cnt)[k]? with
  | none => rw [hk] at h; cases h
  | some z =>
    rw [hk] at h
    exact ⟨z.1, z.2, rfl, xids_mem.mp (List.mem_of_getElem? hk), (Option.some.inj h).symm⟩
theorem xW_idx {t i : Nat} (h : xvd cnt t i) : ∃ k : Nat, (xids cnt)[k]? = some (t, i) ∧ (xW ad ca cnt ρ σ)[k]? = some (ad t i, xE ad ca ρ σ t i) := by
  obtain ⟨k, hk⟩ := List.getElem?_of_mem (xids_mem.mpr h)
  refine ⟨k, hk, ?_⟩
  unfold xW
  rw [List.getElem?_map, hk]
  rfl
theorem xWd.P (h : xWd D ad ca cnt ρ σ A U H) : va_P D xcl (xW ad ca cnt ρ σ) H := by
  intro k q hk
  obtain ⟨t, i, -, hv, rfl⟩ := xW_get hk
  exact h.1 t i hv
theorem xWd.Dd (h : xWd D ad ca cnt ρ σ A U H) : va_D A (xW ad ca cnt ρ σ) := by
  refine ⟨fun j k p q hj hk e => ?_, fun k q hk => ?_⟩
  · obtain ⟨t, i, e1, hv, rfl⟩ := xW_get hj
    obtain ⟨t', i', e2, hv', rfl⟩ := xW_get hk
    obtain ⟨rfl, rfl⟩ := h.2.1 t i t' i' hv hv' e
    exact xids_inj e1 e2
  · obtain ⟨t, i, -, hv, rfl⟩ := xW_get hk
    exact h.2.2.1 t i hv
theorem xWd.set {σ' : xM} {t i q0 : Nat} {e : va_E} {H1 : Heap} (h : xWd D ad ca cnt ρ σ A U H) (hv : xvd cnt t i) (hq : (xids cnt)[q0]? = some (t, i)) (hP : va_P D xcl ((xW ad ca cnt ρ σ).set q0 (ad t i, e)) H1) (he : xE ad ca ρ σ' t i = e)
    (ho : ∀ t' i', (t', i') ≠ (t, i) → xE ad ca ρ σ' t' i' = xE ad ca ρ σ t' i') (hrg : xrg σ') : xWd D ad ca cnt ρ σ' A U H1 := by
  refine ⟨fun t' i' hv' => ?_, h.2.1, h.2.2.1, hrg, h.2.2.2.2⟩
  by_cases hc : (t', i') = (t, i)
  · obtain ⟨rfl, rfl⟩ := Prod.mk.inj hc
    rw [he]
    refine hP q0 _ ?_
    have hlt : q0 < (xW ad ca cnt ρ σ).length := by
      unfold xW
      rw [List.length_map]
      exact (List.getElem?_eq_some_iff.mp hq).1
    exact List.getElem?_set_self hlt
  · obtain ⟨k, hk, hk2⟩ := xW_idx (ad := ad) (ca := ca) (ρ := ρ) (σ := σ) hv'
    rw [ho t' i' hc]
    refine hP k _ ?_
    have hne : q0 ≠ k := by
      intro e
      subst e
      exact hc (Option.some.inj (hk.symm.trans hq))
    rw [List.getElem?_set_ne hne]
    exact hk2
end XW
/-- a value, not null -/
def xnn : xV → Bool
  | .inr (.inr q) => !(Nat.beq q.1 0)
  | _ => true
/-- locals -/
def xLr (M : Nat) (cnt : Nat → Nat) (ad : Nat → Nat → Nat) (L : List xV) (ls : Array Slot) : Prop :=
  ls.size = (xrec M).2.1 ∧ lv_wf ls ∧ L.length = (xrec M).2.1 ∧ ∀ (k : Nat) (v : xV), L[k]? = some v → xok cnt v ∧ (∀ z, v = vL z → xlg M k = true) ∧ (xnn v = true → ls[k]? = some (.val (xcv ad v)))
/-- what is fixed while a method runs: the texts and constants that it doesn't change -/
def xROk (ad : Nat → Nat → Nat) (A : Nat → Prop) (U : State) (H : Heap) : Prop :=
  va_Z "PlayParts" "ABOVE" "[I" (.ref (ad 3 0)) A U H ∧ va_T .int (ad 3 0) 7 (fun j => .int (Int32.ofInt (xabv j))) A U H ∧ va_Z "java/lang/String" "COMPACT_STRINGS" "Z" (.int 1) A U H ∧
  vk_S 3 [0, 3, 3] [[], [119, 108, 118], [119, 115, 121]] (fun i => ad 1 (i + 1)) (fun i => ad 2 (i + 1)) A U H
def xnest : List Cond := lw_tbl.filter fun w => match w with
  | .fieldLinkNest .. => true
  | .methodLinkNest .. => true
  | _ => false
/-- the class of arrays of int arrays is there -/
def xAOa (U : State) : Prop := ∃ (cA comp : ClassId) (kA : Class), U.vm.findClass "[[I" = some cA ∧ U.vm.classes[cA]? = some kA ∧ kA.kind = .array comp (.array .int) ∧ U.vm.findClass "[I" = some comp
def xEx (ad : Nat → Nat → Nat) (U : State) : Prop :=
  (∀ w ∈ xnest, va_Nw w U) ∧ (∀ C ∈ ["PlayParts$Role", "PlayParts$Child", "PlayParts$Text", "PlayParts$Sheet"], va_AO C U) ∧ xAOa U ∧ ∀ q ∈ xstrs, vk_R q.1 q.2.1 q.2.2.1 (ad 1 q.2.2.2) U
def xFix (p : Program) (s : State) (m : MethodId) (args : Array Value) (meth : Method) (c : Code) (M : Nat) (A : Nat → Prop) (ad : Nat → Nat → Nat) (D : va_G) : Prop :=
  p.tables.exec = Jvm.exec ∧ c.code = (xy M).2.1 ∧ c.maxLocals = (xrec M).2.1 ∧ meth.sig.returnType = (xy M).2.2 ∧ s.vm.findClass (xow M) = some m.cls ∧ meth.locks = false ∧ (∀ w ∈ xGT, w.before args s = true) ∧ xEx ad s ∧ (∀ q : Nat, s.heap.size ≤ q → A q) ∧ xROk ad A s s.heap ∧ va_K D xcl [] s ∧ meth.name = (xy M).1.name
def xroom (d mc ms : Nat) : Room := { frames := d + 1, cells := mc, slots := ms, locals := 40 * d + 40 }
end
section
/-! ints of the plain machine and of the machine -/
abbrev xr (x : Int) : Prop := -2147483648 ≤ x ∧ x < 2147483648
abbrev xrl (x : Int) : Prop := -9223372036854775808 ≤ x ∧ x < 9223372036854775808
theorem xn_to {x : Int} (h : xr x) : (Int32.ofInt x).toInt = x := by
  rw [Int32.toInt_ofInt]
  show Int.bmod x 4294967296 = x
  exact Int.bmod_eq_of_le (by have := h.1; omega) (by have := h.2; omega)
theorem xn_of (w : Int32) : Int32.ofInt w.toInt = w := Int32.ofInt_toInt w
theorem xn_rg (w : Int32) : xr w.toInt := ⟨Int32.le_toInt w, Int32.toInt_lt w⟩
theorem xn_wrr (x : Int) : xr (xwr x) := by
  unfold xwr
  exact ⟨by have := Int.le_bmod (x := x) (m := 4294967296) (by omega); omega, by have := Int.bmod_lt (x := x) (m := 4294967296) (by omega); omega⟩
theorem xn_wr (x : Int) : Int32.ofInt (xwr x) = Int32.ofInt x := by
  apply Int32.toInt_inj.mp
  rw [xn_to (xn_wrr x), Int32.toInt_ofInt]
  rfl
theorem xn_id {x : Int} (h : xr x) : xwr x = x := Int.bmod_eq_of_le (by have := h.1; omega) (by have := h.2; omega)
theorem xn_add (x y : Int) : Int32.ofInt x + Int32.ofInt y = Int32.ofInt (xwr (x + y)) := by rw [xn_wr, Int32.ofInt_add]
theorem xn_sub (x y : Int) : Int32.ofInt x - Int32.ofInt y = Int32.ofInt (xwr (x - y)) := by rw [xn_wr, Int32.ofInt_sub]
theorem xn_mul (x y : Int) : Int32.ofInt x * Int32.ofInt y = Int32.ofInt (xwr (x * y)) := by rw [xn_wr, Int32.ofInt_mul]
theorem xn_neg (x : Int) : -Int32.ofInt x = Int32.ofInt (xwr (-x)) := by rw [xn_wr, Int32.ofInt_neg]
theorem xn_div {x y : Int} (hx : xr x) (hy : xr y) : Int32.ofInt x / Int32.ofInt y = Int32.ofInt (xwr (Int.tdiv x y)) := by
  apply Int32.toInt_inj.mp
  rw [xn_to (xn_wrr _), Int32.toInt_div, xn_to hx, xn_to hy]
  rfl
theorem xn_tm {x y : Int} (hx : xr x) : xr (Int.tmod x y) := by
  have h := Int.natAbs_tmod x y
  have h2 : x.natAbs % y.natAbs ≤ x.natAbs := Nat.mod_le _ _
  rcases Int.le_total 0 x with h0 | h0
  · have h1 : 0 ≤ Int.tmod x y := Int.tmod_nonneg y h0
    constructor <;> omega
  · have h1 : Int.tmod x y ≤ 0 := by
      have := Int.tmod_nonneg y (show 0 ≤ -x by omega)
      rw [Int.neg_tmod] at this
      omega
    constructor <;> omega
theorem xn_rem {x y : Int} (hx : xr x) (hy : xr y) : Int32.ofInt x - Int32.ofInt x / Int32.ofInt y * Int32.ofInt y = Int32.ofInt (Int.tmod x y) := by
  rw [xn_div hx hy, xn_wr, ← Int32.ofInt_mul, ← Int32.ofInt_sub]
  congr 1
  have := Int.tmod_add_mul_tdiv x y
  rw [Int.mul_comm] at this
  omega
theorem xn_lt {x y : Int} (hx : xr x) (hy : xr y) : Int32.ofInt x < Int32.ofInt y ↔ x < y := by rw [Int32.lt_iff_toInt_lt, xn_to hx, xn_to hy]
theorem xn_le {x y : Int} (hx : xr x) (hy : xr y) : Int32.ofInt x ≤ Int32.ofInt y ↔ x ≤ y := by rw [Int32.le_iff_toInt_le, xn_to hx, xn_to hy]
theorem xn_eq {x y : Int} (hx : xr x) (hy : xr y) : Int32.ofInt x = Int32.ofInt y ↔ x = y := by
  constructor
  · intro h
    have := congrArg Int32.toInt h
    rwa [xn_to hx, xn_to hy] at this
  · intro h; rw [h]
theorem xn_0 : (0 : Int32) = Int32.ofInt 0 := by decide +kernel
theorem xn_r0 : xr 0 := by constructor <;> decide
theorem xn_nat {x : Int} (h0 : 0 ≤ x) (hx : xr x) : (Int32.ofInt x).toNatClampNeg = x.toNat := by
  rw [← Int32.toNat_toInt, xn_to hx]
theorem xn_in {x : Int} {n : Nat} (h0 : 0 ≤ x) (h1 : x < n) (hx : xr x) : vp_in (Int32.ofInt x) n := by
  unfold vp_in
  rw [xn_nat h0 hx]
  rintro (h | h)
  · rw [xn_0, xn_lt hx xn_r0] at h
    omega
  · omega
theorem xn_lof (w : Int64) : Int64.ofInt w.toInt = w := Int64.ofInt_toInt w
theorem xn_lrg (w : Int64) : xrl w.toInt := ⟨Int64.le_toInt w, Int64.toInt_lt w⟩
theorem xn_lto {x : Int} (h : xrl x) : (Int64.ofInt x).toInt = x := by
  rw [Int64.toInt_ofInt]
  show Int.bmod x 18446744073709551616 = x
  exact Int.bmod_eq_of_le (by have := h.1; omega) (by have := h.2; omega)
theorem xn_i2l {x : Int} (hx : xr x) : (Int32.ofInt x).toInt64 = Int64.ofInt x := by
  apply Int64.toInt_inj.mp
  rw [Int32.toInt_toInt64, xn_to hx, xn_lto (by constructor <;> have := hx.1 <;> have := hx.2 <;> omega)]
theorem xn_b {n : Int} (h : -128 ≤ n ∧ n ≤ 127) : (Int8.ofInt n).toInt32 = Int32.ofInt n := by
  apply Int32.toInt_inj.mp
  rw [Int8.toInt_toInt32, Int8.toInt_ofInt, xn_to (by constructor <;> omega)]
  show Int.bmod n 256 = n
  exact Int.bmod_eq_of_le (by omega) (by omega)
theorem xn_s {n : Int} (h : -32768 ≤ n ∧ n ≤ 32767) : (Int16.ofInt n).toInt32 = Int32.ofInt n := by
  apply Int32.toInt_inj.mp
  rw [Int16.toInt_toInt32, Int16.toInt_ofInt, xn_to (by constructor <;> omega)]
  show Int.bmod n 65536 = n
  exact Int.bmod_eq_of_le (by omega) (by omega)
theorem xn_nz {x : Int} (h : x = 0 ∨ x = 1) : narrow .boolean (.int (Int32.ofInt x)) = .int (Int32.ofInt x) := by
  rcases h with rfl | rfl <;> decide +kernel
theorem xn_nzv {x : Int} (h : x = 0 ∨ x = 1) : vp_nar .boolean (Int32.ofInt x) = Int32.ofInt x := by
  rcases h with rfl | rfl <;> decide +kernel
theorem xn_nb {x : Int} (h : -128 ≤ x ∧ x ≤ 127) : narrow .byte (.int (Int32.ofInt x)) = .int (Int32.ofInt x) := by
  have h1 : (Int32.ofInt x).toInt8.toInt32 = Int32.ofInt x := by
    apply Int32.toInt_inj.mp
    rw [Int8.toInt_toInt32, Int32.toInt_toInt8, xn_to (by constructor <;> omega)]
    exact Int.bmod_eq_of_le (by omega) (by omega)
  first
    | (show Value.int _ = _; exact congrArg Value.int h1)
    | simp [narrow, h1]
theorem xn_ofn (n : Nat) : Int32.ofNat n = Int32.ofInt (n : Int) := (by first | rfl | (apply Int32.toInt_inj.mp; simp))
end
section
/-! the classes' tables as the rows want them -/
def xtags : List Nat := [4, 5, 7, 9, 13, 17, 19, 25, 33, 36, 40]
theorem xtags_all : (List.range 57).all (fun t => !(Nat.beq (xkind t) 1) || xtags.contains t) = true := by decide +kernel
theorem xkind_lt {t : Nat} (h : xkind t ≠ 0) : t < 57 := by
  rcases Nat.lt_or_ge t 57 with h1 | h1
  · exact h1
  · exact absurd (xnth_out 0 xkindL t (by show 57 ≤ t; exact h1)) h
theorem xkind_4 {t : Nat} (h : xkind t ≠ 0) : 4 ≤ t := by
  rcases Nat.lt_or_ge t 4 with h1 | h1
  · have : ∀ t, t < 4 → xkind t = 0 := by decide +kernel
    exact absurd (this t h1) h
  · exact h1
theorem xtag_in {t : Nat} (h : xkind t = 1) : t ∈ xtags := by
  have h1 := List.all_eq_true.mp xtags_all t (List.mem_range.mpr (xkind_lt (by rw [h]; decide)))
  rw [h] at h1
  simpa using h1
theorem xtag_cases {P : Nat → Prop} (h : ∀ t ∈ xtags, P t) {t : Nat} (ht : xkind t = 1) : P t := h t (xtag_in ht)
theorem xcl_at {t : Nat} (ht : xkind t = 1) : xcl[xci t]? = some (xCt t, xFt t, xsz t) := by
  have h := xtag_in ht
  simp only [xtags, List.mem_cons, List.not_mem_nil, or_false] at h
  rcases h with rfl | rfl | rfl | rfl | rfl | rfl | rfl | rfl | rfl | rfl | rfl <;> rfl
theorem xcl_lay {t : Nat} (ht : xkind t = 1) : ∀ w ∈ u_ws (xCt t) (xFt t) (xsz t), w ∈ xGT := by
  have h := xtag_in ht
  simp only [xtags, List.mem_cons, List.not_mem_nil, or_false] at h
  rcases h with rfl | rfl | rfl | rfl | rfl | rfl | rfl | rfl | rfl | rfl | rfl
  · exact xlay_P
  · exact xlay_S
  · exact xlay_R
  · exact xlay_C
  · exact xlay_T
  · exact xlay_D
  · exact xlay_A
  · exact xlay_L
  · exact xlay_V
  · exact xlay_H
  · exact xlay_M
def xty (t k : Nat) : FieldType := (parseFieldDescriptor (xFt t k).2.2.1).getD .int
theorem xty_all : xtags.all (fun t => (List.range (xsz t)).all (fun k => decide (parseFieldDescriptor (xFt t k).2.2.1 = some (xty t k)))) = true := by decide +kernel
theorem xty_ok {t : Nat} (ht : xkind t = 1) : ∀ k, k < xsz t → parseFieldDescriptor (xFt t k).2.2.1 = some (xty t k) := fun k hk =>
  of_decide_eq_true (List.all_eq_true.mp (List.all_eq_true.mp xty_all t (xtag_in ht)) k (List.mem_range.mpr hk))
theorem xnm_all : xtags.all (fun t => (List.range (xsz t)).all (fun a => (List.range (xsz t)).all (fun b => Nat.beq a b || decide ((xFt t a).2.1 ≠ (xFt t b).2.1)))) = true := by decide +kernel
theorem xnm_ok {t : Nat} (ht : xkind t = 1) : ∀ a, a < xsz t → ∀ b, b < xsz t → a ≠ b → (xFt t a).2.1 ≠ (xFt t b).2.1 := by
  intro a ha b hb hne
  have h := List.all_eq_true.mp (List.all_eq_true.mp (List.all_eq_true.mp xnm_all t (xtag_in ht)) a (List.mem_range.mpr ha)) b (List.mem_range.mpr hb)
  rcases Bool.or_eq_true _ _ ▸ h with h | h
  · exact absurd (Nat.eq_of_beq_eq_true h) hne
  · exact of_decide_eq_true h
theorem xfty_all : xtags.all (fun t => (List.range (xsz t)).all (fun k => match xft t k with
    | 0 => decide (xty t k = .int ∧ (xFt t k).2.2.2 = false)
    | 1 => decide ((xty t k).isReference = true)
    | 2 => decide (xty t k = .object "java/lang/String" ∧ (xFt t k).2.2.2 = false)
    | 3 => decide (xty t k = .boolean ∧ (xFt t k).2.2.2 = false)
    | _ => false)) = true := by decide +kernel
theorem xfty {t k : Nat} (ht : xkind t = 1) (hk : k < xsz t) : (match xft t k with
    | 0 => decide (xty t k = .int ∧ (xFt t k).2.2.2 = false)
    | 1 => decide ((xty t k).isReference = true)
    | 2 => decide (xty t k = .object "java/lang/String" ∧ (xFt t k).2.2.2 = false)
    | 3 => decide (xty t k = .boolean ∧ (xFt t k).2.2.2 = false)
    | _ => false) = true := List.all_eq_true.mp (List.all_eq_true.mp xfty_all t (xtag_in ht)) k (List.mem_range.mpr hk)
theorem xarr_all : (List.range 57).all (fun t => match xkind t with
    | 2 => decide (xaty t = .int)
    | 3 => decide (xaty t = .boolean)
    | 4 => decide ((xaty t).isReference = true)
    | _ => true) = true := by decide +kernel
theorem xarr_2 {t : Nat} (h : xkind t = 2) : xaty t = .int := by
  have h1 := List.all_eq_true.mp xarr_all t (List.mem_range.mpr (xkind_lt (by rw [h]; decide)))
  rw [h] at h1
  exact of_decide_eq_true h1
theorem xarr_3 {t : Nat} (h : xkind t = 3) : xaty t = .boolean := by
  have h1 := List.all_eq_true.mp xarr_all t (List.mem_range.mpr (xkind_lt (by rw [h]; decide)))
  rw [h] at h1
  exact of_decide_eq_true h1
theorem xarr_4 {t : Nat} (h : xkind t = 4) : (xaty t).isReference = true := by
  have h1 := List.all_eq_true.mp xarr_all t (List.mem_range.mpr (xkind_lt (by rw [h]; decide)))
  rw [h] at h1
  exact of_decide_eq_true h1
theorem xlen_all : (List.range 57).all (fun t => Nat.blt (xkind t) 2 || (decide (xlen t = (xsz t : Int)) && decide (xlen t < 2147483648))) = true := by decide +kernel
theorem xlen_ok {t : Nat} (h : 2 ≤ xkind t) : xlen t = (xsz t : Int) ∧ xlen t < 2147483648 := by
  have h1 := List.all_eq_true.mp xlen_all t (List.mem_range.mpr (xkind_lt (by omega)))
  rcases Bool.or_eq_true _ _ ▸ h1 with h2 | h2
  · have := Nat.le_of_ble_eq_true (show Nat.ble (xkind t + 1) 2 = true from h2)
    omega
  · simp only [Bool.and_eq_true, decide_eq_true_eq] at h2
    exact h2
theorem xfld_w {c x : Nat} {q : Nat × Nat} (h : xfld c x = some q) : (∃ n, xfw c x n q ∈ lw_tbl) ∧ (q.2 < xsz q.1 ∨ q.1 = 1) ∧ (xkind q.1 = 1 ∨ q.1 = 1) := by
  have h1 := xall_nth (T := xfldT) (n := 14) (f := xchF) (d := []) (by decide +kernel) rfl xchF_ok c (x, q) (xas_mem (xnth [] xfldT c) x q h)
  unfold xchF at h1
  cases hp : xas (xnth [] xfpT c) x with
  | none => simp only [hp] at h1; cases h1
  | some p =>
    simp only [hp, Bool.and_eq_true, decide_eq_true_eq] at h1
    obtain ⟨⟨h2, h3⟩, h4⟩ := h1
    refine ⟨⟨p.2, List.mem_of_getElem? h2⟩, ?_, ?_⟩
    · rcases Bool.or_eq_true _ _ ▸ h3 with h5 | h5
      · exact Or.inl (Nat.le_of_ble_eq_true h5)
      · exact Or.inr (Nat.eq_of_beq_eq_true h5)
    · rcases Bool.or_eq_true _ _ ▸ h4 with h5 | h5
      · exact Or.inl (Nat.eq_of_beq_eq_true h5)
      · exact Or.inr (Nat.eq_of_beq_eq_true h5)
theorem xkon_w {c x : Nat} {v : Int} (h : xkon c x = some v) : Cond.constant (xnth "" xowL c) x (Int32.ofInt v) ∈ xGT ∧ xr v := by
  have h1 := xall_nth (T := xkonT) (n := 14) (f := xchK) (d := []) (by decide +kernel) rfl xchK_ok c (x, v) (xas_mem (xnth [] xkonT c) x v h)
  unfold xchK at h1
  cases hp : xas (xnth [] xkpT c) x with
  | none => simp only [hp] at h1; cases h1
  | some p =>
    simp only [hp, Bool.and_eq_true, decide_eq_true_eq] at h1
    exact ⟨xGT_in p h1.1 rfl, h1.2⟩
theorem xkonL_w {c x : Nat} {v : Int} (h : xkonL c x = some v) : Cond.constantLong (xnth "" xowL c) x (Int64.ofInt v) ∈ xGT ∧ xrl v := by
  have h1 := xall_nth (T := xkonLT) (n := 14) (f := xchL) (d := []) (by decide +kernel) rfl xchL_ok c (x, v) (xas_mem (xnth [] xkonLT c) x v h)
  unfold xchL at h1
  cases hp : xas (xnth [] xlpT c) x with
  | none => simp only [hp] at h1; cases h1
  | some p =>
    simp only [hp, Bool.and_eq_true, decide_eq_true_eq] at h1
    exact ⟨xGT_in p h1.1 rfl, h1.2⟩
theorem xsta_w {c x : Nat} {b : Bool} (h : xsta c x = some b) : cond b (Cond.fieldLinkNest (xnth "" xowL c) x "PlayParts" "ABOVE" "[I" "PlayParts") (.fieldLink (xnth "" xowL c) x "java/lang/String" "COMPACT_STRINGS" "Z") ∈ lw_tbl := by
  have h1 := xall_nth (T := xstaT) (n := 14) (f := xchS) (d := []) (by decide +kernel) rfl xchS_ok c (x, b) (xas_mem (xnth [] xstaT c) x b h)
  unfold xchS at h1
  cases hp : xas (xnth [] xspT c) x with
  | none => simp only [hp] at h1; cases h1
  | some p =>
    simp only [hp, decide_eq_true_eq] at h1
    exact List.mem_of_getElem? h1
theorem xstr_w {c x z : Nat} (h : xstr c x = some z) : ∃ tx, (xnth "" xowL c, x, tx, z) ∈ xstrs ∧ 1 ≤ z ∧ z ≤ 3 := by
  have h1 := xall_nth (T := xstrT) (n := 14) (f := xchT) (d := []) (by decide +kernel) rfl xchT_ok c (x, z) (xas_mem (xnth [] xstrT c) x z h)
  unfold xchT at h1
  obtain ⟨q, hq, h2⟩ := List.any_eq_true.mp h1
  simp only [decide_eq_true_eq] at h2
  obtain ⟨h3, h4, h5, h6, h7⟩ := h2
  refine ⟨q.2.2.1, ?_, h6, h7⟩
  have e : q = (xnth "" xowL c, x, q.2.2.1, z) := by
    obtain ⟨q1, q2, q3, q4⟩ := q
    simp only at h3 h4 h5 ⊢
    rw [h3, h4, h5]
  rw [← e]
  exact hq
theorem xcal_w {c x : Nat} {q : Nat × Nat} (h : xcal c x = some q) : xcw c x q ∈ lw_tbl ∧ (q.1 < xN ∨ q.1 = 999) := by
  have h1 := xall_nth (T := xcalT) (n := 14) (f := xchC) (d := []) (by decide +kernel) rfl xchC_ok c (x, q) (xas_mem (xnth [] xcalT c) x q h)
  unfold xchC at h1
  cases hp : xas (xnth [] xcpT c) x with
  | none => simp only [hp] at h1; cases h1
  | some p =>
    simp only [hp, Bool.and_eq_true, decide_eq_true_eq] at h1
    refine ⟨List.mem_of_getElem? h1.1, ?_⟩
    rcases Bool.or_eq_true _ _ ▸ h1.2 with h5 | h5
    · exact Or.inl (Nat.le_of_ble_eq_true h5)
    · exact Or.inr (Nat.eq_of_beq_eq_true h5)
theorem xnest_f {a b d e h : String} {x : Nat} (hw : Cond.fieldLinkNest a x b d e h ∈ lw_tbl) : Cond.fieldLinkNest a x b d e h ∈ xnest := List.mem_filter.mpr ⟨hw, rfl⟩
theorem xnest_m {a h : String} {y : MethodName} {x : Nat} (hw : Cond.methodLinkNest a x y h ∈ lw_tbl) : Cond.methodLinkNest a x y h ∈ xnest := List.mem_filter.mpr ⟨hw, rfl⟩
theorem xGT_m {w : Cond} (h : w ∈ lw_tbl) (hg : (k2_isCode w || goodWord w) = true) : w ∈ xGT := List.mem_filter.mpr ⟨h, hg⟩
end
section
/-! ONE INSTRUCTION: from the plain machine's next state to the machine's -/
def xoks (cnt : Nat → Nat) (st : List xV) : Prop := ∀ v ∈ st, xok cnt v
theorem xoks_c {cnt : Nat → Nat} {v : xV} {r : List xV} : xoks cnt (v :: r) ↔ xok cnt v ∧ xoks cnt r := by
  unfold xoks
  exact List.forall_mem_cons
section XO
variable {p : Program} {l : Launch} {e : Env} {R : Room} {s : State} {m : MethodId} {args : Array Value} {below : List Frame} {meth : Method} {c : Code} {cells slots : Nat} {Q : State → Prop}
variable {M : Nat} {A : Nat → Prop} {ad : Nat → Nat → Nat} {ca : Nat → Nat → ClassId} {D : va_G} {cnt : Nat → Nat} {ρ : xP}
/-- the machine goes on from a plain state -/
def xNx (p : Program) (l : Launch) (e : Env) (R : Room) (s : State) (m : MethodId) (args : Array Value) (below : List Frame) (meth : Method) (c : Code) (cells slots : Nat) (Q : State → Prop) (M : Nat) (A : Nat → Prop) (ad : Nat → Nat → Nat) (ca : Nat → Nat → ClassId) (D : va_G) (cnt : Nat → Nat) (ρ : xP) (pc : Nat) (L st : List xV) (σ : xM) : Prop :=
  ∀ (H : Heap) (locs : List Loc) (ls : Array Slot), xWd D ad ca cnt ρ σ A s H → va_S A s.heap H locs → xLr M cnt ad L ls → xoks cnt st → W p l e R s m args below meth c H locs cells slots Q (F0 m pc ls (st.map (xcv ad)))

theorem xo_iadd (F : xFix p s m args meth c M A ad D) {pc : Nat} {L r : List xV} {σ : xM} {x y : Int} (hd : decode (xy M).2.1 pc = .ok (.iadd, 1)) (k : xNx p l e R s m args below meth c cells slots Q M A ad ca D cnt ρ (pc + 1) L (vI (xwr (x + y)) :: r) σ) : xNx p l e R s m args below meth c cells slots Q M A ad ca D cnt ρ pc L (vI y :: vI x :: r) σ := by
  intro H locs ls hW hS hL hs
  obtain ⟨hy, hs1⟩ := xoks_c.mp hs
  obtain ⟨hx, hr⟩ := xoks_c.mp hs1
  have h := k H locs ls hW hS hL (xoks_c.mpr ⟨xn_wrr _, hr⟩)
  simp only [List.map_cons, xcv] at h ⊢
  refine lv_iadd F.1 F.2.1 hd ?_
  rw [xn_add]
  exact h
theorem xo_isub (F : xFix p s m args meth c M A ad D) {pc : Nat} {L r : List xV} {σ : xM} {x y : Int} (hd : decode (xy M).2.1 pc = .ok (.isub, 1)) (k : xNx p l e R s m args below meth c cells slots Q M A ad ca D cnt ρ (pc + 1) L (vI (xwr (x - y)) :: r) σ) : xNx p l e R s m args below meth c cells slots Q M A ad ca D cnt ρ pc L (vI y :: vI x :: r) σ := by
  intro H locs ls hW hS hL hs
  obtain ⟨hy, hs1⟩ := xoks_c.mp hs
  obtain ⟨hx, hr⟩ := xoks_c.mp hs1
  have h := k H locs ls hW hS hL (xoks_c.mpr ⟨xn_wrr _, hr⟩)
  simp only [List.map_cons, xcv] at h ⊢
  refine lv_isub F.1 F.2.1 hd ?_
  rw [xn_sub]
  exact h
theorem xo_imul (F : xFix p s m args meth c M A ad D) {pc : Nat} {L r : List xV} {σ : xM} {x y : Int} (hd : decode (xy M).2.1 pc = .ok (.imul, 1)) (k : xNx p l e R s m args below meth c cells slots Q M A ad ca D cnt ρ (pc + 1) L (vI (xwr (x * y)) :: r) σ) : xNx p l e R s m args below meth c cells slots Q M A ad ca D cnt ρ pc L (vI y :: vI x :: r) σ := by
  intro H locs ls hW hS hL hs
  obtain ⟨hy, hs1⟩ := xoks_c.mp hs
  obtain ⟨hx, hr⟩ := xoks_c.mp hs1
  have h := k H locs ls hW hS hL (xoks_c.mpr ⟨xn_wrr _, hr⟩)
  simp only [List.map_cons, xcv] at h ⊢
  refine lv_imul F.1 F.2.1 hd ?_
  rw [xn_mul]
  exact h
theorem xo_ishl (F : xFix p s m args meth c M A ad D) {pc : Nat} {L r : List xV} {σ : xM} {x y : Int} (hd : decode (xy M).2.1 pc = .ok (.ishl, 1)) (k : xNx p l e R s m args below meth c cells slots Q M A ad ca D cnt ρ (pc + 1) L (vI (xshl x y) :: r) σ) : xNx p l e R s m args below meth c cells slots Q M A ad ca D cnt ρ pc L (vI y :: vI x :: r) σ := by
  intro H locs ls hW hS hL hs
  obtain ⟨hy, hs1⟩ := xoks_c.mp hs
  obtain ⟨hx, hr⟩ := xoks_c.mp hs1
  have h := k H locs ls hW hS hL (xoks_c.mpr ⟨xn_rg _, hr⟩)
  simp only [List.map_cons, xcv] at h ⊢
  refine lv_ishl F.1 F.2.1 hd ?_
  rw [show Int32.ofInt (xshl x y) = _ from xn_of _] at h
  exact h
theorem xo_ishr (F : xFix p s m args meth c M A ad D) {pc : Nat} {L r : List xV} {σ : xM} {x y : Int} (hd : decode (xy M).2.1 pc = .ok (.ishr, 1)) (k : xNx p l e R s m args below meth c cells slots Q M A ad ca D cnt ρ (pc + 1) L (vI (xshr x y) :: r) σ) : xNx p l e R s m args below meth c cells slots Q M A ad ca D cnt ρ pc L (vI y :: vI x :: r) σ := by
  intro H locs ls hW hS hL hs
  obtain ⟨hy, hs1⟩ := xoks_c.mp hs
  obtain ⟨hx, hr⟩ := xoks_c.mp hs1
  have h := k H locs ls hW hS hL (xoks_c.mpr ⟨xn_rg _, hr⟩)
  simp only [List.map_cons, xcv] at h ⊢
  refine lv_ishr F.1 F.2.1 hd ?_
  rw [show Int32.ofInt (xshr x y) = _ from xn_of _] at h
  exact h
theorem xo_iand (F : xFix p s m args meth c M A ad D) {pc : Nat} {L r : List xV} {σ : xM} {x y : Int} (hd : decode (xy M).2.1 pc = .ok (.iand, 1)) (k : xNx p l e R s m args below meth c cells slots Q M A ad ca D cnt ρ (pc + 1) L (vI (xand x y) :: r) σ) : xNx p l e R s m args below meth c cells slots Q M A ad ca D cnt ρ pc L (vI y :: vI x :: r) σ := by
  intro H locs ls hW hS hL hs
  obtain ⟨hy, hs1⟩ := xoks_c.mp hs
  obtain ⟨hx, hr⟩ := xoks_c.mp hs1
  have h := k H locs ls hW hS hL (xoks_c.mpr ⟨xn_rg _, hr⟩)
  simp only [List.map_cons, xcv] at h ⊢
  refine lv_iand F.1 F.2.1 hd ?_
  rw [show Int32.ofInt (xand x y) = _ from xn_of _] at h
  exact h
theorem xo_ior (F : xFix p s m args meth c M A ad D) {pc : Nat} {L r : List xV} {σ : xM} {x y : Int} (hd : decode (xy M).2.1 pc = .ok (.ior, 1)) (k : xNx p l e R s m args below meth c cells slots Q M A ad ca D cnt ρ (pc + 1) L (vI (xior x y) :: r) σ) : xNx p l e R s m args below meth c cells slots Q M A ad ca D cnt ρ pc L (vI y :: vI x :: r) σ := by
  intro H locs ls hW hS hL hs
  obtain ⟨hy, hs1⟩ := xoks_c.mp hs
  obtain ⟨hx, hr⟩ := xoks_c.mp hs1
  have h := k H locs ls hW hS hL (xoks_c.mpr ⟨xn_rg _, hr⟩)
  simp only [List.map_cons, xcv] at h ⊢
  refine lv_ior F.1 F.2.1 hd ?_
  rw [show Int32.ofInt (xior x y) = _ from xn_of _] at h
  exact h
theorem xo_ixor (F : xFix p s m args meth c M A ad D) {pc : Nat} {L r : List xV} {σ : xM} {x y : Int} (hd : decode (xy M).2.1 pc = .ok (.ixor, 1)) (k : xNx p l e R s m args below meth c cells slots Q M A ad ca D cnt ρ (pc + 1) L (vI (xxor x y) :: r) σ) : xNx p l e R s m args below meth c cells slots Q M A ad ca D cnt ρ pc L (vI y :: vI x :: r) σ := by
  intro H locs ls hW hS hL hs
  obtain ⟨hy, hs1⟩ := xoks_c.mp hs
  obtain ⟨hx, hr⟩ := xoks_c.mp hs1
  have h := k H locs ls hW hS hL (xoks_c.mpr ⟨xn_rg _, hr⟩)
  simp only [List.map_cons, xcv] at h ⊢
  refine lv_ixor F.1 F.2.1 hd ?_
  rw [show Int32.ofInt (xxor x y) = _ from xn_of _] at h
  exact h
theorem xo_iushr (F : xFix p s m args meth c M A ad D) {pc : Nat} {L r : List xV} {σ : xM} {x y : Int} (hd : decode (xy M).2.1 pc = .ok (.iushr, 1)) (k : xNx p l e R s m args below meth c cells slots Q M A ad ca D cnt ρ (pc + 1) L (vI (xush x y) :: r) σ) : xNx p l e R s m args below meth c cells slots Q M A ad ca D cnt ρ pc L (vI y :: vI x :: r) σ := by
  intro H locs ls hW hS hL hs
  obtain ⟨hy, hs1⟩ := xoks_c.mp hs
  obtain ⟨hx, hr⟩ := xoks_c.mp hs1
  have h := k H locs ls hW hS hL (xoks_c.mpr ⟨xn_rg _, hr⟩)
  simp only [List.map_cons, xcv] at h ⊢
  refine lv_iushr (v := Int32.ofInt (xush x y)) F.1 F.2.1 hd (xn_of _).symm ?_
  exact h
theorem xo_idiv (F : xFix p s m args meth c M A ad D) {pc : Nat} {L r : List xV} {σ : xM} {x y : Int} (hd : decode (xy M).2.1 pc = .ok (.idiv, 1)) (hne : y ≠ 0) (k : xNx p l e R s m args below meth c cells slots Q M A ad ca D cnt ρ (pc + 1) L (vI (xwr (Int.tdiv x y)) :: r) σ) : xNx p l e R s m args below meth c cells slots Q M A ad ca D cnt ρ pc L (vI y :: vI x :: r) σ := by
  intro H locs ls hW hS hL hs
  obtain ⟨hy, hs1⟩ := xoks_c.mp hs
  obtain ⟨hx, hr⟩ := xoks_c.mp hs1
  have h := k H locs ls hW hS hL (xoks_c.mpr ⟨xn_wrr _, hr⟩)
  simp only [List.map_cons, xcv] at h ⊢
  refine lv_idiv F.1 F.2.1 hd (fun q => hne ((xn_eq hy xn_r0).mp (q.trans xn_0))) ?_
  rw [xn_div hx hy]
  exact h
theorem xo_irem (F : xFix p s m args meth c M A ad D) {pc : Nat} {L r : List xV} {σ : xM} {x y : Int} (hd : decode (xy M).2.1 pc = .ok (.irem, 1)) (hne : y ≠ 0) (k : xNx p l e R s m args below meth c cells slots Q M A ad ca D cnt ρ (pc + 1) L (vI (Int.tmod x y) :: r) σ) : xNx p l e R s m args below meth c cells slots Q M A ad ca D cnt ρ pc L (vI y :: vI x :: r) σ := by
  intro H locs ls hW hS hL hs
  obtain ⟨hy, hs1⟩ := xoks_c.mp hs
  obtain ⟨hx, hr⟩ := xoks_c.mp hs1
  have h := k H locs ls hW hS hL (xoks_c.mpr ⟨xn_tm hx, hr⟩)
  simp only [List.map_cons, xcv] at h ⊢
  refine lv_irem F.1 F.2.1 hd (fun q => hne ((xn_eq hy xn_r0).mp (q.trans xn_0))) ?_
  rw [xn_rem hx hy]
  exact h
theorem xo_ineg (F : xFix p s m args meth c M A ad D) {pc : Nat} {L r : List xV} {σ : xM} {x : Int} (hd : decode (xy M).2.1 pc = .ok (.ineg, 1)) (k : xNx p l e R s m args below meth c cells slots Q M A ad ca D cnt ρ (pc + 1) L (vI (xwr (-x)) :: r) σ) : xNx p l e R s m args below meth c cells slots Q M A ad ca D cnt ρ pc L (vI x :: r) σ := by
  intro H locs ls hW hS hL hs
  obtain ⟨hx, hr⟩ := xoks_c.mp hs
  have h := k H locs ls hW hS hL (xoks_c.mpr ⟨xn_wrr _, hr⟩)
  simp only [List.map_cons, xcv] at h ⊢
  refine lv_ineg F.1 F.2.1 hd ?_
  rw [xn_neg]
  exact h
theorem xo_i2b (F : xFix p s m args meth c M A ad D) {pc : Nat} {L r : List xV} {σ : xM} {x : Int} (hd : decode (xy M).2.1 pc = .ok (.i2b, 1)) (k : xNx p l e R s m args below meth c cells slots Q M A ad ca D cnt ρ (pc + 1) L (vI (xi2b x) :: r) σ) : xNx p l e R s m args below meth c cells slots Q M A ad ca D cnt ρ pc L (vI x :: r) σ := by
  intro H locs ls hW hS hL hs
  obtain ⟨hx, hr⟩ := xoks_c.mp hs
  have h := k H locs ls hW hS hL (xoks_c.mpr ⟨xn_rg _, hr⟩)
  simp only [List.map_cons, xcv] at h ⊢
  exact lv_i2b (v := Int32.ofInt (xi2b x)) F.1 F.2.1 hd (xn_of _).symm h
theorem xo_i2s (F : xFix p s m args meth c M A ad D) {pc : Nat} {L r : List xV} {σ : xM} {x : Int} (hd : decode (xy M).2.1 pc = .ok (.i2s, 1)) (k : xNx p l e R s m args below meth c cells slots Q M A ad ca D cnt ρ (pc + 1) L (vI (xi2s x) :: r) σ) : xNx p l e R s m args below meth c cells slots Q M A ad ca D cnt ρ pc L (vI x :: r) σ := by
  intro H locs ls hW hS hL hs
  obtain ⟨hx, hr⟩ := xoks_c.mp hs
  have h := k H locs ls hW hS hL (xoks_c.mpr ⟨xn_rg _, hr⟩)
  simp only [List.map_cons, xcv] at h ⊢
  exact lv_i2s (v := Int32.ofInt (xi2s x)) F.1 F.2.1 hd (xn_of _).symm h
theorem xo_i2c (F : xFix p s m args meth c M A ad D) {pc : Nat} {L r : List xV} {σ : xM} {x : Int} (hd : decode (xy M).2.1 pc = .ok (.i2c, 1)) (k : xNx p l e R s m args below meth c cells slots Q M A ad ca D cnt ρ (pc + 1) L (vI (xi2c x) :: r) σ) : xNx p l e R s m args below meth c cells slots Q M A ad ca D cnt ρ pc L (vI x :: r) σ := by
  intro H locs ls hW hS hL hs
  obtain ⟨hx, hr⟩ := xoks_c.mp hs
  have h := k H locs ls hW hS hL (xoks_c.mpr ⟨xn_rg _, hr⟩)
  simp only [List.map_cons, xcv] at h ⊢
  exact lv_i2c (v := Int32.ofInt (xi2c x)) F.1 F.2.1 hd (xn_of _).symm h
theorem xo_i2l (F : xFix p s m args meth c M A ad D) {pc : Nat} {L r : List xV} {σ : xM} {x : Int} (hd : decode (xy M).2.1 pc = .ok (.i2l, 1)) (k : xNx p l e R s m args below meth c cells slots Q M A ad ca D cnt ρ (pc + 1) L (vL (x) :: r) σ) : xNx p l e R s m args below meth c cells slots Q M A ad ca D cnt ρ pc L (vI x :: r) σ := by
  intro H locs ls hW hS hL hs
  obtain ⟨hx, hr⟩ := xoks_c.mp hs
  have h := k H locs ls hW hS hL (xoks_c.mpr ⟨(show xrl x from ⟨by have := hx.1; omega, by have := hx.2; omega⟩), hr⟩)
  simp only [List.map_cons, xcv] at h ⊢
  exact lv_i2l (v := Int64.ofInt x) F.1 F.2.1 hd (xn_i2l hx) h
theorem xo_l2i (F : xFix p s m args meth c M A ad D) {pc : Nat} {L r : List xV} {σ : xM} {x : Int} (hd : decode (xy M).2.1 pc = .ok (.l2i, 1)) (k : xNx p l e R s m args below meth c cells slots Q M A ad ca D cnt ρ (pc + 1) L (vI (xl2i x) :: r) σ) : xNx p l e R s m args below meth c cells slots Q M A ad ca D cnt ρ pc L (vL x :: r) σ := by
  intro H locs ls hW hS hL hs
  obtain ⟨hx, hr⟩ := xoks_c.mp hs
  have h := k H locs ls hW hS hL (xoks_c.mpr ⟨xn_rg _, hr⟩)
  simp only [List.map_cons, xcv] at h ⊢
  exact lv_l2i (v := Int32.ofInt (xl2i x)) F.1 F.2.1 hd (xn_of _).symm h
theorem xo_land (F : xFix p s m args meth c M A ad D) {pc : Nat} {L r : List xV} {σ : xM} {x y : Int} (hd : decode (xy M).2.1 pc = .ok (.land, 1)) (k : xNx p l e R s m args below meth c cells slots Q M A ad ca D cnt ρ (pc + 1) L (vL (xland x y) :: r) σ) : xNx p l e R s m args below meth c cells slots Q M A ad ca D cnt ρ pc L (vL y :: vL x :: r) σ := by
  intro H locs ls hW hS hL hs
  obtain ⟨hy, hs1⟩ := xoks_c.mp hs
  obtain ⟨hx, hr⟩ := xoks_c.mp hs1
  have h := k H locs ls hW hS hL (xoks_c.mpr ⟨xn_lrg _, hr⟩)
  simp only [List.map_cons, xcv] at h ⊢
  refine lv_land F.1 F.2.1 hd ?_
  rw [show Int64.ofInt (xland x y) = _ from xn_lof _] at h
  exact h
theorem xo_lor (F : xFix p s m args meth c M A ad D) {pc : Nat} {L r : List xV} {σ : xM} {x y : Int} (hd : decode (xy M).2.1 pc = .ok (.lor, 1)) (k : xNx p l e R s m args below meth c cells slots Q M A ad ca D cnt ρ (pc + 1) L (vL (xlor x y) :: r) σ) : xNx p l e R s m args below meth c cells slots Q M A ad ca D cnt ρ pc L (vL y :: vL x :: r) σ := by
  intro H locs ls hW hS hL hs
  obtain ⟨hy, hs1⟩ := xoks_c.mp hs
  obtain ⟨hx, hr⟩ := xoks_c.mp hs1
  have h := k H locs ls hW hS hL (xoks_c.mpr ⟨xn_lrg _, hr⟩)
  simp only [List.map_cons, xcv] at h ⊢
  refine lv_lor F.1 F.2.1 hd ?_
  rw [show Int64.ofInt (xlor x y) = _ from xn_lof _] at h
  exact h
theorem xo_lshl (F : xFix p s m args meth c M A ad D) {pc : Nat} {L r : List xV} {σ : xM} {x y : Int} (hd : decode (xy M).2.1 pc = .ok (.lshl, 1)) (k : xNx p l e R s m args below meth c cells slots Q M A ad ca D cnt ρ (pc + 1) L (vL (xlshl x y) :: r) σ) : xNx p l e R s m args below meth c cells slots Q M A ad ca D cnt ρ pc L (vI y :: vL x :: r) σ := by
  intro H locs ls hW hS hL hs
  obtain ⟨hy, hs1⟩ := xoks_c.mp hs
  obtain ⟨hx, hr⟩ := xoks_c.mp hs1
  have h := k H locs ls hW hS hL (xoks_c.mpr ⟨xn_lrg _, hr⟩)
  simp only [List.map_cons, xcv] at h ⊢
  exact lv_lshl (v := Int64.ofInt (xlshl x y)) F.1 F.2.1 hd (xn_lof _).symm h
theorem xo_lshr (F : xFix p s m args meth c M A ad D) {pc : Nat} {L r : List xV} {σ : xM} {x y : Int} (hd : decode (xy M).2.1 pc = .ok (.lshr, 1)) (k : xNx p l e R s m args below meth c cells slots Q M A ad ca D cnt ρ (pc + 1) L (vL (xlshr x y) :: r) σ) : xNx p l e R s m args below meth c cells slots Q M A ad ca D cnt ρ pc L (vI y :: vL x :: r) σ := by
  intro H locs ls hW hS hL hs
  obtain ⟨hy, hs1⟩ := xoks_c.mp hs
  obtain ⟨hx, hr⟩ := xoks_c.mp hs1
  have h := k H locs ls hW hS hL (xoks_c.mpr ⟨xn_lrg _, hr⟩)
  simp only [List.map_cons, xcv] at h ⊢
  exact lv_lshr (v := Int64.ofInt (xlshr x y)) F.1 F.2.1 hd (xn_lof _).symm h
theorem xo_lushr (F : xFix p s m args meth c M A ad D) {pc : Nat} {L r : List xV} {σ : xM} {x y : Int} (hd : decode (xy M).2.1 pc = .ok (.lushr, 1)) (k : xNx p l e R s m args below meth c cells slots Q M A ad ca D cnt ρ (pc + 1) L (vL (xlushr x y) :: r) σ) : xNx p l e R s m args below meth c cells slots Q M A ad ca D cnt ρ pc L (vI y :: vL x :: r) σ := by
  intro H locs ls hW hS hL hs
  obtain ⟨hy, hs1⟩ := xoks_c.mp hs
  obtain ⟨hx, hr⟩ := xoks_c.mp hs1
  have h := k H locs ls hW hS hL (xoks_c.mpr ⟨xn_lrg _, hr⟩)
  simp only [List.map_cons, xcv] at h ⊢
  exact lv_lushr (v := Int64.ofInt (xlushr x y)) F.1 F.2.1 hd (xn_lof _).symm h
theorem xo_iconst (F : xFix p s m args meth c M A ad D) {pc : Nat} {L r : List xV} {σ : xM} {n : Int} (hd : decode (xy M).2.1 pc = .ok (.iconst n, 1)) (hn : xr n) (k : xNx p l e R s m args below meth c cells slots Q M A ad ca D cnt ρ (pc + 1) L (vI n :: r) σ) : xNx p l e R s m args below meth c cells slots Q M A ad ca D cnt ρ pc L r σ := by
  intro H locs ls hW hS hL hs
  have h := k H locs ls hW hS hL (xoks_c.mpr ⟨hn, hs⟩)
  exact lv_iconst (v := Int32.ofInt n) F.1 F.2.1 hd rfl h
theorem xo_bipush (F : xFix p s m args meth c M A ad D) {pc : Nat} {L r : List xV} {σ : xM} {n : Int} (hd : decode (xy M).2.1 pc = .ok (.bipush n, 2)) (hn : -128 ≤ n ∧ n ≤ 127) (k : xNx p l e R s m args below meth c cells slots Q M A ad ca D cnt ρ (pc + 2) L (vI n :: r) σ) : xNx p l e R s m args below meth c cells slots Q M A ad ca D cnt ρ pc L r σ := by
  intro H locs ls hW hS hL hs
  have h := k H locs ls hW hS hL (xoks_c.mpr ⟨(show xr n from ⟨by omega, by omega⟩), hs⟩)
  exact lv_bipush (v := Int32.ofInt n) F.1 F.2.1 hd (xn_b hn) h
theorem xo_sipush (F : xFix p s m args meth c M A ad D) {pc : Nat} {L r : List xV} {σ : xM} {n : Int} (hd : decode (xy M).2.1 pc = .ok (.sipush n, 3)) (hn : -32768 ≤ n ∧ n ≤ 32767) (k : xNx p l e R s m args below meth c cells slots Q M A ad ca D cnt ρ (pc + 3) L (vI n :: r) σ) : xNx p l e R s m args below meth c cells slots Q M A ad ca D cnt ρ pc L r σ := by
  intro H locs ls hW hS hL hs
  have h := k H locs ls hW hS hL (xoks_c.mpr ⟨(show xr n from ⟨by omega, by omega⟩), hs⟩)
  exact lv_sipush (v := Int32.ofInt n) F.1 F.2.1 hd (xn_s hn) h
theorem xow_eq (M : Nat) : xow M = xnth "" xowL (xrec M).1 := rfl
theorem xo_ldc (F : xFix p s m args meth c M A ad D) {pc x : Nat} {L r : List xV} {σ : xM} {v : Int} (hd : decode (xy M).2.1 pc = .ok (.ldc x, 2)) (hk : xkon (xrec M).1 x = some v) (k : xNx p l e R s m args below meth c cells slots Q M A ad ca D cnt ρ (pc + 2) L (vI v :: r) σ) : xNx p l e R s m args below meth c cells slots Q M A ad ca D cnt ρ pc L r σ := by
  intro H locs ls hW hS hL hs
  obtain ⟨h1, h2⟩ := xkon_w hk
  have h := k H locs ls hW hS hL (xoks_c.mpr ⟨h2, hs⟩)
  exact lv_ldc F.1 F.2.1 F.2.2.2.2.1 (F.2.2.2.2.2.2.1 _ h1) hd h
theorem xo_ldcw (F : xFix p s m args meth c M A ad D) {pc x : Nat} {L r : List xV} {σ : xM} {v : Int} (hd : decode (xy M).2.1 pc = .ok (.ldc_w x, 3)) (hk : xkon (xrec M).1 x = some v) (k : xNx p l e R s m args below meth c cells slots Q M A ad ca D cnt ρ (pc + 3) L (vI v :: r) σ) : xNx p l e R s m args below meth c cells slots Q M A ad ca D cnt ρ pc L r σ := by
  intro H locs ls hW hS hL hs
  obtain ⟨h1, h2⟩ := xkon_w hk
  have h := k H locs ls hW hS hL (xoks_c.mpr ⟨h2, hs⟩)
  exact lv_ldcw F.1 F.2.1 F.2.2.2.2.1 (F.2.2.2.2.2.2.1 _ h1) hd h
theorem xo_ldc2 (F : xFix p s m args meth c M A ad D) {pc x : Nat} {L r : List xV} {σ : xM} {v : Int} (hd : decode (xy M).2.1 pc = .ok (.ldc2_w x, 3)) (hk : xkonL (xrec M).1 x = some v) (k : xNx p l e R s m args below meth c cells slots Q M A ad ca D cnt ρ (pc + 3) L (vL v :: r) σ) : xNx p l e R s m args below meth c cells slots Q M A ad ca D cnt ρ pc L r σ := by
  intro H locs ls hW hS hL hs
  obtain ⟨h1, h2⟩ := xkonL_w hk
  have h := k H locs ls hW hS hL (xoks_c.mpr ⟨h2, hs⟩)
  exact lv_ldc2 F.1 F.2.1 F.2.2.2.2.1 (F.2.2.2.2.2.2.1 _ h1) hd h
theorem xo_ldcS (F : xFix p s m args meth c M A ad D) {pc x z : Nat} {L r : List xV} {σ : xM} (hd : decode (xy M).2.1 pc = .ok (.ldc x, 2)) (hk : xstr (xrec M).1 x = some z) (k : xNx p l e R s m args below meth c cells slots Q M A ad ca D cnt ρ (pc + 2) L (vR 1 z :: r) σ) : xNx p l e R s m args below meth c cells slots Q M A ad ca D cnt ρ pc L r σ := by
  intro H locs ls hW hS hL hs
  obtain ⟨tx, h1, h2⟩ := xstr_w hk
  have h := k H locs ls hW hS hL (xoks_c.mpr ⟨Or.inr (Or.inl ⟨rfl, h2⟩), hs⟩)
  rw [List.map_cons, show xcv ad (vR 1 z) = .ref (ad 1 z) from rfl] at h
  have hz : vk_R (xow M) x tx (ad 1 z) s := F.2.2.2.2.2.2.2.1.2.2.2 (xow M, x, tx, z) h1
  exact va_ldcS F.1 F.2.1 F.2.2.2.2.1 hz hd h
theorem xget_some : ∀ {L : List xV} {k : Nat}, xnn (xget L k) = true → L[k]? = some (xget L k)
  | [], _, h => by cases h
  | v :: r, 0, _ => rfl
  | v :: r, k + 1, h => by
    show r[k]? = some (xget r k)
    exact xget_some (L := r) (k := k) h
theorem xget_ok {L : List xV} {ls : Array Slot} {k : Nat} (hL : xLr M cnt ad L ls) (h : xnn (xget L k) = true) : ls[k]? = some (.val (xcv ad (xget L k))) ∧ xok cnt (xget L k) := by
  have h1 := hL.2.2.2 k _ (xget_some h)
  exact ⟨h1.2.2 h, h1.1⟩
theorem xset_len : ∀ (L : List xV) (k : Nat) (v : xV), (xset L k v).length = L.length
  | [], _, _ => rfl
  | _ :: _, 0, _ => rfl
  | _ :: r, k + 1, v => congrArg (· + 1) (xset_len r k v)
theorem xset_at : ∀ (L : List xV) (k : Nat) (v : xV) (j : Nat), (xset L k v)[j]? = if j = k ∧ k < L.length then some v else L[j]?
  | [], k, v, j => by simp [xset]
  | a :: r, 0, v, 0 => by simp [xset]
  | a :: r, 0, v, j + 1 => by simp [xset]
  | a :: r, k + 1, v, 0 => by simp [xset]
  | a :: r, k + 1, v, j + 1 => by
    show (xset r k v)[j]? = _
    rw [xset_at r k v j]
    by_cases h : j = k ∧ k < r.length
    · rw [if_pos h, if_pos ⟨by omega, by simp; omega⟩]
    · rw [if_neg h, if_neg (by simp; omega)]
      rfl
def xprs (ad : Nat → Nat → Nat) (L : List xV) : List (Nat × Value) := (List.range L.length).filterMap fun k => cond (xnn (xget L k)) (some (k, xcv ad (xget L k))) none
theorem xprs_has {L : List xV} {ls : Array Slot} (hL : xLr M cnt ad L ls) : lv_has ls (xrec M).2.1 (xprs ad L) := by
  refine ⟨hL.1, hL.2.1, fun q hq => ?_⟩
  obtain ⟨k, -, h⟩ := List.mem_filterMap.mp hq
  cases hn : xnn (xget L k) with
  | false => rw [hn] at h; cases h
  | true =>
    rw [hn] at h
    have e : (k, xcv ad (xget L k)) = q := Option.some.inj h
    rw [← e]
    exact (xget_ok hL hn).1
theorem xprs_mem {L : List xV} {k : Nat} (hn : xnn (xget L k) = true) : (k, xcv ad (xget L k)) ∈ xprs ad L := by
  refine List.mem_filterMap.mpr ⟨k, List.mem_range.mpr (List.getElem?_eq_some_iff.mp (xget_some hn)).1, ?_⟩
  rw [hn]
  rfl
theorem xget_of {L : List xV} {k : Nat} {v : xV} (h : L[k]? = some v) : xget L k = v := by
  induction L generalizing k with
  | nil => cases h
  | cons a r ih =>
    cases k with
    | zero => exact Option.some.inj h
    | succ k => exact ih h
theorem xcat {v : xV} (h : (xcv ad v).category = 2) : ∃ z, v = vL z := by
  rcases v with x | x | q
  · cases h
  · exact ⟨x, rfl⟩
  · simp only [xcv] at h
    cases hb : Nat.beq q.1 0 <;> rw [hb] at h <;> cases h
theorem xset_ok {L : List xV} {ls ls' : Array Slot} {i : Nat} {v : xV} (hL : xLr M cnt ad L ls) (hi : i < (xrec M).2.1) (hv : xok cnt v) (hl : ∀ z, v ≠ vL z) (hg : xlgS M i = false)
    (h : lv_has ls' (xrec M).2.1 ((i, xcv ad v) :: (xprs ad L).filter (fun q => !(q.1 == i) && !(q.1 + 1 == i && q.2.category == 2)))) : xLr M cnt ad (xset L i v) ls' := by
  refine ⟨h.1, h.2.1, by rw [xset_len]; exact hL.2.2.1, fun k w hw => ?_⟩
  rw [xset_at] at hw
  by_cases hc : k = i ∧ i < L.length
  · rw [if_pos hc] at hw
    obtain rfl := Option.some.inj hw
    refine ⟨hv, fun z e => absurd e (hl z), fun _ => ?_⟩
    rw [hc.1]
    exact h.2.2 _ List.mem_cons_self
  · rw [if_neg hc] at hw
    have h1 := hL.2.2.2 k w hw
    refine ⟨h1.1, h1.2.1, fun hn => ?_⟩
    have e := xget_of hw
    have hm := xprs_mem (ad := ad) (L := L) (k := k) (by rw [e]; exact hn)
    rw [e] at hm
    refine h.2.2 (k, xcv ad w) (List.mem_cons_of_mem _ (List.mem_filter.mpr ⟨hm, ?_⟩))
    have hki : k ≠ i := fun q => hc ⟨q, by rw [hL.2.2.1]; exact hi⟩
    have h2 : ¬ (k + 1 = i ∧ (xcv ad w).category = 2) := by
      rintro ⟨rfl, h3⟩
      obtain ⟨z, rfl⟩ := xcat h3
      have := h1.2.1 z rfl
      simp only [xlgS] at hg
      rw [this] at hg
      cases hg
    simp only [Bool.and_eq_true, Bool.not_eq_true', beq_eq_false_iff_ne, ne_eq, hki, not_false_eq_true, true_and, Bool.and_eq_false_imp, beq_iff_eq]
    exact fun a b => h2 ⟨a, b⟩
theorem xnn_I {v : xV} {x : Int} (h : v = vI x) : xnn v = true := by rw [h]; rfl
theorem xnn_L {v : xV} {x : Int} (h : v = vL x) : xnn v = true := by rw [h]; rfl
theorem xnn_R {v : xV} {t i : Nat} (h : v = vR t i) (ht : Nat.beq t 0 = false) : xnn v = true := by
  rw [h]
  show (!(Nat.beq t 0)) = true
  rw [ht]
  rfl
theorem xcv_R {t i : Nat} (ht : Nat.beq t 0 = false) : xcv ad (vR t i) = .ref (ad t i) := by
  show cond (Nat.beq t 0) _ _ = _
  rw [ht]
  rfl
theorem xo_iload_n (F : xFix p s m args meth c M A ad D) {pc : Nat} {k : Fin 4} {L r : List xV} {σ : xM} {x : Int} (hd : decode (xy M).2.1 pc = .ok (.iload_n k, 1)) (hg : xget L k.val = vI x) (kk : xNx p l e R s m args below meth c cells slots Q M A ad ca D cnt ρ (pc + 1) L (vI x :: r) σ) : xNx p l e R s m args below meth c cells slots Q M A ad ca D cnt ρ pc L r σ := by
  intro H locs ls hW hS hL hs
  obtain ⟨h1, h2⟩ := xget_ok hL (xnn_I hg)
  rw [hg] at h1 h2
  exact lv_iload_n F.1 F.2.1 hd rfl h1 (kk H locs ls hW hS hL (xoks_c.mpr ⟨h2, hs⟩))
theorem xo_iload (F : xFix p s m args meth c M A ad D) {pc : Nat} {k : Nat} {L r : List xV} {σ : xM} {x : Int} (hd : decode (xy M).2.1 pc = .ok (.iload k, 2)) (hg : xget L k = vI x) (kk : xNx p l e R s m args below meth c cells slots Q M A ad ca D cnt ρ (pc + 2) L (vI x :: r) σ) : xNx p l e R s m args below meth c cells slots Q M A ad ca D cnt ρ pc L r σ := by
  intro H locs ls hW hS hL hs
  obtain ⟨h1, h2⟩ := xget_ok hL (xnn_I hg)
  rw [hg] at h1 h2
  exact lv_iload F.1 F.2.1 hd h1 (kk H locs ls hW hS hL (xoks_c.mpr ⟨h2, hs⟩))
theorem xo_lload_n (F : xFix p s m args meth c M A ad D) {pc : Nat} {k : Fin 4} {L r : List xV} {σ : xM} {x : Int} (hd : decode (xy M).2.1 pc = .ok (.lload_n k, 1)) (hg : xget L k.val = vL x) (kk : xNx p l e R s m args below meth c cells slots Q M A ad ca D cnt ρ (pc + 1) L (vL x :: r) σ) : xNx p l e R s m args below meth c cells slots Q M A ad ca D cnt ρ pc L r σ := by
  intro H locs ls hW hS hL hs
  obtain ⟨h1, h2⟩ := xget_ok hL (xnn_L hg)
  rw [hg] at h1 h2
  exact lv_lload_n F.1 F.2.1 hd rfl h1 (kk H locs ls hW hS hL (xoks_c.mpr ⟨h2, hs⟩))
theorem xo_aload_n (F : xFix p s m args meth c M A ad D) {pc : Nat} {k : Fin 4} {L r : List xV} {σ : xM} {t i : Nat} (hd : decode (xy M).2.1 pc = .ok (.aload_n k, 1)) (hg : xget L k.val = vR t i) (ht : Nat.beq t 0 = false) (kk : xNx p l e R s m args below meth c cells slots Q M A ad ca D cnt ρ (pc + 1) L (vR t i :: r) σ) : xNx p l e R s m args below meth c cells slots Q M A ad ca D cnt ρ pc L r σ := by
  intro H locs ls hW hS hL hs
  obtain ⟨h1, h2⟩ := xget_ok hL (xnn_R hg ht)
  rw [hg] at h1 h2
  have h := kk H locs ls hW hS hL (xoks_c.mpr ⟨h2, hs⟩)
  rw [xcv_R ht] at h1
  rw [List.map_cons, xcv_R ht] at h
  exact lv_aload_n F.1 F.2.1 hd rfl h1 h
theorem xo_aload (F : xFix p s m args meth c M A ad D) {pc : Nat} {k : Nat} {L r : List xV} {σ : xM} {t i : Nat} (hd : decode (xy M).2.1 pc = .ok (.aload k, 2)) (hg : xget L k = vR t i) (ht : Nat.beq t 0 = false) (kk : xNx p l e R s m args below meth c cells slots Q M A ad ca D cnt ρ (pc + 2) L (vR t i :: r) σ) : xNx p l e R s m args below meth c cells slots Q M A ad ca D cnt ρ pc L r σ := by
  intro H locs ls hW hS hL hs
  obtain ⟨h1, h2⟩ := xget_ok hL (xnn_R hg ht)
  rw [hg] at h1 h2
  have h := kk H locs ls hW hS hL (xoks_c.mpr ⟨h2, hs⟩)
  rw [xcv_R ht] at h1
  rw [List.map_cons, xcv_R ht] at h
  exact lv_aload F.1 F.2.1 hd h1 h
theorem xo_istore_n (F : xFix p s m args meth c M A ad D) {pc : Nat} {k : Fin 4} {L r : List xV} {σ : xM} {x : Int} (hd : decode (xy M).2.1 pc = .ok (.istore_n k, 1)) (hi : k.val < (xrec M).2.1) (hg : xlgS M k.val = false) (kk : xNx p l e R s m args below meth c cells slots Q M A ad ca D cnt ρ (pc + 1) (xset L k.val (vI x)) r σ) : xNx p l e R s m args below meth c cells slots Q M A ad ca D cnt ρ pc L (vI x :: r) σ := by
  intro H locs ls hW hS hL hs
  obtain ⟨hx, hr⟩ := xoks_c.mp hs
  simp only [List.map_cons, xcv]
  exact lv_istore_n F.1 F.2.1 hd rfl (xprs_has hL) hi rfl (fun ls' h => kk H locs ls' hW hS (xset_ok hL hi hx (fun z e => by cases e) hg h) hr)
theorem xo_istore (F : xFix p s m args meth c M A ad D) {pc : Nat} {k : Nat} {L r : List xV} {σ : xM} {x : Int} (hd : decode (xy M).2.1 pc = .ok (.istore k, 2)) (hi : k < (xrec M).2.1) (hg : xlgS M k = false) (kk : xNx p l e R s m args below meth c cells slots Q M A ad ca D cnt ρ (pc + 2) (xset L k (vI x)) r σ) : xNx p l e R s m args below meth c cells slots Q M A ad ca D cnt ρ pc L (vI x :: r) σ := by
  intro H locs ls hW hS hL hs
  obtain ⟨hx, hr⟩ := xoks_c.mp hs
  simp only [List.map_cons, xcv]
  exact lv_istore F.1 F.2.1 hd (xprs_has hL) hi rfl (fun ls' h => kk H locs ls' hW hS (xset_ok hL hi hx (fun z e => by cases e) hg h) hr)
theorem xo_astore_n (F : xFix p s m args meth c M A ad D) {pc : Nat} {k : Fin 4} {L r : List xV} {σ : xM} {t i : Nat} (hd : decode (xy M).2.1 pc = .ok (.astore_n k, 1)) (hi : k.val < (xrec M).2.1) (hg : xlgS M k.val = false) (ht : Nat.beq t 0 = false) (kk : xNx p l e R s m args below meth c cells slots Q M A ad ca D cnt ρ (pc + 1) (xset L k.val (vR t i)) r σ) : xNx p l e R s m args below meth c cells slots Q M A ad ca D cnt ρ pc L (vR t i :: r) σ := by
  intro H locs ls hW hS hL hs
  obtain ⟨hx, hr⟩ := xoks_c.mp hs
  rw [List.map_cons, xcv_R ht]
  exact lv_astore_n F.1 F.2.1 hd rfl (xprs_has hL) hi rfl (fun ls' h => kk H locs ls' hW hS (xset_ok hL hi hx (fun z e => by cases e) hg (by rw [xcv_R ht]; exact h)) hr)
theorem xo_astore (F : xFix p s m args meth c M A ad D) {pc : Nat} {k : Nat} {L r : List xV} {σ : xM} {t i : Nat} (hd : decode (xy M).2.1 pc = .ok (.astore k, 2)) (hi : k < (xrec M).2.1) (hg : xlgS M k = false) (ht : Nat.beq t 0 = false) (kk : xNx p l e R s m args below meth c cells slots Q M A ad ca D cnt ρ (pc + 2) (xset L k (vR t i)) r σ) : xNx p l e R s m args below meth c cells slots Q M A ad ca D cnt ρ pc L (vR t i :: r) σ := by
  intro H locs ls hW hS hL hs
  obtain ⟨hx, hr⟩ := xoks_c.mp hs
  rw [List.map_cons, xcv_R ht]
  exact lv_astore F.1 F.2.1 hd (xprs_has hL) hi rfl (fun ls' h => kk H locs ls' hW hS (xset_ok hL hi hx (fun z e => by cases e) hg (by rw [xcv_R ht]; exact h)) hr)
theorem xo_iinc (F : xFix p s m args meth c M A ad D) {pc k : Nat} {n : Int} {L r : List xV} {σ : xM} {x : Int} (hd : decode (xy M).2.1 pc = .ok (.iinc k n, 3)) (hi : k < (xrec M).2.1) (hg : xlgS M k = false) (hx : xget L k = vI x) (kk : xNx p l e R s m args below meth c cells slots Q M A ad ca D cnt ρ (pc + 3) (xset L k (vI (xwr (x + n)))) r σ) : xNx p l e R s m args below meth c cells slots Q M A ad ca D cnt ρ pc L r σ := by
  intro H locs ls hW hS hL hs
  have hm := xprs_mem (ad := ad) (L := L) (k := k) (xnn_I hx)
  rw [hx] at hm
  obtain ⟨j, hj⟩ := List.getElem?_of_mem hm
  refine lv_iinc F.1 F.2.1 hd (xprs_has hL) hj (v := Int32.ofInt (xwr (x + n))) ?_ hi rfl (fun ls' h => kk H locs ls' hW hS (xset_ok hL hi (xn_wrr _) (fun z e => by cases e) hg h) hs)
  rw [xn_wr, Int32.ofInt_add]
theorem xo_if_icmp (F : xFix p s m args meth c M A ad D) {pc tgt : Nat} {cd : ClassFile.Cond} {off : Int} {L r : List xV} {σ : xM} {x y : Int} (hd : decode (xy M).2.1 pc = .ok (.if_icmp cd off, 3)) (ht : (pc : Int) + off = (tgt : Int)) (k : xif cd x y (xNx p l e R s m args below meth c cells slots Q M A ad ca D cnt ρ tgt L r σ) (xNx p l e R s m args below meth c cells slots Q M A ad ca D cnt ρ (pc + 3) L r σ)) : xNx p l e R s m args below meth c cells slots Q M A ad ca D cnt ρ pc L (vI y :: vI x :: r) σ := by
  intro H locs ls hW hS hL hs
  obtain ⟨hy, hs1⟩ := xoks_c.mp hs
  obtain ⟨hx, hr⟩ := xoks_c.mp hs1
  simp only [List.map_cons, xcv]
  cases cd with
  | eq =>
    simp only [xif] at k
    refine lv_icmp_eq F.1 F.2.1 hd ht (fun q => ?_) (fun q => ?_)
    · rw [if_pos ((xn_eq hx hy).mp q)] at k
      exact k H locs ls hW hS hL hr
    · rw [if_neg (fun z => q ((xn_eq hx hy).mpr z))] at k
      exact k H locs ls hW hS hL hr
  | ne =>
    simp only [xif] at k
    refine lv_icmp_ne F.1 F.2.1 hd ht (fun q => ?_) (fun q => ?_)
    · rw [if_neg (fun z => q ((xn_eq hx hy).mpr z))] at k
      exact k H locs ls hW hS hL hr
    · rw [if_pos ((xn_eq hx hy).mp q)] at k
      exact k H locs ls hW hS hL hr
  | lt =>
    simp only [xif] at k
    refine lv_icmp_lt F.1 F.2.1 hd ht (fun q => ?_) (fun q => ?_)
    · rw [if_pos ((xn_lt hx hy).mp q)] at k
      exact k H locs ls hW hS hL hr
    · rw [if_neg (fun z => q ((xn_lt hx hy).mpr z))] at k
      exact k H locs ls hW hS hL hr
  | ge =>
    simp only [xif] at k
    refine lv_icmp_ge F.1 F.2.1 hd ht (fun q => ?_) (fun q => ?_)
    · have q1 := (xn_le hy hx).mp q
      rw [if_neg (by omega)] at k
      exact k H locs ls hW hS hL hr
    · have q1 : ¬ y ≤ x := fun z => q ((xn_le hy hx).mpr z)
      rw [if_pos (by omega)] at k
      exact k H locs ls hW hS hL hr
  | gt =>
    simp only [xif] at k
    refine lv_icmp_gt F.1 F.2.1 hd ht (fun q => ?_) (fun q => ?_)
    · rw [if_pos ((xn_lt hy hx).mp q)] at k
      exact k H locs ls hW hS hL hr
    · rw [if_neg (fun z => q ((xn_lt hy hx).mpr z))] at k
      exact k H locs ls hW hS hL hr
  | le =>
    simp only [xif] at k
    refine lv_icmp_le F.1 F.2.1 hd ht (fun q => ?_) (fun q => ?_)
    · have q1 := (xn_le hx hy).mp q
      rw [if_neg (by omega)] at k
      exact k H locs ls hW hS hL hr
    · have q1 : ¬ x ≤ y := fun z => q ((xn_le hx hy).mpr z)
      rw [if_pos (by omega)] at k
      exact k H locs ls hW hS hL hr
theorem xo_ifCond (F : xFix p s m args meth c M A ad D) {pc tgt : Nat} {cd : ClassFile.Cond} {off : Int} {L r : List xV} {σ : xM} {x : Int} (hd : decode (xy M).2.1 pc = .ok (.ifCond cd off, 3)) (ht : (pc : Int) + off = (tgt : Int)) (k : xif cd x 0 (xNx p l e R s m args below meth c cells slots Q M A ad ca D cnt ρ tgt L r σ) (xNx p l e R s m args below meth c cells slots Q M A ad ca D cnt ρ (pc + 3) L r σ)) : xNx p l e R s m args below meth c cells slots Q M A ad ca D cnt ρ pc L (vI x :: r) σ := by
  intro H locs ls hW hS hL hs
  obtain ⟨hx, hr⟩ := xoks_c.mp hs
  simp only [List.map_cons, xcv]
  cases cd with
  | eq =>
    simp only [xif] at k
    refine lv_if_eq F.1 F.2.1 hd ht (fun q => ?_) (fun q => ?_)
    · rw [xn_0] at q; rw [if_pos ((xn_eq hx xn_r0).mp q)] at k
      exact k H locs ls hW hS hL hr
    · rw [xn_0] at q; rw [if_neg (fun z => q ((xn_eq hx xn_r0).mpr z))] at k
      exact k H locs ls hW hS hL hr
  | ne =>
    simp only [xif] at k
    refine lv_if_ne F.1 F.2.1 hd ht (fun q => ?_) (fun q => ?_)
    · rw [xn_0] at q; rw [if_neg (fun z => q ((xn_eq hx xn_r0).mpr z))] at k
      exact k H locs ls hW hS hL hr
    · rw [xn_0] at q; rw [if_pos ((xn_eq hx xn_r0).mp q)] at k
      exact k H locs ls hW hS hL hr
  | lt =>
    simp only [xif] at k
    refine lv_if_lt F.1 F.2.1 hd ht (fun q => ?_) (fun q => ?_)
    · rw [xn_0] at q; rw [if_pos ((xn_lt hx xn_r0).mp q)] at k
      exact k H locs ls hW hS hL hr
    · rw [xn_0] at q; rw [if_neg (fun z => q ((xn_lt hx xn_r0).mpr z))] at k
      exact k H locs ls hW hS hL hr
  | ge =>
    simp only [xif] at k
    refine lv_if_ge F.1 F.2.1 hd ht (fun q => ?_) (fun q => ?_)
    · rw [xn_0] at q; have q1 := (xn_le xn_r0 hx).mp q
      rw [if_neg (by omega)] at k
      exact k H locs ls hW hS hL hr
    · rw [xn_0] at q; have q1 : ¬ 0 ≤ x := fun z => q ((xn_le xn_r0 hx).mpr z)
      rw [if_pos (by omega)] at k
      exact k H locs ls hW hS hL hr
  | gt =>
    simp only [xif] at k
    refine lv_if_gt F.1 F.2.1 hd ht (fun q => ?_) (fun q => ?_)
    · rw [xn_0] at q; rw [if_pos ((xn_lt xn_r0 hx).mp q)] at k
      exact k H locs ls hW hS hL hr
    · rw [xn_0] at q; rw [if_neg (fun z => q ((xn_lt xn_r0 hx).mpr z))] at k
      exact k H locs ls hW hS hL hr
  | le =>
    simp only [xif] at k
    refine lv_if_le F.1 F.2.1 hd ht (fun q => ?_) (fun q => ?_)
    · rw [xn_0] at q; have q1 := (xn_le hx xn_r0).mp q
      rw [if_neg (by omega)] at k
      exact k H locs ls hW hS hL hr
    · rw [xn_0] at q; have q1 : ¬ x ≤ 0 := fun z => q ((xn_le hx xn_r0).mpr z)
      rw [if_pos (by omega)] at k
      exact k H locs ls hW hS hL hr
theorem xo_goto (F : xFix p s m args meth c M A ad D) {pc tgt : Nat} {off : Int} {L r : List xV} {σ : xM} (hd : decode (xy M).2.1 pc = .ok (.goto off, 3)) (ht : (pc : Int) + off = (tgt : Int)) (k : xNx p l e R s m args below meth c cells slots Q M A ad ca D cnt ρ tgt L r σ) : xNx p l e R s m args below meth c cells slots Q M A ad ca D cnt ρ pc L r σ := fun H locs ls hW hS hL hs => lv_goto F.1 F.2.1 hd ht (k H locs ls hW hS hL hs)
theorem xcat1 {v : xV} (h : ∀ z, v ≠ vL z) : (xcv ad v).category = 1 := by
  rcases v with x | x | q
  · rfl
  · exact absurd rfl (h x)
  · simp only [xcv]
    cases Nat.beq q.1 0 <;> rfl
theorem xo_dup (F : xFix p s m args meth c M A ad D) {pc : Nat} {L r : List xV} {σ : xM} {v : xV} (hd : decode (xy M).2.1 pc = .ok (.dup, 1)) (hv : ∀ z, v ≠ vL z) (k : xNx p l e R s m args below meth c cells slots Q M A ad ca D cnt ρ (pc + 1) L (v :: v :: r) σ) : xNx p l e R s m args below meth c cells slots Q M A ad ca D cnt ρ pc L (v :: r) σ := by
  intro H locs ls hW hS hL hs
  obtain ⟨hx, hr⟩ := xoks_c.mp hs
  exact lv_dup F.1 F.2.1 hd (xcat1 hv) (k H locs ls hW hS hL (xoks_c.mpr ⟨hx, hs⟩))
theorem xo_pop (F : xFix p s m args meth c M A ad D) {pc : Nat} {L r : List xV} {σ : xM} {v : xV} (hd : decode (xy M).2.1 pc = .ok (.pop, 1)) (hv : ∀ z, v ≠ vL z) (k : xNx p l e R s m args below meth c cells slots Q M A ad ca D cnt ρ (pc + 1) L r σ) : xNx p l e R s m args below meth c cells slots Q M A ad ca D cnt ρ pc L (v :: r) σ := by
  intro H locs ls hW hS hL hs
  obtain ⟨hx, hr⟩ := xoks_c.mp hs
  exact lv_pop F.1 F.2.1 hd (xcat1 hv) (k H locs ls hW hS hL hr)
theorem xo_dup2 (F : xFix p s m args meth c M A ad D) {pc : Nat} {L r : List xV} {σ : xM} {v w : xV} (hd : decode (xy M).2.1 pc = .ok (.dup2, 1)) (hv : ∀ z, v ≠ vL z) (hw : ∀ z, w ≠ vL z) (k : xNx p l e R s m args below meth c cells slots Q M A ad ca D cnt ρ (pc + 1) L (v :: w :: v :: w :: r) σ) : xNx p l e R s m args below meth c cells slots Q M A ad ca D cnt ρ pc L (v :: w :: r) σ := by
  intro H locs ls hW hS hL hs
  obtain ⟨hx, hs1⟩ := xoks_c.mp hs
  obtain ⟨hy, hr⟩ := xoks_c.mp hs1
  exact lv_dup2_11 F.1 F.2.1 hd (xcat1 hv) (xcat1 hw) (k H locs ls hW hS hL (xoks_c.mpr ⟨hx, xoks_c.mpr ⟨hy, hs⟩⟩))
end XO
end
section
/-! INSTRUCTIONS ON CELLS -/
theorem xdecl_all : xtags.all (fun t => (List.range (xsz t)).all (fun k => decide ((xFt t k).1 = xCt t))) = true := by decide +kernel
theorem xdecl {t k : Nat} (ht : xkind t = 1) (hk : k < xsz t) : (xFt t k).1 = xCt t := of_decide_eq_true (List.all_eq_true.mp (List.all_eq_true.mp xdecl_all t (xtag_in ht)) k (List.mem_range.mpr hk))
theorem xup_ne {σ : xM} {t i k : Nat} {v : Int} {t' i' : Nat} (h : (t', i') ≠ (t, i)) (j : Nat) : xup σ t i k v t' i' j = σ t' i' j := by
  unfold xup
  rw [if_neg]
  rintro ⟨rfl, rfl, -⟩
  exact h rfl
theorem xup_at {σ : xM} {t i k : Nat} {v : Int} (j : Nat) : xup σ t i k v t i j = if j = k then v else σ t i j := by
  unfold xup
  by_cases h : j = k
  · rw [if_pos ⟨rfl, rfl, h⟩, if_pos h]
  · rw [if_neg (fun q => h q.2.2), if_neg h]
theorem xfv_congr {ρ : xP} {σ σ' : xM} {t i k : Nat} (h : σ' t i k = σ t i k) : xfv ρ σ' t i k = xfv ρ σ t i k := by
  unfold xfv
  rw [h]
theorem xE_congr {ad : Nat → Nat → Nat} {ca : Nat → Nat → ClassId} {ρ : xP} {σ σ' : xM} {t i : Nat} (h : ∀ k, σ' t i k = σ t i k) : xE ad ca ρ σ' t i = xE ad ca ρ σ t i := by
  unfold xE
  have h1 : (fun k => xcv ad (xfv ρ σ' t i k)) = fun k => xcv ad (xfv ρ σ t i k) := funext fun k => by rw [xfv_congr (h k)]
  have h2 : (fun j => Int32.ofInt (σ' t i j)) = fun j => Int32.ofInt (σ t i j) := funext fun k => by rw [h k]
  rw [h1, h2]
theorem xrg_up {σ : xM} {t i k : Nat} {v : Int} (h : xrg σ) (hv : xr v) : xrg (xup σ t i k v) := by
  intro a b c
  unfold xup
  by_cases hc : a = t ∧ b = i ∧ c = k
  · rw [if_pos hc]; exact hv
  · rw [if_neg hc]; exact h a b c
theorem xrg_cpy {σ : xM} {t0 i0 s0 t1 i1 d0 n : Nat} (h : xrg σ) : xrg (xcpy σ t0 i0 s0 t1 i1 d0 n) := by
  intro a b c
  unfold xcpy
  by_cases hc : a = t1 ∧ b = i1 ∧ d0 ≤ c ∧ c < d0 + n
  · rw [if_pos hc]; exact h _ _ _
  · rw [if_neg hc]; exact h a b c
theorem xrng_map {α : Type} {n k : Nat} {f : Nat → α} (hk : k < n) : ((List.range n).map f)[k]? = some (f k) := by
  rw [List.getElem?_map, List.getElem?_range hk]
  rfl
theorem xrng_set {α : Type} {n k : Nat} {f g : Nat → α} {v : α} (hk : k < n) (hv : g k = v) (ho : ∀ j, j ≠ k → g j = f j) : (List.range n).map g = ((List.range n).map f).set k v := by
  apply List.ext_getElem?
  intro j
  by_cases hj : j < n
  · rw [xrng_map hj]
    by_cases e : k = j
    · subst e
      rw [List.getElem?_set_self (by simpa using hk), hv]
    · rw [List.getElem?_set_ne e, xrng_map hj, ho j (fun q => e q.symm)]
  · rw [List.getElem?_eq_none (by simpa using hj), List.getElem?_eq_none (by simpa using hj)]
section XH
variable {p : Program} {l : Launch} {e : Env} {R : Room} {s : State} {m : MethodId} {args : Array Value} {below : List Frame} {meth : Method} {c : Code} {cells slots : Nat} {Q : State → Prop}
variable {M : Nat} {A : Nat → Prop} {ad : Nat → Nat → Nat} {ca : Nat → Nat → ClassId} {D : va_G} {cnt : Nat → Nat} {ρ : xP}
theorem xok_vd {t i : Nat} (h : xok cnt (vR t i)) (ht : xkind t ≠ 0) : xvd cnt t i := by
  have h4 := xkind_4 ht
  rcases h with h | h
  · exact absurd h (by show ¬ t = 0; omega)
  · rcases h with h | h | h | h
    · exact absurd h.1 (by show ¬ t = 1; omega)
    · exact absurd h.1 (by show ¬ t = 2; omega)
    · exact absurd h.1 (by show ¬ t = 3; omega)
    · exact h
theorem xb0 {t : Nat} (ht : xkind t ≠ 0) : Nat.beq t 0 = false := by
  have h4 := xkind_4 ht
  cases hb : Nat.beq t 0 with
  | false => rfl
  | true => exact absurd (Nat.eq_of_beq_eq_true hb) (by omega)
theorem xo_getf (F : xFix p s m args meth c M A ad D) {pc x : Nat} {L r : List xV} {σ : xM} {q : Nat × Nat} {i : Nat} (hd : decode (xy M).2.1 pc = .ok (.getfield x, 3)) (hf : xfld (xrec M).1 x = some q) (hk : xkind q.1 = 1) (hok : xrg σ → xvd cnt q.1 i → xrv cnt ρ → xok cnt (xfv ρ σ q.1 i q.2))
    (k : xNx p l e R s m args below meth c cells slots Q M A ad ca D cnt ρ (pc + 3) L (xfv ρ σ q.1 i q.2 :: r) σ) : xNx p l e R s m args below meth c cells slots Q M A ad ca D cnt ρ pc L (vR q.1 i :: r) σ := by
  intro H locs ls hW hS hL hs
  obtain ⟨hx, hr⟩ := xoks_c.mp hs
  have hk0 : xkind q.1 ≠ 0 := by rw [hk]; decide
  have hv := xok_vd hx hk0
  have h := k H locs ls hW hS hL (xoks_c.mpr ⟨hok hW.2.2.2.1 hv hW.2.2.2.2.1, hr⟩)
  obtain ⟨⟨n, hw⟩, hsz, -⟩ := xfld_w hf
  have hsz : q.2 < xsz q.1 := by
    rcases hsz with h1 | h1
    · exact h1
    · rw [h1] at hk; exact absurd hk (by decide +kernel)
  obtain ⟨k0, -, he⟩ := xW_idx (ad := ad) (ca := ca) (ρ := ρ) (σ := σ) hv
  have hE : xE ad ca ρ σ q.1 i = .inr (xci q.1, (List.range (xsz q.1)).map fun j => xcv ad (xfv ρ σ q.1 i j)) := by unfold xE; rw [hk]; rfl
  rw [hE] at he
  rw [List.map_cons, xcv_R (xb0 hk0)]
  rw [List.map_cons] at h
  have hsame : ∀ x, s.fieldFound? (xFt q.1 q.2).1 (xFt q.1 q.2).2.1 (xFt q.1 q.2).2.2.1 = some x → s.fieldFound? (xCt q.1) (xFt q.1 q.2).2.1 (xFt q.1 q.2).2.2.1 = some x := by
    rw [xdecl hk hsz]; exact fun _ h => h
  obtain ⟨hx0, hb, -, -, hown, -, hts, hex, -, -, hK, -⟩ := F
  cases n with
  | false => exact va_get hx0 hb hts (xcl_lay hk) hown hK hW.P k0 he (xcl_at hk) q.2 hsz (hts _ (xGT_m hw rfl)) hsame (xrng_map hsz) hd h
  | true => exact va_getN hx0 hb hts (xcl_lay hk) hown hK hW.P k0 he (xcl_at hk) q.2 hsz (va_Nw.use rfl (hex.1 _ (xnest_f hw))) hsame (xrng_map hsz) hd h
theorem xo_putf (F : xFix p s m args meth c M A ad D) {pc x : Nat} {L r : List xV} {σ : xM} {q : Nat × Nat} {i : Nat} {v : xV} {y : Int} (hd : decode (xy M).2.1 pc = .ok (.putfield x, 3)) (hf : xfld (xrec M).1 x = some q) (hk : xkind q.1 = 1) (hy : xr y) (hfin : (xFt q.1 q.2).2.2.2 = false)
    (hn : narrow (xty q.1 q.2) (xcv ad v) = xcv ad v) (hfit : fits (xty q.1 q.2) (xcv ad v) = true) (hfv : xfv ρ (xup σ q.1 i q.2 y) q.1 i q.2 = v)
    (k : xNx p l e R s m args below meth c cells slots Q M A ad ca D cnt ρ (pc + 3) L r (xup σ q.1 i q.2 y)) : xNx p l e R s m args below meth c cells slots Q M A ad ca D cnt ρ pc L (v :: vR q.1 i :: r) σ := by
  intro H locs ls hW hS hL hs
  obtain ⟨hvv, hs1⟩ := xoks_c.mp hs
  obtain ⟨hx, hr⟩ := xoks_c.mp hs1
  have hk0 : xkind q.1 ≠ 0 := by rw [hk]; decide
  have hv := xok_vd hx hk0
  obtain ⟨⟨n, hw⟩, hsz, -⟩ := xfld_w hf
  have hsz : q.2 < xsz q.1 := by
    rcases hsz with h1 | h1
    · exact h1
    · rw [h1] at hk; exact absurd hk (by decide +kernel)
  obtain ⟨k0, hk1, he⟩ := xW_idx (ad := ad) (ca := ca) (ρ := ρ) (σ := σ) hv
  have hE : ∀ σ, xE ad ca ρ σ q.1 i = .inr (xci q.1, (List.range (xsz q.1)).map fun j => xcv ad (xfv ρ σ q.1 i j)) := fun σ => by unfold xE; rw [hk]; rfl
  rw [hE] at he
  rw [List.map_cons, List.map_cons, xcv_R (xb0 hk0)]
  have hsame : ∀ x, s.fieldFound? (xFt q.1 q.2).1 (xFt q.1 q.2).2.1 (xFt q.1 q.2).2.2.1 = some x → s.fieldFound? (xCt q.1) (xFt q.1 q.2).2.1 (xFt q.1 q.2).2.2.1 = some x := by
    rw [xdecl hk hsz]; exact fun _ h => h
  have hnew : xE ad ca ρ (xup σ q.1 i q.2 y) q.1 i = .inr (xci q.1, ((List.range (xsz q.1)).map fun j => xcv ad (xfv ρ σ q.1 i j)).set q.2 (xcv ad v)) := by
    rw [hE, xrng_set hsz (by rw [hfv]) (fun j hj => by rw [xfv_congr (by rw [xup_at, if_neg hj])])]
  have next : ∀ (H1 : Heap) (locs1 : List Loc), va_P D xcl ((xW ad ca cnt ρ σ).set k0 (ad q.1 i, .inr (xci q.1, ((List.range (xsz q.1)).map fun j => xcv ad (xfv ρ σ q.1 i j)).set q.2 (xcv ad v)))) H1 → va_D A ((xW ad ca cnt ρ σ).set k0 (ad q.1 i, .inr (xci q.1, ((List.range (xsz q.1)).map fun j => xcv ad (xfv ρ σ q.1 i j)).set q.2 (xcv ad v)))) → va_S A s.heap H1 locs1 →
      W p l e R s m args below meth c H1 locs1 cells slots Q (F0 m (pc + 3) ls (r.map (xcv ad))) := fun H1 locs1 hP1 _ hS1 =>
    k H1 locs1 ls (hW.set hv hk1 hP1 hnew (fun t' i' hne => xE_congr (fun j => xup_ne hne j)) (xrg_up hW.2.2.2.1 hy)) hS1 hL hr
  obtain ⟨hx0, hb, -, -, hown, -, hts, hex, -, -, hK, -⟩ := F
  cases n with
  | false => exact va_put hx0 hb hts (xcl_lay hk) (xty q.1) (xty_ok hk) (xnm_ok hk) hown hK hW.P hW.Dd hS k0 he (xcl_at hk) q.2 hsz (hts _ (xGT_m hw rfl)) hsame hfin (xty_ok hk q.2 hsz) hn hfit (by rw [List.length_map, List.length_range]; exact hsz) hd next
  | true => exact va_putN hx0 hb hts (xcl_lay hk) (xty q.1) (xty_ok hk) (xnm_ok hk) hown hK hW.P hW.Dd hS k0 he (xcl_at hk) q.2 hsz (va_Nw.use rfl (hex.1 _ (xnest_f hw))) hsame hfin (xty_ok hk q.2 hsz) hn hfit (by rw [List.length_map, List.length_range]; exact hsz) hd next
theorem xKa {t i : Nat} (F : xFix p s m args meth c M A ad D) {σ : xM} {H : Heap} (hW : xWd D ad ca cnt ρ σ A s H) (hv : xvd cnt t i) (hk : xkind t ≠ 1) : va_K D xcl [(ca t i, xaty t)] s := by
  refine ⟨F.2.2.2.2.2.2.2.2.2.2.1.1, fun k q hq => ?_⟩
  have h := hW.2.2.2.2.2 t i hv hk
  cases k with
  | zero => cases hq; exact h
  | succ k => cases hq
theorem xE_i {σ : xM} {t i : Nat} (h1 : xkind t ≠ 1) (h4 : xkind t ≠ 4) : xE ad ca ρ σ t i = .inl (ca t i, xsz t, .inl (fun j => Int32.ofInt (σ t i j))) := by
  unfold xE
  split
  · rename_i h; exact absurd h h1
  · rename_i h; exact absurd h h4
  · rfl
theorem xE_q {σ : xM} {t i : Nat} (h4 : xkind t = 4) : xE ad ca ρ σ t i = .inl (ca t i, xsz t, .inr (.inr (.inr (.inr (fun j => cond (Nat.beq (ρ t i j).1 0) none (some (ad (ρ t i j).1 (ρ t i j).2))))))) := by
  unfold xE
  rw [h4]
  rfl
theorem xlt {t : Nat} {x : Int} (h2 : 2 ≤ xkind t) (h : 0 ≤ x ∧ x < xlen t) : x < (xsz t : Int) ∧ xr x := by
  obtain ⟨e, hl⟩ := xlen_ok h2
  rw [e] at h hl
  exact ⟨h.2, by constructor <;> omega⟩
theorem xo_iaload (F : xFix p s m args meth c M A ad D) {pc : Nat} {L r : List xV} {σ : xM} {t i : Nat} {x : Int} (hd : decode (xy M).2.1 pc = .ok (.iaload, 1)) (hk : xkind t = 2) (hx : 0 ≤ x ∧ x < xlen t)
    (k : xNx p l e R s m args below meth c cells slots Q M A ad ca D cnt ρ (pc + 1) L (vI (σ t i x.toNat) :: r) σ) : xNx p l e R s m args below meth c cells slots Q M A ad ca D cnt ρ pc L (vI x :: vR t i :: r) σ := by
  intro H locs ls hW hS hL hs
  obtain ⟨hxx, hs1⟩ := xoks_c.mp hs
  obtain ⟨ho, hr⟩ := xoks_c.mp hs1
  have hk0 : xkind t ≠ 0 := by rw [hk]; decide
  have hv := xok_vd ho hk0
  have h := k H locs ls hW hS hL (xoks_c.mpr ⟨hW.2.2.2.1 _ _ _, hr⟩)
  obtain ⟨k0, -, he⟩ := xW_idx (ad := ad) (ca := ca) (ρ := ρ) (σ := σ) hv
  rw [xE_i (by rw [hk]; decide) (by rw [hk]; decide)] at he
  rw [List.map_cons, List.map_cons, xcv_R (xb0 hk0)]
  have hlt := xlt (by rw [hk]; decide) hx
  refine va_iald F.1 F.2.1 (xKa F hW hv (by rw [hk]; decide)) hW.P k0 0 he (by rw [xarr_2 hk]; rfl) (xn_in hx.1 hlt.1 hlt.2) hd ?_
  rw [xn_nat hx.1 hlt.2]
  exact h
theorem xo_iastore (F : xFix p s m args meth c M A ad D) {pc : Nat} {L r : List xV} {σ : xM} {t i : Nat} {x v : Int} (hd : decode (xy M).2.1 pc = .ok (.iastore, 1)) (hk : xkind t = 2) (hx : 0 ≤ x ∧ x < xlen t)
    (k : xNx p l e R s m args below meth c cells slots Q M A ad ca D cnt ρ (pc + 1) L r (xup σ t i x.toNat v)) : xNx p l e R s m args below meth c cells slots Q M A ad ca D cnt ρ pc L (vI v :: vI x :: vR t i :: r) σ := by
  intro H locs ls hW hS hL hs
  obtain ⟨hvv, hs0⟩ := xoks_c.mp hs
  obtain ⟨hxx, hs1⟩ := xoks_c.mp hs0
  obtain ⟨ho, hr⟩ := xoks_c.mp hs1
  have hk0 : xkind t ≠ 0 := by rw [hk]; decide
  have hv := xok_vd ho hk0
  obtain ⟨k0, hk1, he⟩ := xW_idx (ad := ad) (ca := ca) (ρ := ρ) (σ := σ) hv
  rw [xE_i (by rw [hk]; decide) (by rw [hk]; decide)] at he
  rw [List.map_cons, List.map_cons, List.map_cons, xcv_R (xb0 hk0)]
  have hlt := xlt (by rw [hk]; decide) hx
  refine va_iast F.1 F.2.1 (xKa F hW hv (by rw [hk]; decide)) hW.P hW.Dd hS k0 0 he (by rw [xarr_2 hk]; rfl) (xn_in hx.1 hlt.1 hlt.2) hd (fun H1 locs1 hP1 _ hS1 => ?_)
  refine k H1 locs1 ls (hW.set hv hk1 hP1 ?_ (fun t' i' hne => xE_congr (fun j => xup_ne hne j)) (xrg_up hW.2.2.2.1 hvv)) hS1 hL hr
  rw [xE_i (by rw [hk]; decide) (by rw [hk]; decide), xn_nat hx.1 hlt.2]
  congr 4
  funext j
  rw [xup_at]
  unfold upd
  by_cases hj : j = x.toNat
  · rw [if_pos hj, if_pos hj]
  · rw [if_neg hj, if_neg hj]
theorem xo_zaload (F : xFix p s m args meth c M A ad D) {pc : Nat} {L r : List xV} {σ : xM} {t i : Nat} {x : Int} (hd : decode (xy M).2.1 pc = .ok (.baload, 1)) (hk : xkind t = 3) (hx : 0 ≤ x ∧ x < xlen t)
    (k : xNx p l e R s m args below meth c cells slots Q M A ad ca D cnt ρ (pc + 1) L (vI (σ t i x.toNat) :: r) σ) : xNx p l e R s m args below meth c cells slots Q M A ad ca D cnt ρ pc L (vI x :: vR t i :: r) σ := by
  intro H locs ls hW hS hL hs
  obtain ⟨hxx, hs1⟩ := xoks_c.mp hs
  obtain ⟨ho, hr⟩ := xoks_c.mp hs1
  have hk0 : xkind t ≠ 0 := by rw [hk]; decide
  have hv := xok_vd ho hk0
  have h := k H locs ls hW hS hL (xoks_c.mpr ⟨hW.2.2.2.1 _ _ _, hr⟩)
  obtain ⟨k0, -, he⟩ := xW_idx (ad := ad) (ca := ca) (ρ := ρ) (σ := σ) hv
  rw [xE_i (by rw [hk]; decide) (by rw [hk]; decide)] at he
  rw [List.map_cons, List.map_cons, xcv_R (xb0 hk0)]
  have hlt := xlt (by rw [hk]; decide) hx
  refine va_zald F.1 F.2.1 (xKa F hW hv (by rw [hk]; decide)) hW.P k0 0 he (by rw [xarr_3 hk]; rfl) (xn_in hx.1 hlt.1 hlt.2) hd ?_
  rw [xn_nat hx.1 hlt.2]
  exact h
theorem xo_zastore (F : xFix p s m args meth c M A ad D) {pc : Nat} {L r : List xV} {σ : xM} {t i : Nat} {x v : Int} (hd : decode (xy M).2.1 pc = .ok (.bastore, 1)) (hk : xkind t = 3) (hx : 0 ≤ x ∧ x < xlen t) (hv01 : v = 0 ∨ v = 1)
    (k : xNx p l e R s m args below meth c cells slots Q M A ad ca D cnt ρ (pc + 1) L r (xup σ t i x.toNat v)) : xNx p l e R s m args below meth c cells slots Q M A ad ca D cnt ρ pc L (vI v :: vI x :: vR t i :: r) σ := by
  intro H locs ls hW hS hL hs
  obtain ⟨hvv, hs0⟩ := xoks_c.mp hs
  obtain ⟨hxx, hs1⟩ := xoks_c.mp hs0
  obtain ⟨ho, hr⟩ := xoks_c.mp hs1
  have hk0 : xkind t ≠ 0 := by rw [hk]; decide
  have hv := xok_vd ho hk0
  obtain ⟨k0, hk1, he⟩ := xW_idx (ad := ad) (ca := ca) (ρ := ρ) (σ := σ) hv
  rw [xE_i (by rw [hk]; decide) (by rw [hk]; decide)] at he
  rw [List.map_cons, List.map_cons, List.map_cons, xcv_R (xb0 hk0)]
  have hlt := xlt (by rw [hk]; decide) hx
  refine va_zast F.1 F.2.1 (xKa F hW hv (by rw [hk]; decide)) hW.P hW.Dd hS k0 0 he (by rw [xarr_3 hk]; rfl) (xn_in hx.1 hlt.1 hlt.2) hd (fun H1 locs1 hP1 _ hS1 => ?_)
  refine k H1 locs1 ls (hW.set hv hk1 hP1 ?_ (fun t' i' hne => xE_congr (fun j => xup_ne hne j)) (xrg_up hW.2.2.2.1 hvv)) hS1 hL hr
  rw [xE_i (by rw [hk]; decide) (by rw [hk]; decide), xn_nat hx.1 hlt.2, xn_nzv hv01]
  congr 4
  funext j
  rw [xup_at]
  unfold upd
  by_cases hj : j = x.toNat
  · rw [if_pos hj, if_pos hj]
  · rw [if_neg hj, if_neg hj]
theorem xo_aaload (F : xFix p s m args meth c M A ad D) {pc : Nat} {L r : List xV} {σ : xM} {t i : Nat} {x : Int} (hd : decode (xy M).2.1 pc = .ok (.aaload, 1)) (hk : xkind t = 4) (hx : 0 ≤ x ∧ x < xlen t)
    (k : xNx p l e R s m args below meth c cells slots Q M A ad ca D cnt ρ (pc + 1) L (.inr (.inr (ρ t i x.toNat)) :: r) σ) : xNx p l e R s m args below meth c cells slots Q M A ad ca D cnt ρ pc L (vI x :: vR t i :: r) σ := by
  intro H locs ls hW hS hL hs
  obtain ⟨hxx, hs1⟩ := xoks_c.mp hs
  obtain ⟨ho, hr⟩ := xoks_c.mp hs1
  have hk0 : xkind t ≠ 0 := by rw [hk]; decide
  have hv := xok_vd ho hk0
  have hlt := xlt (by rw [hk]; decide) hx
  have hn : x.toNat < xsz t := by omega
  have h := k H locs ls hW hS hL (xoks_c.mpr ⟨hW.2.2.2.2.1 t i x.toNat hv hn, hr⟩)
  obtain ⟨k0, -, he⟩ := xW_idx (ad := ad) (ca := ca) (ρ := ρ) (σ := σ) hv
  rw [xE_q hk] at he
  rw [List.map_cons, List.map_cons, xcv_R (xb0 hk0)]
  have hin := xn_in hx.1 hlt.1 hlt.2
  have hP := hW.P k0 _ he
  have ha := hW.2.2.2.2.2 t i hv (by rw [hk]; decide)
  refine W.aald (v := va_rf (cond (Nat.beq (ρ t i x.toNat).1 0) none (some (ad (ρ t i x.toNat).1 (ρ t i x.toNat).2)))) (ty := xaty t) F.1 F.2.1 hP (ha.1 (xsz t) (fun j => va_rf (cond (Nat.beq (ρ t i j).1 0) none (some (ad (ρ t i j).1 (ρ t i j).2))))) (xarr_4 hk) (fun q => by cases q) (by show ¬ (_ ∨ (arrV _ _ _).slots.size ≤ _); rw [arrV_size]; exact hin) (by show (arrV _ _ _).slots[_]? = _; rw [xn_nat hx.1 hlt.2, arrV_read _ _ hn]) rfl rfl hd ?_
  have e : va_rf (cond (Nat.beq (ρ t i x.toNat).1 0) none (some (ad (ρ t i x.toNat).1 (ρ t i x.toNat).2))) = xcv ad (.inr (.inr (ρ t i x.toNat))) := by
    simp only [xcv]
    cases Nat.beq (ρ t i x.toNat).1 0 <;> rfl
  rw [e]
  exact h
theorem xo_alen (F : xFix p s m args meth c M A ad D) {pc : Nat} {L r : List xV} {σ : xM} {t i : Nat} (hd : decode (xy M).2.1 pc = .ok (.arraylength, 1)) (hk : 2 ≤ xkind t)
    (k : xNx p l e R s m args below meth c cells slots Q M A ad ca D cnt ρ (pc + 1) L (vI (xlen t) :: r) σ) : xNx p l e R s m args below meth c cells slots Q M A ad ca D cnt ρ pc L (vR t i :: r) σ := by
  intro H locs ls hW hS hL hs
  obtain ⟨ho, hr⟩ := xoks_c.mp hs
  have hk0 : xkind t ≠ 0 := by omega
  have hk1 : xkind t ≠ 1 := by omega
  have hv := xok_vd ho hk0
  obtain ⟨el, hl⟩ := xlen_ok hk
  have h := k H locs ls hW hS hL (xoks_c.mpr ⟨(show xr (xlen t) from ⟨by rw [el]; omega, hl⟩), hr⟩)
  obtain ⟨k0, -, he⟩ := xW_idx (ad := ad) (ca := ca) (ρ := ρ) (σ := σ) hv
  rw [List.map_cons, xcv_R (xb0 hk0)]
  rw [List.map_cons, show xcv ad (vI (xlen t)) = .int (Int32.ofInt (xlen t)) from rfl] at h
  by_cases h4 : xkind t = 4
  · rw [xE_q h4] at he
    exact va_alen F.1 F.2.1 (xKa F hW hv hk1) hW.P k0 0 he rfl (v := Int32.ofInt (xlen t)) (by rw [el]; exact xn_ofn _) hd h
  · rw [xE_i hk1 h4] at he
    exact va_alen F.1 F.2.1 (xKa F hW hv hk1) hW.P k0 0 he rfl (v := Int32.ofInt (xlen t)) (by rw [el]; exact xn_ofn _) hd h
end XH
end
section
/-! READ-ONLY CELLS, STATICS, COPIES, MATH, ENDS -/
theorem xoks_app {cnt : Nat → Nat} {a b : List xV} : xoks cnt (a ++ b) ↔ xoks cnt a ∧ xoks cnt b := by
  unfold xoks
  exact List.forall_mem_append
theorem xro1_all : (List.range 14).all (fun c => (xnth [] xfldT c).all (fun e => !(Nat.beq e.2.1 1) || (decide ((xas (xnth [] xfpT c) e.1).map (·.2) = some false) && Nat.ble e.2.2 1))) = true := by decide +kernel
theorem xro1 {c x k : Nat} (h : xfld c x = some (1, k)) : Cond.fieldLink (xnth "" xowL c) x "java/lang/String" (xFt 1 k).2.1 (xFt 1 k).2.2.1 ∈ xGT ∧ k ≤ 1 := by
  have h1 := xall_nth (T := xfldT) (n := 14) (f := xchF) (d := []) (by decide +kernel) rfl xchF_ok c (x, (1, k)) (xas_mem (xnth [] xfldT c) x (1, k) h)
  have h2 := xall_nth (T := xfldT) (n := 14) (f := fun c e => !(Nat.beq e.2.1 1) || (decide ((xas (xnth [] xfpT c) e.1).map (·.2) = some false) && Nat.ble e.2.2 1)) (d := []) (by decide +kernel) rfl xro1_all c (x, (1, k)) (xas_mem (xnth [] xfldT c) x (1, k) h)
  unfold xchF at h1
  cases hp : xas (xnth [] xfpT c) x with
  | none => simp only [hp] at h1; cases h1
  | some p =>
    simp only [hp, Bool.and_eq_true, decide_eq_true_eq] at h1
    simp only [hp, Option.map_some, Option.some.injEq, Bool.or_eq_true, Bool.and_eq_true, decide_eq_true_eq] at h2
    rcases h2 with h2 | ⟨h2, h3⟩
    · exact absurd h2 (by decide)
    · obtain ⟨pl, n⟩ := p
      simp only at h2
      subst h2
      exact ⟨xGT_in pl h1.1.1 rfl, Nat.le_of_ble_eq_true h3⟩
theorem xWd.moved {D : va_G} {ad : Nat → Nat → Nat} {ca : Nat → Nat → ClassId} {cnt : Nat → Nat} {ρ : xP} {σ : xM} {A B : Nat → Prop} {u U : State} {H : Heap} (h : xWd D ad ca cnt ρ σ A u H) (hvm : u.vm.Alike U.vm) (hAB : ∀ t i, xvd cnt t i → A (ad t i) → B (ad t i)) : xWd D ad ca cnt ρ σ B U H :=
  ⟨h.1, h.2.1, fun t i hv => hAB t i hv (h.2.2.1 t i hv), h.2.2.2.1, h.2.2.2.2.1, fun t i hv hk => ⟨arrOfT_moved hvm (h.2.2.2.2.2 t i hv hk).1, (h.2.2.2.2.2 t i hv hk).2.moved hvm⟩⟩
/-- a method's end -/
def xQc (v : Bool) (Q : Int → xM → Prop) (B : xM → State → Prop) (A : Nat → Prop) : Array Value → State → Outcome → State → Prop := match v with
  | true => va_Qv (fun u : xM => Q 0 u) B A
  | false => va_Qi (fun (r : Int32) (u : xM) => ∃ z, r = Int32.ofInt z ∧ xr z ∧ Q z u) B A
def xvoid (M : Nat) : Bool := Nat.beq (xrec M).2.2.1 0
section XI
variable {p : Program} {l : Launch} {e : Env} {R : Room} {s : State} {m : MethodId} {args : Array Value} {below : List Frame} {meth : Method} {c : Code} {cells slots : Nat} {Q : State → Prop}
variable {M : Nat} {A : Nat → Prop} {ad : Nat → Nat → Nat} {ca : Nat → Nat → ClassId} {D : va_G} {cnt : Nat → Nat} {ρ : xP}
theorem xok_ref {t i : Nat} (h : xok cnt (vR t i)) : t = 0 ∨ (t = 1 ∧ 1 ≤ i ∧ i ≤ 3) ∨ (t = 2 ∧ 1 ≤ i ∧ i ≤ 3) ∨ (t = 3 ∧ i = 0) ∨ (4 ≤ t ∧ t < 57 ∧ i < cnt t) := h
theorem xok_1 {i : Nat} (h : xok cnt (vR 1 i)) : 1 ≤ i ∧ i ≤ 3 := by have := xok_ref h; omega
theorem xok_2 {i : Nat} (h : xok cnt (vR 2 i)) : 1 ≤ i ∧ i ≤ 3 := by have := xok_ref h; omega
theorem xok_3 {i : Nat} (h : xok cnt (vR 3 i)) : i = 0 := by have := xok_ref h; omega
theorem xo_getV (F : xFix p s m args meth c M A ad D) {pc x : Nat} {L r : List xV} {σ : xM} {i : Nat} (hd : decode (xy M).2.1 pc = .ok (.getfield x, 3)) (hf : xfld (xrec M).1 x = some (1, 0))
    (k : xNx p l e R s m args below meth c cells slots Q M A ad ca D cnt ρ (pc + 3) L (vR 2 i :: r) σ) : xNx p l e R s m args below meth c cells slots Q M A ad ca D cnt ρ pc L (vR 1 i :: r) σ := by
  intro H locs ls hW hS hL hs
  obtain ⟨hx, hr⟩ := xoks_c.mp hs
  have hi := xok_1 hx
  have h := k H locs ls hW hS hL (xoks_c.mpr ⟨Or.inr (Or.inr (Or.inl ⟨rfl, hi⟩)), hr⟩)
  obtain ⟨j, rfl⟩ : ∃ j, i = j + 1 := ⟨i - 1, by omega⟩
  obtain ⟨hx0, hb, -, -, hown, -, hts, hex, -, hro, hK, -⟩ := F
  exact vk_getf hx0 hb (hro.2.2.2.1 j (by omega)).2.2.1 hS hown (hts _ (xro1 hf).1) (fun _ h => h) hd h
theorem xo_getC (F : xFix p s m args meth c M A ad D) {pc x : Nat} {L r : List xV} {σ : xM} {i : Nat} (hd : decode (xy M).2.1 pc = .ok (.getfield x, 3)) (hf : xfld (xrec M).1 x = some (1, 1))
    (k : xNx p l e R s m args below meth c cells slots Q M A ad ca D cnt ρ (pc + 3) L (vI 0 :: r) σ) : xNx p l e R s m args below meth c cells slots Q M A ad ca D cnt ρ pc L (vR 1 i :: r) σ := by
  intro H locs ls hW hS hL hs
  obtain ⟨hx, hr⟩ := xoks_c.mp hs
  have hi := xok_1 hx
  have h := k H locs ls hW hS hL (xoks_c.mpr ⟨xn_r0, hr⟩)
  obtain ⟨j, rfl⟩ : ∃ j, i = j + 1 := ⟨i - 1, by omega⟩
  obtain ⟨hx0, hb, -, -, hown, -, hts, hex, -, hro, hK, -⟩ := F
  exact vk_getf hx0 hb (hro.2.2.2.1 j (by omega)).2.1 hS hown (hts _ (xro1 hf).1) (fun _ h => h) hd h
theorem xbyt_r : ∀ i, i < 4 → ∀ j, j < 4 → xr (xbyt i j) ∧ (([[], [119, 108, 118], [119, 115, 121]] : List (List Int32)).getD (i - 1) []).getD j 0 = Int32.ofInt (xbyt i j) := by decide +kernel
theorem xblen_r : ∀ i, i < 4 → 1 ≤ i → (xblen i = (([0, 3, 3] : List Nat).getD (i - 1) 0 : Int)) ∧ xblen i ≤ 3 := by decide +kernel
theorem xo_bload (F : xFix p s m args meth c M A ad D) {pc : Nat} {L r : List xV} {σ : xM} {i : Nat} {x : Int} (hd : decode (xy M).2.1 pc = .ok (.baload, 1)) (hx : 0 ≤ x ∧ x < xblen i)
    (k : xNx p l e R s m args below meth c cells slots Q M A ad ca D cnt ρ (pc + 1) L (vI (xbyt i x.toNat) :: r) σ) : xNx p l e R s m args below meth c cells slots Q M A ad ca D cnt ρ pc L (vI x :: vR 2 i :: r) σ := by
  intro H locs ls hW hS hL hs
  obtain ⟨hxx, hs1⟩ := xoks_c.mp hs
  obtain ⟨ho, hr⟩ := xoks_c.mp hs1
  have hi := xok_2 ho
  obtain ⟨e1, e2⟩ := xblen_r i (by omega) hi.1
  obtain ⟨f1, f2⟩ := xbyt_r i (by omega) x.toNat (by omega)
  have h := k H locs ls hW hS hL (xoks_c.mpr ⟨f1, hr⟩)
  obtain ⟨j, rfl⟩ : ∃ j, i = j + 1 := ⟨i - 1, by omega⟩
  obtain ⟨hx0, hb, -, -, hown, -, hts, hex, -, hro, hK, -⟩ := F
  refine va_tb (v := .int (Int32.ofInt (xbyt (j + 1) x.toNat))) hx0 hb (hro.2.2.2.1 j (by omega)).2.2.2 hS (xn_in hx.1 (by rw [e1] at hx; exact hx.2) hxx) ?_ hd h
  rw [xn_nat hx.1 hxx, ← f2]
  rfl
theorem xo_blen (F : xFix p s m args meth c M A ad D) {pc : Nat} {L r : List xV} {σ : xM} {i : Nat} (hd : decode (xy M).2.1 pc = .ok (.arraylength, 1))
    (k : xNx p l e R s m args below meth c cells slots Q M A ad ca D cnt ρ (pc + 1) L (vI (xblen i) :: r) σ) : xNx p l e R s m args below meth c cells slots Q M A ad ca D cnt ρ pc L (vR 2 i :: r) σ := by
  intro H locs ls hW hS hL hs
  obtain ⟨ho, hr⟩ := xoks_c.mp hs
  have hi := xok_2 ho
  obtain ⟨e1, e2⟩ := xblen_r i (by omega) hi.1
  have h := k H locs ls hW hS hL (xoks_c.mpr ⟨(show xr (xblen i) from ⟨by rw [e1]; omega, by omega⟩), hr⟩)
  obtain ⟨j, rfl⟩ : ∃ j, i = j + 1 := ⟨i - 1, by omega⟩
  obtain ⟨hx0, hb, -, -, hown, -, hts, hex, -, hro, hK, -⟩ := F
  exact va_tlen (v := Int32.ofInt (xblen (j + 1))) hx0 hb (hro.2.2.2.1 j (by omega)).2.2.2 hS (by rw [e1]; exact xn_ofn _) hd h
theorem xabv_r : ∀ j, j < 7 → xr (xabv j) := by decide +kernel
theorem xo_iloadA (F : xFix p s m args meth c M A ad D) {pc : Nat} {L r : List xV} {σ : xM} {i : Nat} {x : Int} (hd : decode (xy M).2.1 pc = .ok (.iaload, 1)) (hx : 0 ≤ x ∧ x < xlen 3)
    (k : xNx p l e R s m args below meth c cells slots Q M A ad ca D cnt ρ (pc + 1) L (vI (xabv x.toNat) :: r) σ) : xNx p l e R s m args below meth c cells slots Q M A ad ca D cnt ρ pc L (vI x :: vR 3 i :: r) σ := by
  intro H locs ls hW hS hL hs
  obtain ⟨hxx, hs1⟩ := xoks_c.mp hs
  obtain ⟨ho, hr⟩ := xoks_c.mp hs1
  obtain rfl := xok_3 ho
  have e7 : xlen 3 = 7 := rfl
  rw [e7] at hx
  have h := k H locs ls hW hS hL (xoks_c.mpr ⟨xabv_r _ (by omega), hr⟩)
  obtain ⟨hx0, hb, -, -, hown, -, hts, hex, -, hro, hK, -⟩ := F
  exact va_ti (v := .int (Int32.ofInt (xabv x.toNat))) hx0 hb hro.2.1 hS (xn_in hx.1 hx.2 hxx) (by rw [xn_nat hx.1 hxx]) hd h
theorem xo_gsA (F : xFix p s m args meth c M A ad D) {pc x : Nat} {L r : List xV} {σ : xM} (hd : decode (xy M).2.1 pc = .ok (.getstatic x, 3)) (hf : xsta (xrec M).1 x = some true)
    (k : xNx p l e R s m args below meth c cells slots Q M A ad ca D cnt ρ (pc + 3) L (vR 3 0 :: r) σ) : xNx p l e R s m args below meth c cells slots Q M A ad ca D cnt ρ pc L r σ := by
  intro H locs ls hW hS hL hs
  have h := k H locs ls hW hS hL (xoks_c.mpr ⟨Or.inr (Or.inr (Or.inr (Or.inl ⟨rfl, rfl⟩))), hs⟩)
  obtain ⟨hx0, hb, -, -, hown, -, hts, hex, -, hro, hK, -⟩ := F
  exact va_getsN hx0 hb hro.1 hS hown (va_Nw.use rfl (hex.1 _ (xnest_f (xsta_w hf)))) (fun _ h => h) hd h
theorem xo_gsC (F : xFix p s m args meth c M A ad D) {pc x : Nat} {L r : List xV} {σ : xM} (hd : decode (xy M).2.1 pc = .ok (.getstatic x, 3)) (hf : xsta (xrec M).1 x = some false)
    (k : xNx p l e R s m args below meth c cells slots Q M A ad ca D cnt ρ (pc + 3) L (vI 1 :: r) σ) : xNx p l e R s m args below meth c cells slots Q M A ad ca D cnt ρ pc L r σ := by
  intro H locs ls hW hS hL hs
  have h := k H locs ls hW hS hL (xoks_c.mpr ⟨(show xr 1 from ⟨by decide, by decide⟩), hs⟩)
  obtain ⟨hx0, hb, -, -, hown, -, hts, hex, -, hro, hK, -⟩ := F
  exact va_gets hx0 hb hro.2.2.1 hS hown (hts _ (xGT_m (xsta_w hf) rfl)) (fun _ h => h) hd h
theorem xcats {r : List xV} (h : xnl r = true) : ((r.map (xcv ad)).map fun v => v.category).sum = r.length := by
  induction r with
  | nil => rfl
  | cons a r ih =>
    have ha : ∀ z, a ≠ vL z := by
      rintro z rfl
      cases h
    have hr : xnl r = true := by
      rcases a with x | x | q
      · exact h
      · cases h
      · exact h
    rw [List.map_cons, List.map_cons, List.sum_cons, ih hr, xcat1 ha, List.length_cons]
    omega
theorem xrs_sum {r : List xV} (h : xrs r = true) : ((r.map (xcv ad)).map fun v => v.category).sum ≤ 8 := by
  simp only [xrs, Bool.and_eq_true] at h
  rw [xcats h.1]
  exact Nat.le_of_ble_eq_true h.2
theorem xo_max (F : xFix p s m args meth c M A ad D) {pc x : Nat} {L r : List xV} {σ : xM} {a b : Int} (hd : decode (xy M).2.1 pc = .ok (.invokestatic x, 3)) (hc : xcal (xrec M).1 x = some (999, 7)) (hr8 : xrs r = true) (hRf : 1 ≤ R.frames) (hRl : 40 ≤ R.locals) (h1 : cells ≤ R.cells) (h2 : slots ≤ R.slots)
    (k : xNx p l e R s m args below meth c cells slots Q M A ad ca D cnt ρ (pc + 3) L (vI (if a < b then b else a) :: r) σ) : xNx p l e R s m args below meth c cells slots Q M A ad ca D cnt ρ pc L (vI b :: vI a :: r) σ := by
  intro H locs ls hW hS hL hs
  obtain ⟨hb0, hs1⟩ := xoks_c.mp hs
  obtain ⟨ha0, hr⟩ := xoks_c.mp hs1
  have h := k H locs ls hW hS hL (xoks_c.mpr ⟨(by by_cases q : a < b <;> simp only [q, if_true, if_false] <;> assumption), hr⟩)
  have hw := (xcal_w hc).1
  have hsum := xrs_sum (ad := ad) hr8
  obtain ⟨hx0, hb, hml, -, hown, -, hts, hex, -, hro, hK, -⟩ := F
  have e : (if Int32.ofInt a < Int32.ofInt b then Int32.ofInt b else Int32.ofInt a) = Int32.ofInt (if a < b then b else a) := by
    by_cases q : a < b
    · rw [if_pos ((xn_lt ha0 hb0).mpr q), if_pos q]
    · rw [if_neg (fun z => q ((xn_lt ha0 hb0).mp z)), if_neg q]
  refine va_mmax hx0 hb (by rw [hml]; exact hL.1.symm) hown (hts _ (xGT_m hw rfl)) (hts _ xw_max_static) (hts _ xw_math) (hts _ xw_max_code) hRf (by omega) h1 h2 hd ?_
  rw [e]
  exact h
theorem xo_min (F : xFix p s m args meth c M A ad D) {pc x : Nat} {L r : List xV} {σ : xM} {a b : Int} (hd : decode (xy M).2.1 pc = .ok (.invokestatic x, 3)) (hc : xcal (xrec M).1 x = some (999, 8)) (hr8 : xrs r = true) (hRf : 1 ≤ R.frames) (hRl : 40 ≤ R.locals) (h1 : cells ≤ R.cells) (h2 : slots ≤ R.slots)
    (k : xNx p l e R s m args below meth c cells slots Q M A ad ca D cnt ρ (pc + 3) L (vI (if b < a then b else a) :: r) σ) : xNx p l e R s m args below meth c cells slots Q M A ad ca D cnt ρ pc L (vI b :: vI a :: r) σ := by
  intro H locs ls hW hS hL hs
  obtain ⟨hb0, hs1⟩ := xoks_c.mp hs
  obtain ⟨ha0, hr⟩ := xoks_c.mp hs1
  have h := k H locs ls hW hS hL (xoks_c.mpr ⟨(by by_cases q : b < a <;> simp only [q, if_true, if_false] <;> assumption), hr⟩)
  have hw := (xcal_w hc).1
  have hsum := xrs_sum (ad := ad) hr8
  obtain ⟨hx0, hb, hml, -, hown, -, hts, hex, -, hro, hK, -⟩ := F
  have e : (if Int32.ofInt b < Int32.ofInt a then Int32.ofInt b else Int32.ofInt a) = Int32.ofInt (if b < a then b else a) := by
    by_cases q : b < a
    · rw [if_pos ((xn_lt hb0 ha0).mpr q), if_pos q]
    · rw [if_neg (fun z => q ((xn_lt hb0 ha0).mp z)), if_neg q]
  refine va_mmin hx0 hb (by rw [hml]; exact hL.1.symm) hown (hts _ (xGT_m hw rfl)) (hts _ xw_min_static) (hts _ xw_math) (hts _ xw_min_code) hRf (by omega) h1 h2 hd ?_
  rw [e]
  exact h
theorem xo_copy (F : xFix p s m args meth c M A ad D) {pc x : Nat} {L r : List xV} {σ : xM} {ta ia tb ib : Nat} {sp dp n : Int} (hd : decode (xy M).2.1 pc = .ok (.invokestatic x, 3)) (hc : xcal (xrec M).1 x = some (999, 6)) (hr8 : xrs r = true) (hRf : 1 ≤ R.frames) (hRl : 40 ≤ R.locals)
    (hka : xkind ta = 2) (hkb : xkind tb = 2) (hh : 0 ≤ sp ∧ 0 ≤ dp ∧ 0 ≤ n ∧ sp + n ≤ xlen ta ∧ dp + n ≤ xlen tb)
    (k : xNx p l e R s m args below meth c cells slots Q M A ad ca D cnt ρ (pc + 3) L r (xcpy σ ta ia sp.toNat tb ib dp.toNat n.toNat)) : xNx p l e R s m args below meth c cells slots Q M A ad ca D cnt ρ pc L (vI n :: vI dp :: vR tb ib :: vI sp :: vR ta ia :: r) σ := by
  intro H locs ls hW hS hL hs
  obtain ⟨hn0, hs⟩ := xoks_c.mp hs
  obtain ⟨hd0, hs⟩ := xoks_c.mp hs
  obtain ⟨hob, hs⟩ := xoks_c.mp hs
  obtain ⟨hs0, hs⟩ := xoks_c.mp hs
  obtain ⟨hoa, hr⟩ := xoks_c.mp hs
  have hva := xok_vd hoa (by rw [hka]; decide)
  have hvb := xok_vd hob (by rw [hkb]; decide)
  obtain ⟨ka, -, hea⟩ := xW_idx (ad := ad) (ca := ca) (ρ := ρ) (σ := σ) hva
  obtain ⟨kb, hkb1, heb⟩ := xW_idx (ad := ad) (ca := ca) (ρ := ρ) (σ := σ) hvb
  rw [xE_i (by rw [hka]; decide) (by rw [hka]; decide)] at hea
  rw [xE_i (by rw [hkb]; decide) (by rw [hkb]; decide)] at heb
  have hw := (xcal_w hc).1
  have hsum := xrs_sum (ad := ad) hr8
  obtain ⟨ela, -⟩ := xlen_ok (t := ta) (by rw [hka]; decide)
  obtain ⟨elb, -⟩ := xlen_ok (t := tb) (by rw [hkb]; decide)
  have e1 := xn_nat hh.1 hs0
  have e2 := xn_nat hh.2.1 hd0
  have e3 := xn_nat hh.2.2.1 hn0
  have hKK : va_K D xcl [(ca ta ia, .int), (ca tb ib, .int)] s := by
    have h1 := xKa F hW hva (by rw [hka]; decide)
    have h2 := xKa F hW hvb (by rw [hkb]; decide)
    rw [xarr_2 hka] at h1
    rw [xarr_2 hkb] at h2
    exact h1.app h2
  have neg : ∀ {z : Int}, 0 ≤ z → xr z → ¬ Int32.ofInt z < 0 := fun h0 hz q => by
    rw [xn_0, xn_lt hz xn_r0] at q
    omega
  have hnat : (nativeFrameWords "java/lang/System" "arraycopy" 5) ≤ 20 := by decide +kernel
  simp only [List.map_cons, xcv_R (ad := ad) (xb0 (t := ta) (by rw [hka]; decide)), xcv_R (ad := ad) (xb0 (t := tb) (by rw [hkb]; decide)), show ∀ z, xcv ad (vI z) = .int (Int32.ofInt z) from fun _ => rfl]
  obtain ⟨hx0, hb, hml, -, hown, -, hts, hex, -, hro, hK, -⟩ := F
  refine va_copyi hx0 hb (by rw [hml]; exact hL.1.symm) hown (hts _ (xGT_m hw rfl)) (hts _ xw_ac_native) (hts _ xw_ac_static) (hts _ xw_sys) hKK hW.P hW.Dd hS ka kb 0 1 hea heb (ty := .int) rfl rfl rfl (neg hh.1 hs0) (neg hh.2.1 hd0) (neg hh.2.2.1 hn0) (by rw [e1, e3]; omega) (by rw [e2, e3]; omega) (fun _ _ => rfl) hRf (by omega) hd (fun H1 locs1 hP1 _ hS1 => ?_)
  refine k H1 locs1 ls (hW.set hvb hkb1 hP1 ?_ (fun t' i' hne => xE_congr (fun j => ?_)) (xrg_cpy hW.2.2.2.1)) hS1 hL hr
  · rw [xE_i (by rw [hkb]; decide) (by rw [hkb]; decide), e1, e2, e3]
    congr 4
    funext j
    unfold xcpy va_cpy
    by_cases hj : dp.toNat ≤ j ∧ j < dp.toNat + n.toNat
    · rw [if_pos ⟨rfl, rfl, hj⟩, if_pos hj]
    · rw [if_neg (fun q => hj q.2.2), if_neg hj]
  · unfold xcpy
    rw [if_neg]
    rintro ⟨rfl, rfl, -⟩
    exact hne rfl
end XI
end
section
/-! CALLS AND ENDS -/
theorem xN_ch {P : Nat → Prop} (h : ∀ j, j < 15 → ∀ k, k < 16 → 16 * j + k < xN → P (16 * j + k)) {M : Nat} (hM : M < xN) : P M := by
  have h1 := h (M / 16) (by show M / 16 < 15; have : M < 229 := hM; omega) (M % 16) (Nat.mod_lt _ (by decide)) (by rw [Nat.div_add_mod]; exact hM)
  rwa [Nat.div_add_mod] at h1
theorem xchM_all {M : Nat} (hM : M < xN) : xchM M = true := by
  refine xN_ch (P := fun M => xchM M = true) (fun j hj k hk hlt => ?_) hM
  have fin : ∀ {n : Nat}, (List.range 16).all (fun k => xchM (n + k) || Nat.ble xN (n + k)) = true → n + k < xN → xchM (n + k) = true := by
    intro n h hlt
    have h1 := List.all_eq_true.mp h k (List.mem_range.mpr hk)
    rcases Bool.or_eq_true _ _ ▸ h1 with h2 | h2
    · exact h2
    · exact absurd (Nat.le_of_ble_eq_true h2) (by omega)
  rcases (show j = 0 ∨ j = 1 ∨ j = 2 ∨ j = 3 ∨ j = 4 ∨ j = 5 ∨ j = 6 ∨ j = 7 ∨ j = 8 ∨ j = 9 ∨ j = 10 ∨ j = 11 ∨ j = 12 ∨ j = 13 ∨ j = 14 by omega) with rfl | rfl | rfl | rfl | rfl | rfl | rfl | rfl | rfl | rfl | rfl | rfl | rfl | rfl | rfl
  · exact fin xchM_0 hlt
  · exact fin xchM_1 hlt
  · exact fin xchM_2 hlt
  · exact fin xchM_3 hlt
  · exact fin xchM_4 hlt
  · exact fin xchM_5 hlt
  · exact fin xchM_6 hlt
  · exact fin xchM_7 hlt
  · exact fin xchM_8 hlt
  · exact fin xchM_9 hlt
  · exact fin xchM_10 hlt
  · exact fin xchM_11 hlt
  · exact fin xchM_12 hlt
  · exact fin xchM_13 hlt
  · exact fin xchM_14 hlt
theorem xcodeP_all {M : Nat} (hM : M < xN) : xcodeW M ∈ xGT := by
  refine xN_ch (P := fun M => xcodeW M ∈ xGT) (fun j hj k hk hlt => ?_) hM
  have fin : ∀ {n : Nat}, (List.range 16).all (fun k => decide (lw_tbl[(xmp (n + k)).1]? = some (xcodeW (n + k))) || Nat.ble xN (n + k)) = true → n + k < xN → xcodeW (n + k) ∈ xGT := by
    intro n h hlt
    have h1 := List.all_eq_true.mp h k (List.mem_range.mpr hk)
    rcases Bool.or_eq_true _ _ ▸ h1 with h2 | h2
    · exact xGT_in _ (of_decide_eq_true h2) rfl
    · exact absurd (Nat.le_of_ble_eq_true h2) (by omega)
  rcases (show j = 0 ∨ j = 1 ∨ j = 2 ∨ j = 3 ∨ j = 4 ∨ j = 5 ∨ j = 6 ∨ j = 7 ∨ j = 8 ∨ j = 9 ∨ j = 10 ∨ j = 11 ∨ j = 12 ∨ j = 13 ∨ j = 14 by omega) with rfl | rfl | rfl | rfl | rfl | rfl | rfl | rfl | rfl | rfl | rfl | rfl | rfl | rfl | rfl
  · exact fin xcodeP_0 hlt
  · exact fin xcodeP_1 hlt
  · exact fin xcodeP_2 hlt
  · exact fin xcodeP_3 hlt
  · exact fin xcodeP_4 hlt
  · exact fin xcodeP_5 hlt
  · exact fin xcodeP_6 hlt
  · exact fin xcodeP_7 hlt
  · exact fin xcodeP_8 hlt
  · exact fin xcodeP_9 hlt
  · exact fin xcodeP_10 hlt
  · exact fin xcodeP_11 hlt
  · exact fin xcodeP_12 hlt
  · exact fin xcodeP_13 hlt
  · exact fin xcodeP_14 hlt
theorem xna_all : (List.range xN).all (fun M => Nat.ble (xrec M).2.2.2.2 (xrec M).2.1 && Nat.ble (xrec M).2.1 9) = true := by decide +kernel
theorem xna {M : Nat} (hM : M < xN) : (xrec M).2.2.2.2 ≤ (xrec M).2.1 ∧ (xrec M).2.1 ≤ 9 := by
  have h := List.all_eq_true.mp xna_all M (List.mem_range.mpr hM)
  simp only [Bool.and_eq_true] at h
  exact ⟨Nat.le_of_ble_eq_true h.1, Nat.le_of_ble_eq_true h.2⟩
/-- what the tables say of a method: static; an instance's; both -/
theorem xm_s {M : Nat} (hM : M < xN) (h0 : (xrec M).2.2.2.1 = 0) : Cond.static (xy M).1 ∈ xGT ∧ (parseMethodDescriptor (xy M).1.desc).map (fun d => d.parameters.length) = some (xrec M).2.2.2.2 := by
  have h := xchM_all hM
  simp only [xchM, h0, Bool.and_eq_true, decide_eq_true_eq] at h
  obtain ⟨⟨⟨⟨⟨⟨⟨⟨⟨⟨⟨h1, h2⟩, h3⟩, h4⟩, h5⟩, h6⟩, h7⟩, h8⟩, h9⟩, h10⟩, h11⟩, h12⟩ := h
  exact ⟨xGT_in _ h1 rfl, h8⟩
theorem xm_i {M t : Nat} (hM : M < xN) (h0 : (xrec M).2.2.2.1 = t + 1) : Cond.instanceMethod (xy M).1 ∈ xGT ∧ ((xy M).1.name ≠ "<init>" → Cond.selects (xy M).1.cls (xy M).1 (xy M).1 ∈ xGT) ∧ (parseMethodDescriptor (xy M).1.desc).map (fun d => d.parameters.length) = some ((xrec M).2.2.2.2 - 1) ∧ xCt (t + 1) = (xy M).1.cls ∧ 0 < (xrec M).2.2.2.2 ∧ (xkind (t + 1) = 1 ∨ t + 1 = 1) := by
  have h := xchM_all hM
  simp only [xchM, h0, show Nat.beq (t + 1) 0 = false from rfl, Bool.false_or, Bool.and_eq_true, decide_eq_true_eq] at h
  obtain ⟨⟨⟨⟨⟨⟨⟨⟨⟨⟨⟨h1, h2⟩, h3⟩, h4⟩, h5⟩, h6⟩, h7⟩, h8⟩, h9⟩, h10⟩, h11⟩, h12⟩ := h
  refine ⟨xGT_in _ h1 rfl, fun hn => ?_, h8, h6, Nat.le_of_ble_eq_true h12.1, ?_⟩
  · rcases Bool.or_eq_true _ _ ▸ h2 with h | h
    · exact absurd (of_decide_eq_true h) hn
    · exact xGT_in _ (of_decide_eq_true h) rfl
  · rcases Bool.or_eq_true _ _ ▸ h12.2 with h | h
    · exact Or.inl (Nat.eq_of_beq_eq_true h)
    · exact Or.inr (Nat.eq_of_beq_eq_true h)
theorem xm_a {M : Nat} (hM : M < xN) : Cond.initialized (xy M).1.cls ∈ xGT ∧ xrkOk M = true ∧ (xy M).1.cls = xow M ∧ ((xy M).1.cls ≠ "java/lang/invoke/MethodHandle" ∧ (xy M).1.cls ≠ "java/lang/invoke/VarHandle") ∧ plainName (xy M).1.cls = true := by
  have h := xchM_all hM
  simp only [xchM, Bool.and_eq_true, decide_eq_true_eq] at h
  obtain ⟨⟨⟨⟨⟨⟨⟨⟨⟨⟨⟨h1, h2⟩, h3⟩, h4⟩, h5⟩, h6⟩, h7⟩, h8⟩, h9⟩, h10⟩, h11⟩, h12⟩ := h
  exact ⟨xGT_in _ h3 rfl, h4, h5, h7, h9⟩
theorem xrk_0 {M : Nat} (h : xrkOk M = true) (h0 : (xrec M).2.2.1 = 0) : (xy M).2.2 = none := by
  unfold xrkOk at h
  rw [h0] at h
  cases hr : (xy M).2.2 with
  | none => rfl
  | some t => rw [hr] at h; cases t <;> cases h
theorem xrk_n {M : Nat} (h : xrkOk M = true) : ((xrec M).2.2.1 = 1 → (xy M).2.2 = some .int) ∧ ((xrec M).2.2.1 = 2 → (xy M).2.2 = some .boolean) ∧ ((xrec M).2.2.1 = 3 → (xy M).2.2 = some .byte) := by
  refine ⟨fun h0 => ?_, fun h0 => ?_, fun h0 => ?_⟩ <;>
  · unfold xrkOk at h
    rw [h0] at h
    cases hr : (xy M).2.2 with
    | none => rw [hr] at h; cases h
    | some t => rw [hr] at h; cases t <;> first | rfl | cases h
theorem xgoodIn {ws : List Cond} (h : ∀ w ∈ ws, w ∈ xGT) : GoodIn xGT ws := fun w hw => ⟨h w hw, xGT_good w (h w hw)⟩
def xws (M : Nat) : List Cond := xcodeW M :: xGT
theorem xws_in {M : Nat} (hM : M < xN) : ∀ w ∈ xws M, w ∈ xGT := by
  intro w hw
  rcases List.mem_cons.mp hw with rfl | h
  · exact xcodeP_all hM
  · exact h
/-- a method's cells: the world's, and new ones -/
def xAs (ad : Nat → Nat → Nat) (cnt : Nat → Nat) (sz : Nat) : Nat → Prop := fun q => (∃ t i, xvd cnt t i ∧ q = ad t i) ∨ sz ≤ q
/-- what a method finds -/
def xPre (D : va_G) (ad : Nat → Nat → Nat) (ca : Nat → Nat → ClassId) (sz : Nat) (σ : xM) (as : List xV) (U : State) : Prop :=
  U.heap.size = sz ∧ xWd D ad ca xcnt xrho σ (xAs ad xcnt sz) U U.heap ∧ va_K D xcl [] U ∧ xEx ad U ∧ xROk ad (xAs ad xcnt sz) U U.heap ∧ xoks xcnt as
/-- a method's contract -/
def xMet (l : Launch) (d k : Nat) (as : List xV) (σ : xM) (Q : Int → xM → Prop) : Prop := ∀ (D : va_G) (ad : Nat → Nat → Nat) (ca : Nat → Nat → ClassId) (sz : Nat),
  Met l (xy k).1 (xws k) (xroom d 0 0) (va_Pc (as.map (xcv ad)) (xPre D ad ca sz σ as)) (xQc (xvoid k) Q (fun σ' t => xWd D ad ca xcnt xrho σ' (xAs ad xcnt sz) t t.heap) (xAs ad xcnt sz)) 0 0 (xAs ad xcnt sz)
theorem va_OF.movedX {o n d : String} {v : Value} {t : Nat} {A : Nat → Prop} {u U : State} {H : Heap} (hvm : u.vm.Alike U.vm) (h : va_OF o n d v t A u H) : va_OF o n d v t A U H := va_OF.moved hvm h
theorem xROk.moved {ad : Nat → Nat → Nat} {A : Nat → Prop} {u U : State} {H : Heap} (hvm : u.vm.Alike U.vm) (h : xROk ad A u H) : xROk ad A U H := ⟨h.1.moved hvm, h.2.1.moved hvm, h.2.2.1.moved hvm, h.2.2.2.moved hvm⟩
theorem xROk.kept {ad : Nat → Nat → Nat} {A : Nat → Prop} {U : State} {H H1 : Heap} (h : xROk ad A U H) (hq : ∀ a : Nat, a < H.size → ¬ A a → H1[a]? = H[a]?) : xROk ad A U H1 := ⟨h.1.kept hq, h.2.1.kept hq, h.2.2.1.kept hq, h.2.2.2.kept hq⟩
theorem xROk.narrow {ad : Nat → Nat → Nat} {A B : Nat → Prop} {U : State} {H : Heap} (h : xROk ad A U H) (hAB : ∀ q, B q → A q) : xROk ad B U H := ⟨h.1.narrow hAB, h.2.1.narrow hAB, h.2.2.1.narrow hAB, h.2.2.2.narrow hAB⟩
theorem xnest_c {w : Cond} (h : w ∈ xnest) : (∃ a i b n d e, w = .fieldLinkNest a i b n d e) ∨ ∃ a i y e, w = .methodLinkNest a i y e := by
  have h1 := (List.mem_filter.mp h).2
  cases w <;> first | exact Or.inl ⟨_, _, _, _, _, _, rfl⟩ | exact Or.inr ⟨_, _, _, _, rfl⟩ | cases h1
theorem xAOa.warm {s U : State} (hvm : s.vm.Alike U.vm) (h : xAOa s) : xAOa U := by
  obtain ⟨cA, comp, kA, h1, h2, h3, h4⟩ := h
  obtain ⟨k', hk', he⟩ := hvm.2.2 _ _ h2
  exact ⟨cA, comp, k', by rw [hvm.findClass]; exact h1, hk', by rw [he]; exact h3, by rw [hvm.findClass]; exact h4⟩
theorem xEx.warm {ad : Nat → Nat → Nat} {s U : State} (hW : s.WarmedH U.vm) (h : xEx ad s) : xEx ad U := by
  refine ⟨fun w hw => ?_, fun C hC => (h.2.1 C hC).moved hW.alike, xAOa.warm hW.alike h.2.2.1, fun q hq => (h.2.2.2 q hq).warm hW⟩
  have h1 := h.1 w hw
  rcases xnest_c hw with ⟨a, i, b, n, d, e, rfl⟩ | ⟨a, i, y, e, rfl⟩
  · exact va_Nw.warmF hW h1
  · exact va_Nw.warmM hW h1
theorem xEx.same {ad : Nat → Nat → Nat} {u U : State} (hv : u.vm = U.vm) (h : xEx ad u) : xEx ad U := by
  refine ⟨fun w hw => ?_, fun C hC => (h.2.1 C hC).moved (by rw [hv]; exact Vm.Alike.refl _), xAOa.warm (by rw [hv]; exact Vm.Alike.refl _) h.2.2.1, fun q hq => (h.2.2.2 q hq).same hv.symm⟩
  have h1 := h.1 w hw
  rcases xnest_c hw with ⟨a, i, b, n, d, e, rfl⟩ | ⟨a, i, y, e, rfl⟩
  · exact va_Nw.same rfl hv h1
  · exact va_Nw.same rfl hv h1
theorem xPre.blind {D : va_G} {ad : Nat → Nat → Nat} {ca : Nat → Nat → ClassId} {sz : Nat} {σ : xM} {as : List xV} : FrameBlind (va_Pc (as.map (xcv ad)) (xPre D ad ca sz σ as)) := by
  rintro a U g mk ⟨e, h1, h2, h3, h4, h5, h6⟩
  exact ⟨e, h1, h2.moved (U := U.calling g mk a) (Vm.Alike.refl U.vm) (fun _ _ _ h => h), va_K.moved (u := U) (U := U.calling g mk a) (Vm.Alike.refl U.vm) h3, h4.same (u := U) (U := U.calling g mk a) rfl, h5.moved (U := U.calling g mk a) (Vm.Alike.refl U.vm), h6⟩
end
section
/-! every instruction of every method: it decodes, and its numbers fit -/
def xdecOk (M : Nat) : Bool := (xcodeOf M).all (fun q => decide (decode (xy M).2.1 q.1 = .ok (q.2.1, q.2.2)))
theorem xdec_0 : ∀ k, k < 16 → 16 * 0 + k < xN → xdecOk (16 * 0 + k) = true := by
  intro k hk hlt
  rcases (show k = 0 ∨ k = 1 ∨ k = 2 ∨ k = 3 ∨ k = 4 ∨ k = 5 ∨ k = 6 ∨ k = 7 ∨ k = 8 ∨ k = 9 ∨ k = 10 ∨ k = 11 ∨ k = 12 ∨ k = 13 ∨ k = 14 ∨ k = 15 by omega) with rfl | rfl | rfl | rfl | rfl | rfl | rfl | rfl | rfl | rfl | rfl | rfl | rfl | rfl | rfl | rfl
  · exact xd_P_init
  · exact xd_P_part
  · exact xd_P_partIs
  · exact xd_P_become
  · exact xd_P_as
  · exact xd_P_child
  · exact xd_P_childIs
  · exact xd_P_wishes
  · exact xd_P_falls
  · exact xd_P_worth
  · exact xd_P_cast
  · exact xd_P_feed
  · exact xd_P_text
  · exact xd_P_untell
  · exact xd_P_law
  · exact xd_P_play
theorem xdec_1 : ∀ k, k < 16 → 16 * 1 + k < xN → xdecOk (16 * 1 + k) = true := by
  intro k hk hlt
  rcases (show k = 0 ∨ k = 1 ∨ k = 2 ∨ k = 3 ∨ k = 4 ∨ k = 5 ∨ k = 6 ∨ k = 7 ∨ k = 8 ∨ k = 9 ∨ k = 10 ∨ k = 11 ∨ k = 12 ∨ k = 13 ∨ k = 14 ∨ k = 15 by omega) with rfl | rfl | rfl | rfl | rfl | rfl | rfl | rfl | rfl | rfl | rfl | rfl | rfl | rfl | rfl | rfl
  · exact xd_P_lots
  · exact xd_P_loose
  · exact xd_P_seed
  · exact xd_P_best
  · exact xd_P_wished
  · exact xd_P_without
  · exact xd_P_lies
  · exact xd_P_odds
  · exact xd_P_fits
  · exact xd_P_voice
  · exact xd_P_body
  · exact xd_P_sheet
  · exact xd_P_put
  · exact xd_P_move
  · exact xd_P_casts
  · exact xd_P_judge
theorem xdec_2 : ∀ k, k < 16 → 16 * 2 + k < xN → xdecOk (16 * 2 + k) = true := by
  intro k hk hlt
  rcases (show k = 0 ∨ k = 1 ∨ k = 2 ∨ k = 3 ∨ k = 4 ∨ k = 5 ∨ k = 6 ∨ k = 7 ∨ k = 8 ∨ k = 9 ∨ k = 10 ∨ k = 11 ∨ k = 12 ∨ k = 13 ∨ k = 14 ∨ k = 15 by omega) with rfl | rfl | rfl | rfl | rfl | rfl | rfl | rfl | rfl | rfl | rfl | rfl | rfl | rfl | rfl | rfl
  · exact xd_P_image
  · exact xd_P_restore
  · exact xd_P_tell
  · exact xd_P_check
  · exact xd_P_count
  · exact xd_P_told
  · exact xd_P_fail
  · exact xd_P_isWithin
  · exact xd_P_isKindAndNumber
  · exact xd_P_isUse
  · exact xd_P_isSheet
  · exact xd_P_commonDivisor
  · exact xd_P_held
  · exact xd_S_init
  · exact xd_S_copyFrom
  · exact xd_S_hasPart
theorem xdec_3 : ∀ k, k < 16 → 16 * 3 + k < xN → xdecOk (16 * 3 + k) = true := by
  intro k hk hlt
  rcases (show k = 0 ∨ k = 1 ∨ k = 2 ∨ k = 3 ∨ k = 4 ∨ k = 5 ∨ k = 6 ∨ k = 7 ∨ k = 8 ∨ k = 9 ∨ k = 10 ∨ k = 11 ∨ k = 12 ∨ k = 13 ∨ k = 14 ∨ k = 15 by omega) with rfl | rfl | rfl | rfl | rfl | rfl | rfl | rfl | rfl | rfl | rfl | rfl | rfl | rfl | rfl | rfl
  · exact xd_S_hasPartOrNone
  · exact xd_S_hasChild
  · exact xd_S_mayPlay
  · exact xd_S_holderOf
  · exact xd_S_childrenFor
  · exact xd_S_partsFor
  · exact xd_S_given
  · exact xd_S_worthOf
  · exact xd_S_worthIfDear
  · exact xd_S_joyOf
  · exact xd_S_theyPlay
  · exact xd_S_drawLots
  · exact xd_S_partAt
  · exact xd_S_castByLots
  · exact xd_S_castByRow
  · exact xd_S_rightInRow
theorem xdec_4 : ∀ k, k < 16 → 16 * 4 + k < xN → xdecOk (16 * 4 + k) = true := by
  intro k hk hlt
  rcases (show k = 0 ∨ k = 1 ∨ k = 2 ∨ k = 3 ∨ k = 4 ∨ k = 5 ∨ k = 6 ∨ k = 7 ∨ k = 8 ∨ k = 9 ∨ k = 10 ∨ k = 11 ∨ k = 12 ∨ k = 13 ∨ k = 14 ∨ k = 15 by omega) with rfl | rfl | rfl | rfl | rfl | rfl | rfl | rfl | rfl | rfl | rfl | rfl | rfl | rfl | rfl | rfl
  · exact xd_R_init
  · exact xd_R_turnInto
  · exact xd_R_copyFrom
  · exact xd_R_isOf
  · exact xd_R_suits
  · exact xd_R_lines
  · exact xd_C_init
  · exact xd_C_startAs
  · exact xd_C_copyFrom
  · exact xd_C_valueOf
  · exact xd_C_dear
  · exact xd_C_wishSet
  · exact xd_T_init
  · exact xd_T_add
  · exact xd_T_copyFrom
  · exact xd_T_workOut
theorem xdec_5 : ∀ k, k < 16 → 16 * 5 + k < xN → xdecOk (16 * 5 + k) = true := by
  intro k hk hlt
  rcases (show k = 0 ∨ k = 1 ∨ k = 2 ∨ k = 3 ∨ k = 4 ∨ k = 5 ∨ k = 6 ∨ k = 7 ∨ k = 8 ∨ k = 9 ∨ k = 10 ∨ k = 11 ∨ k = 12 ∨ k = 13 ∨ k = 14 ∨ k = 15 by omega) with rfl | rfl | rfl | rfl | rfl | rfl | rfl | rfl | rfl | rfl | rfl | rfl | rfl | rfl | rfl | rfl
  · exact xd_T_named
  · exact xd_T_apply
  · exact xd_D_init
  · exact xd_D_read
  · exact xd_D_failHere
  · exact xd_D_next
  · exact xd_D_isDigit
  · exact xd_D_levelOf
  · exact xd_D_readLevel
  · exact xd_D_readFactor
  · exact xd_D_readClosing
  · exact xd_D_readNumber
  · exact xd_A_init
  · exact xd_A_weighByWorth
  · exact xd_A_weighByWishes
  · exact xd_A_leaveOut
theorem xdec_6 : ∀ k, k < 16 → 16 * 6 + k < xN → xdecOk (16 * 6 + k) = true := by
  intro k hk hlt
  rcases (show k = 0 ∨ k = 1 ∨ k = 2 ∨ k = 3 ∨ k = 4 ∨ k = 5 ∨ k = 6 ∨ k = 7 ∨ k = 8 ∨ k = 9 ∨ k = 10 ∨ k = 11 ∨ k = 12 ∨ k = 13 ∨ k = 14 ∨ k = 15 by omega) with rfl | rfl | rfl | rfl | rfl | rfl | rfl | rfl | rfl | rfl | rfl | rfl | rfl | rfl | rfl | rfl
  · exact xd_A_workOut
  · exact xd_A_mostFrom
  · exact xd_A_isFree
  · exact xd_A_comesTo
  · exact xd_A_mostWithout
  · exact xd_A_assignWithout
  · exact xd_A_leastPart
  · exact xd_L_init
  · exact xd_L_tryAll
  · exact xd_L_learnOthers
  · exact xd_L_rankOf
  · exact xd_L_learnWorth
  · exact xd_L_claim
  · exact xd_L_chosenBy
  · exact xd_V_init
  · exact xd_V_speak
theorem xdec_7 : ∀ k, k < 16 → 16 * 7 + k < xN → xdecOk (16 * 7 + k) = true := by
  intro k hk hlt
  rcases (show k = 0 ∨ k = 1 ∨ k = 2 ∨ k = 3 ∨ k = 4 ∨ k = 5 ∨ k = 6 ∨ k = 7 ∨ k = 8 ∨ k = 9 ∨ k = 10 ∨ k = 11 ∨ k = 12 ∨ k = 13 ∨ k = 14 ∨ k = 15 by omega) with rfl | rfl | rfl | rfl | rfl | rfl | rfl | rfl | rfl | rfl | rfl | rfl | rfl | rfl | rfl | rfl
  · exact xd_V_begin
  · exact xd_V_above
  · exact xd_V_says
  · exact xd_V_sings
  · exact xd_V_waits
  · exact xd_V_parts
  · exact xd_H_init
  · exact xd_H_clearTo
  · exact xd_H_lowestBits
  · exact xd_H_hasRun
  · exact xd_H_startsLike
  · exact xd_M_init
  · exact xd_M_error
  · exact xd_M_in
  · exact xd_M_held
  · exact xd_M_copyAll
theorem xdec_8 : ∀ k, k < 16 → 16 * 8 + k < xN → xdecOk (16 * 8 + k) = true := by
  intro k hk hlt
  rcases (show k = 0 ∨ k = 1 ∨ k = 2 ∨ k = 3 ∨ k = 4 ∨ k = 5 ∨ k = 6 ∨ k = 7 ∨ k = 8 ∨ k = 9 ∨ k = 10 ∨ k = 11 ∨ k = 12 ∨ k = 13 ∨ k = 14 ∨ k = 15 by omega) with rfl | rfl | rfl | rfl | rfl | rfl | rfl | rfl | rfl | rfl | rfl | rfl | rfl | rfl | rfl | rfl
  · exact xd_M_thinks
  · exact xd_M_putsBack
  · exact xd_M_bits
  · exact xd_M_isPart
  · exact xd_M_isChild
  · exact xd_M_becomes
  · exact xd_M_of
  · exact xd_M_about
  · exact xd_M_lets
  · exact xd_M_mayPlay
  · exact xd_M_linesOf
  · exact xd_M_dearTo
  · exact xd_M_worthTo
  · exact xd_M_joyOf
  · exact xd_M_joyOfAll
  · exact xd_M_whoHas
theorem xdec_9 : ∀ k, k < 16 → 16 * 9 + k < xN → xdecOk (16 * 9 + k) = true := by
  intro k hk hlt
  rcases (show k = 0 ∨ k = 1 ∨ k = 2 ∨ k = 3 ∨ k = 4 ∨ k = 5 ∨ k = 6 ∨ k = 7 ∨ k = 8 ∨ k = 9 ∨ k = 10 ∨ k = 11 ∨ k = 12 ∨ k = 13 ∨ k = 14 ∨ k = 15 by omega) with rfl | rfl | rfl | rfl | rfl | rfl | rfl | rfl | rfl | rfl | rfl | rfl | rfl | rfl | rfl | rfl
  · exact xd_M_isKm
  · exact xd_M_part
  · exact xd_M_whoMay
  · exact xd_M_partIs
  · exact xd_M_become
  · exact xd_M_as
  · exact xd_M_child
  · exact xd_M_childIs
  · exact xd_M_wishes
  · exact xd_M_falls
  · exact xd_M_worth
  · exact xd_M_cast
  · exact xd_M_feed
  · exact xd_M_look
  · exact xd_M_step
  · exact xd_M_nameOf
theorem xdec_10 : ∀ k, k < 16 → 16 * 10 + k < xN → xdecOk (16 * 10 + k) = true := by
  intro k hk hlt
  rcases (show k = 0 ∨ k = 1 ∨ k = 2 ∨ k = 3 ∨ k = 4 ∨ k = 5 ∨ k = 6 ∨ k = 7 ∨ k = 8 ∨ k = 9 ∨ k = 10 ∨ k = 11 ∨ k = 12 ∨ k = 13 ∨ k = 14 ∨ k = 15 by omega) with rfl | rfl | rfl | rfl | rfl | rfl | rfl | rfl | rfl | rfl | rfl | rfl | rfl | rfl | rfl | rfl
  · exact xd_M_number
  · exact xd_M_opens
  · exact xd_M_one
  · exact xd_M_times
  · exact xd_M_sum
  · exact xd_M_compares
  · exact xd_M_all
  · exact xd_M_any
  · exact xd_M_text
  · exact xd_M_untell
  · exact xd_M_twoOf
  · exact xd_M_works
  · exact xd_M_gives
  · exact xd_M_law
  · exact xd_M_plays
  · exact xd_M_play
theorem xdec_11 : ∀ k, k < 16 → 16 * 11 + k < xN → xdecOk (16 * 11 + k) = true := by
  intro k hk hlt
  rcases (show k = 0 ∨ k = 1 ∨ k = 2 ∨ k = 3 ∨ k = 4 ∨ k = 5 ∨ k = 6 ∨ k = 7 ∨ k = 8 ∨ k = 9 ∨ k = 10 ∨ k = 11 ∨ k = 12 ∨ k = 13 ∨ k = 14 ∨ k = 15 by omega) with rfl | rfl | rfl | rfl | rfl | rfl | rfl | rfl | rfl | rfl | rfl | rfl | rfl | rfl | rfl | rfl
  · exact xd_M_draw
  · exact xd_M_freeFor
  · exact xd_M_nobodyHas
  · exact xd_M_drawn
  · exact xd_M_lots
  · exact xd_M_loose
  · exact xd_M_seed
  · exact xd_M_findWorths
  · exact xd_M_findValues
  · exact xd_M_findBest
  · exact xd_M_best
  · exact xd_M_wished
  · exact xd_M_without
  · exact xd_M_lies
  · exact xd_M_odds
  · exact xd_M_rightOf
theorem xdec_12 : ∀ k, k < 16 → 16 * 12 + k < xN → xdecOk (16 * 12 + k) = true := by
  intro k hk hlt
  rcases (show k = 0 ∨ k = 1 ∨ k = 2 ∨ k = 3 ∨ k = 4 ∨ k = 5 ∨ k = 6 ∨ k = 7 ∨ k = 8 ∨ k = 9 ∨ k = 10 ∨ k = 11 ∨ k = 12 ∨ k = 13 ∨ k = 14 ∨ k = 15 by omega) with rfl | rfl | rfl | rfl | rfl | rfl | rfl | rfl | rfl | rfl | rfl | rfl | rfl | rfl | rfl | rfl
  · exact xd_M_fits
  · exact xd_M_begins
  · exact xd_M_plainSays
  · exact xd_M_speakerSays
  · exact xd_M_says
  · exact xd_M_plainSings
  · exact xd_M_crownSings
  · exact xd_M_sings
  · exact xd_M_plainWaits
  · exact xd_M_waits
  · exact xd_M_plainParts
  · exact xd_M_partsBy
  · exact xd_M_voice
  · exact xd_M_body
  · exact xd_M_isSheet
  · exact xd_M_sheet
theorem xdec_13 : ∀ k, k < 16 → 16 * 13 + k < xN → xdecOk (16 * 13 + k) = true := by
  intro k hk hlt
  rcases (show k = 0 ∨ k = 1 ∨ k = 2 ∨ k = 3 ∨ k = 4 ∨ k = 5 ∨ k = 6 ∨ k = 7 ∨ k = 8 ∨ k = 9 ∨ k = 10 ∨ k = 11 ∨ k = 12 ∨ k = 13 ∨ k = 14 ∨ k = 15 by omega) with rfl | rfl | rfl | rfl | rfl | rfl | rfl | rfl | rfl | rfl | rfl | rfl | rfl | rfl | rfl | rfl
  · exact xd_M_notThere
  · exact xd_M_put
  · exact xd_M_notMoved
  · exact xd_M_move
  · exact xd_M_casts
  · exact xd_M_judge
  · exact xd_M_image
  · exact xd_M_restore
  · exact xd_M_tell
  · exact xd_M_check
  · exact xd_M_count
  · exact xd_M_told
  · exact xd_I_bitCount
  · exact xd_G_length
  · exact xd_G_indexOf
  · exact xd_G_indexOf2
theorem xdec_14 : ∀ k, k < 16 → 16 * 14 + k < xN → xdecOk (16 * 14 + k) = true := by
  intro k hk hlt
  rcases (show k = 0 ∨ k = 1 ∨ k = 2 ∨ k = 3 ∨ k = 4 ∨ k = 5 ∨ k = 6 ∨ k = 7 ∨ k = 8 ∨ k = 9 ∨ k = 10 ∨ k = 11 ∨ k = 12 ∨ k = 13 ∨ k = 14 ∨ k = 15 by omega) with rfl | rfl | rfl | rfl | rfl | rfl | rfl | rfl | rfl | rfl | rfl | rfl | rfl | rfl | rfl | rfl
  · exact xd_G_coder
  · exact xd_G_isLatin1
  · exact xd_N_canEncode
  · exact xd_N_indexOf
  · exact xd_N_indexOfChar
  · exact absurd hlt (by decide)
  · exact absurd hlt (by decide)
  · exact absurd hlt (by decide)
  · exact absurd hlt (by decide)
  · exact absurd hlt (by decide)
  · exact absurd hlt (by decide)
  · exact absurd hlt (by decide)
  · exact absurd hlt (by decide)
  · exact absurd hlt (by decide)
  · exact absurd hlt (by decide)
  · exact absurd hlt (by decide)
theorem xdec_all {M : Nat} (hM : M < xN) : xdecOk M = true := by
  refine xN_ch (P := fun M => xdecOk M = true) (fun j hj k hk hlt => ?_) hM
  rcases (show j = 0 ∨ j = 1 ∨ j = 2 ∨ j = 3 ∨ j = 4 ∨ j = 5 ∨ j = 6 ∨ j = 7 ∨ j = 8 ∨ j = 9 ∨ j = 10 ∨ j = 11 ∨ j = 12 ∨ j = 13 ∨ j = 14 by omega) with rfl | rfl | rfl | rfl | rfl | rfl | rfl | rfl | rfl | rfl | rfl | rfl | rfl | rfl | rfl
  · exact xdec_0 k hk hlt
  · exact xdec_1 k hk hlt
  · exact xdec_2 k hk hlt
  · exact xdec_3 k hk hlt
  · exact xdec_4 k hk hlt
  · exact xdec_5 k hk hlt
  · exact xdec_6 k hk hlt
  · exact xdec_7 k hk hlt
  · exact xdec_8 k hk hlt
  · exact xdec_9 k hk hlt
  · exact xdec_10 k hk hlt
  · exact xdec_11 k hk hlt
  · exact xdec_12 k hk hlt
  · exact xdec_13 k hk hlt
  · exact xdec_14 k hk hlt
def xtg (pc : Nat) (o : Int) : Bool := decide (0 ≤ (pc : Int) + o)
def xinsOk (M pc : Nat) (i : Instr) (n : Nat) : Bool := match i with
  | .iconst k => Nat.beq n 1 && decide (-1 ≤ k ∧ k ≤ 5)
  | .bipush k => Nat.beq n 2 && decide (-128 ≤ k ∧ k ≤ 127)
  | .sipush k => Nat.beq n 3 && decide (-32768 ≤ k ∧ k ≤ 32767)
  | .ldc _ => Nat.beq n 2
  | .ldc_w _ => Nat.beq n 3
  | .ldc2_w _ => Nat.beq n 3
  | .iload _ => Nat.beq n 2
  | .aload _ => Nat.beq n 2
  | .istore k => Nat.beq n 2 && Nat.blt k (xrec M).2.1
  | .astore k => Nat.beq n 2 && Nat.blt k (xrec M).2.1
  | .istore_n k => Nat.beq n 1 && Nat.blt k.val (xrec M).2.1
  | .astore_n k => Nat.beq n 1 && Nat.blt k.val (xrec M).2.1
  | .iinc k _ => Nat.beq n 3 && Nat.blt k (xrec M).2.1
  | .ifCond _ o => Nat.beq n 3 && xtg pc o
  | .if_icmp _ o => Nat.beq n 3 && xtg pc o
  | .goto o => Nat.beq n 3 && xtg pc o
  | .tableswitch d lo hi os => xtg pc d && os.toList.all (xtg pc) && decide (hi - lo + 1 = (os.toList.length : Int))
  | .lookupswitch d ps => xtg pc d && ps.toList.all (fun q => xtg pc q.2) && (ps.toList.zip (ps.toList.drop 1)).all (fun (a, next) => a.1 < next.1)
  | .getfield _ => Nat.beq n 3
  | .putfield _ => Nat.beq n 3
  | .getstatic _ => Nat.beq n 3
  | .invokevirtual _ => Nat.beq n 3
  | .invokestatic _ => Nat.beq n 3
  | .invokespecial _ => Nat.beq n 3
  | .new _ => Nat.beq n 3
  | .anewarray _ => Nat.beq n 3
  | .newarray _ => Nat.beq n 2
  | .multianewarray _ _ => Nat.beq n 4
  | _ => Nat.beq n 1
theorem xins_all : (List.range xN).all (fun M => (xcodeOf M).all (fun q => xinsOk M q.1 q.2.1 q.2.2)) = true := by decide +kernel
theorem xlook_mem : ∀ (l : List (Nat × Instr × Nat)) (k : Nat) (v : Instr × Nat), xlook l k = some v → (k, v) ∈ l
  | [], _, _, h => by cases h
  | q :: r, k, v, h => by
    simp only [xlook] at h
    cases hb : Nat.beq q.1 k with
    | true =>
      rw [hb] at h
      have e : q.1 = k := Nat.eq_of_beq_eq_true hb
      have e2 : q.2 = v := Option.some.inj h
      subst e; subst e2
      exact List.mem_cons_self
    | false =>
      rw [hb] at h
      exact List.mem_cons_of_mem _ (xlook_mem r k v h)
theorem xat_lt {M pc : Nat} {q : Instr × Nat} (h : xat M pc = some q) : M < xN := by
  rcases Nat.lt_or_ge M xN with h1 | h1
  · exact h1
  · have h2 : xcodeOf M = [] := by
      unfold xcodeOf
      have h229 : 229 ≤ M := h1
      by_cases h15 : M / 16 = 14
      · rw [h15]
        exact xnth_out _ _ _ (by show 5 ≤ M % 16; omega)
      · rw [xnth_out [] xcodes (M / 16) (by show 15 ≤ M / 16; omega)]
        exact xnth_out _ _ _ (Nat.zero_le _)
    unfold xat at h
    rw [h2] at h
    cases h
theorem xat_ok {M pc : Nat} {q : Instr × Nat} (h : xat M pc = some q) : decode (xy M).2.1 pc = .ok (q.1, q.2) ∧ xinsOk M pc q.1 q.2 = true ∧ M < xN := by
  have hM := xat_lt h
  have hm := xlook_mem _ _ _ h
  refine ⟨?_, ?_, hM⟩
  · have h1 := List.all_eq_true.mp (xdec_all hM) _ hm
    exact of_decide_eq_true h1
  · exact List.all_eq_true.mp (List.all_eq_true.mp xins_all M (List.mem_range.mpr hM)) _ hm
end
section
/-! CALLS, ENDS: rows -/
section XJ
variable {p : Program} {l : Launch} {e : Env} {R : Room} {s : State} {m : MethodId} {args : Array Value} {below : List Frame} {meth : Method} {c : Code} {cells slots : Nat} {Q : State → Prop}
variable {M : Nat} {A : Nat → Prop} {ad : Nat → Nat → Nat} {ca : Nat → Nat → ClassId} {D : va_G}
theorem xtake_spec {k : List xV → List xV → Prop} : ∀ (n : Nat) (acc st : List xV), xtake n acc st k → ∃ b r, b.length = n ∧ st = b ++ r ∧ k (b.reverse ++ acc) r
  | 0, acc, st, h => ⟨[], st, rfl, rfl, h⟩
  | n + 1, acc, [], h => by cases h
  | n + 1, acc, v :: st, h => by
    obtain ⟨b, r, h1, h2, h3⟩ := xtake_spec n (v :: acc) st h
    exact ⟨v :: b, r, by rw [List.length_cons, h1], by rw [h2]; rfl, by rw [List.reverse_cons, List.append_assoc]; exact h3⟩
theorem xsub {H : Heap} {locs : List Loc} {σ : xM} (F : xFix p s m args meth c M A ad D) (hW : xWd D ad ca xcnt xrho σ A s H) (hS : va_S A s.heap H locs) : ∀ q, xAs ad xcnt H.size q → A q := by
  intro q hq
  rcases hq with ⟨t, i, hv, rfl⟩ | hq
  · exact hW.2.2.1 t i hv
  · exact F.2.2.2.2.2.2.2.2.1 q (Nat.le_trans hS.1 hq)
theorem xpre_at {H : Heap} {locs : List Loc} {σ : xM} {as : List xV} (F : xFix p s m args meth c M A ad D) (hW : xWd D ad ca xcnt xrho σ A s H) (hS : va_S A s.heap H locs) (hs : xoks xcnt as) {U : State} (hU : U.heap = H) (hWU : s.WarmedH U.vm) : xPre D ad ca H.size σ as U := by
  refine ⟨by rw [hU], ?_, va_K.moved hWU.alike F.2.2.2.2.2.2.2.2.2.2.1, F.2.2.2.2.2.2.2.1.warm hWU, ?_, hs⟩
  · rw [hU]
    exact hW.moved hWU.alike (fun t i hv _ => Or.inl ⟨t, i, hv, rfl⟩)
  · rw [hU]
    exact ((F.2.2.2.2.2.2.2.2.2.1.kept hS.2.1).narrow (xsub F hW hS)).moved hWU.alike
theorem xo_after {H : Heap} {locs : List Loc} {ls : Array Slot} {σ : xM} {pc k : Nat} {L r : List xV} {st0 : List Value} {a : Array Value} {Qk : Int → xM → Prop} (F : xFix p s m args meth c M A ad D) (hW : xWd D ad ca xcnt xrho σ A s H) (hS : va_S A s.heap H locs) (hL : xLr M xcnt ad L ls) (hr : xoks xcnt r)
    (hrun : va_Run p l e R s m args below meth c H locs cells slots 0 0 (F0 m pc ls st0) (r.map (xcv ad)) (xQc (xvoid k) Qk (fun σ' t => xWd D ad ca xcnt xrho σ' (xAs ad xcnt H.size) t t.heap) (xAs ad xcnt H.size) a) (xAs ad xcnt H.size))
    (kk : ∀ v σ', xr v → Qk v σ' → xNx p l e R s m args below meth c cells slots Q M A ad ca D xcnt xrho (pc + 3) L (xpush k v r) σ') : W p l e R s m args below meth c H locs cells slots Q (F0 m pc ls st0) := by
  have hF := xsub F hW hS
  cases hv : xvoid k with
  | true =>
    rw [hv] at hrun
    refine va_callv (a := a) hrun hS (fun q _ h => hF q h) hF (fun u t H1 locs1 ht hvm hp hB hz hk hS1 => ?_)
    have h := kk 0 u xn_r0 hp H1 locs1 ls (by rw [ht] at hB; exact hB.moved hvm.symm (fun t i _ h => hF _ h)) hS1 hL
    unfold xpush at h
    rw [show Nat.beq (xrec k).2.2.1 0 = true from hv] at h
    exact h hr
  | false =>
    rw [hv] at hrun
    refine va_calli (a := a) hrun hS (fun q _ h => hF q h) hF (fun r1 u t H1 locs1 ht hvm hp hB hz hk hS1 => ?_)
    obtain ⟨z, rfl, hz1, hq⟩ := hp
    have h := kk z u hz1 hq H1 locs1 ls (by rw [ht] at hB; exact hB.moved hvm.symm (fun t i _ h => hF _ h)) hS1 hL
    unfold xpush at h
    rw [show Nat.beq (xrec k).2.2.1 0 = false from hv] at h
    exact h (xoks_c.mpr ⟨hz1, hr⟩)
theorem xroom_ok {d k : Nat} (hk : k < xN) (hRf : d + 2 ≤ R.frames) (hRl : 40 * d + 80 ≤ R.locals) : (xroom d 0 0).frames + 1 ≤ R.frames ∧ 8 + ((xrec k).2.1 + 11) + (xroom d 0 0).locals ≤ R.locals := by
  have h9 := (xna hk).2
  exact ⟨hRf, by show 8 + ((xrec k).2.1 + 11) + (40 * d + 40) ≤ R.locals; omega⟩
theorem xo_callS {pc x d k : Nat} {kd : Nat} {L b r : List xV} {σ : xM} {Qk : Int → xM → Prop} (F : xFix p s m args meth c M A ad D) (hd : decode (xy M).2.1 pc = .ok (.invokestatic x, 3)) (hc : xcal (xrec M).1 x = some (k, kd)) (hkd : kd = 1 ∨ kd = 3) (hk : k < xN) (h0 : (xrec k).2.2.2.1 = 0) (hn : b.length = (xrec k).2.2.2.2) (hr8 : xrs r = true)
    (hRf : d + 2 ≤ R.frames) (hRl : 40 * d + 80 ≤ R.locals) (h1 : cells ≤ R.cells) (h2 : slots ≤ R.slots) (hM : xMet l d k b.reverse σ Qk)
    (kk : ∀ v σ', xr v → Qk v σ' → xNx p l e R s m args below meth c cells slots Q M A ad ca D xcnt xrho (pc + 3) L (xpush k v r) σ') : xNx p l e R s m args below meth c cells slots Q M A ad ca D xcnt xrho pc L (b ++ r) σ := by
  intro H locs ls hW hS hL hs
  obtain ⟨hb, hr⟩ := xoks_app.mp hs
  have hbr : xoks xcnt b.reverse := fun v hv => hb v (List.mem_reverse.mp hv)
  have hsum := xrs_sum (ad := ad) hr8
  obtain ⟨hst, hpar⟩ := xm_s hk h0
  obtain ⟨hini, hrk, hcls, hmh, -⟩ := xm_a hk
  have hw := (xcal_w hc).1
  obtain ⟨hx0, hbb, hml, -, hown, -, hts, hex, -, hro, hK, -⟩ := id F
  have hp : PreS s H (va_Pc (b.reverse.map (xcv ad)) (xPre D ad ca H.size σ b.reverse)) (b.reverse.map (xcv ad)) := ⟨xPre.blind, fun U hU hWU => ⟨rfl, xpre_at F hW hS hbr hU hWU⟩⟩
  have hstk : (b ++ r).map (xcv ad) = (b.reverse.map (xcv ad)).reverse ++ r.map (xcv ad) := by
    rw [List.map_append, List.map_reverse, List.reverse_reverse]
  rw [hstk]
  refine xo_after (a := (b.reverse.map (xcv ad)).toArray) F hW hS hL hr ?_ kk
  rcases hkd with rfl | rfl
  · exact va_runS (n := (xrec k).2.2.2.2) ⟨hx0, hbb, hml, hown, hts⟩ (hM D ad ca H.size) (va_cwS _ hts (xgoodIn (fun w hw1 => by
      rcases List.mem_append.mp hw1 with h | h
      · simp only [List.mem_cons, List.not_mem_nil, or_false] at h
        rcases h with rfl | rfl | rfl
        · exact xGT_m hw rfl
        · exact hst
        · exact hini
      · exact xws_in hk w h)) rfl rfl rfl ⟨hmh.1, hmh.2, hpar⟩ (xroom_ok hk hRf hRl)) hp rfl (by rw [List.length_map, List.length_reverse, hn]) hL.1 rfl (lv_room hsum) hd ⟨h1, h2⟩
  · exact va_runSN (n := (xrec k).2.2.2.2) ⟨hx0, hbb, hml, hown, hts⟩ (hM D ad ca H.size) ⟨va_cnB _ hts (xgoodIn (xws_in hk)) rfl rfl rfl (hex.1 _ (xnest_m hw)) (hts _ hini) ⟨hmh.1, hmh.2, hpar⟩ (xroom_ok hk hRf hRl), hts _ hst, trivial⟩ hp rfl (by rw [List.length_map, List.length_reverse, hn]) hL.1 rfl (lv_room hsum) hd ⟨h1, h2⟩
theorem xrecv {H : Heap} {locs : List Loc} {σ : xM} {t i : Nat} (F : xFix p s m args meth c M A ad D) (hW : xWd D ad ca xcnt xrho σ A s H) (hS : va_S A s.heap H locs) (ho : xok xcnt (vR t i)) (hk : xkind t = 1 ∨ t = 1) : ∃ cellB : Cell, H[ad t i]? = some cellB ∧ cellB.vm.isStatics = false ∧ s.vm.findClass (xCt t) = some cellB.cls := by
  obtain ⟨hx0, hbb, hml, -, hown, -, hts, hex, -, hro, hK, -⟩ := id F
  rcases hk with hk | rfl
  · have hv := xok_vd ho (by rw [hk]; decide)
    obtain ⟨k0, -, he⟩ := xW_idx (ad := ad) (ca := ca) (ρ := xrho) (σ := σ) hv
    have hE : xE ad ca xrho σ t i = .inr (xci t, (List.range (xsz t)).map fun j => xcv ad (xfv xrho σ t i j)) := by unfold xE; rw [hk]; rfl
    rw [hE] at he
    exact va_recv hK hW.P (xcl_at hk) he
  · have hi := xok_1 ho
    obtain ⟨j, rfl⟩ : ∃ j, i = j + 1 := ⟨i - 1, by omega⟩
    exact vk_recv hro.2.2.2 (i := j) (by omega) hS
theorem xini_all : (List.range 14).all (fun cx => (xnth [] xcalT cx).all (fun e => !(Nat.beq e.2.2 0) || decide ((xy e.2.1).1.name ≠ "<init>"))) = true := by decide +kernel
theorem xini_ok {cx x k : Nat} (h : xcal cx x = some (k, 0)) : (xy k).1.name ≠ "<init>" := by
  have h2 := xall_nth (T := xcalT) (n := 14) (f := fun c e => !(Nat.beq e.2.2 0) || decide ((xy e.2.1).1.name ≠ "<init>")) (d := []) (by decide +kernel) rfl xini_all cx (x, (k, 0)) (xas_mem (xnth [] xcalT cx) x (k, 0) h)
  rcases Bool.or_eq_true _ _ ▸ h2 with h3 | h3
  · exact absurd h3 Bool.false_ne_true
  · exact of_decide_eq_true h3
theorem xo_callV {pc x d k t i : Nat} {L b r : List xV} {σ : xM} {Qk : Int → xM → Prop} (F : xFix p s m args meth c M A ad D) (hd : decode (xy M).2.1 pc = .ok (.invokevirtual x, 3)) (hc : xcal (xrec M).1 x = some (k, 0)) (hk : k < xN) (h0 : (xrec k).2.2.2.1 = t) (ht : t ≠ 0) (hn : b.length + 1 = (xrec k).2.2.2.2) (hr8 : xrs r = true)
    (hRf : d + 2 ≤ R.frames) (hRl : 40 * d + 80 ≤ R.locals) (h1 : cells ≤ R.cells) (h2 : slots ≤ R.slots) (hM : xMet l d k (vR t i :: b.reverse) σ Qk)
    (kk : ∀ v σ', xr v → Qk v σ' → xNx p l e R s m args below meth c cells slots Q M A ad ca D xcnt xrho (pc + 3) L (xpush k v r) σ') : xNx p l e R s m args below meth c cells slots Q M A ad ca D xcnt xrho pc L (b ++ vR t i :: r) σ := by
  obtain ⟨t', rfl⟩ : ∃ t', t = t' + 1 := ⟨t - 1, by omega⟩
  intro H locs ls hW hS hL hs
  obtain ⟨hb, hs1⟩ := xoks_app.mp hs
  obtain ⟨ho, hr⟩ := xoks_c.mp hs1
  have hbr : xoks xcnt (vR (t' + 1) i :: b.reverse) := xoks_c.mpr ⟨ho, fun v hv => hb v (List.mem_reverse.mp hv)⟩
  have hsum := xrs_sum (ad := ad) hr8
  obtain ⟨hinst, hsel, hpar, hct, hpos, hkk⟩ := xm_i hk h0
  obtain ⟨hini, hrk, hcls, hmh, -⟩ := xm_a hk
  have hw := (xcal_w hc).1
  obtain ⟨hx0, hbb, hml, -, hown, -, hts, hex, -, hro, hK, -⟩ := id F
  have eR : xcv ad (vR (t' + 1) i) = .ref (ad (t' + 1) i) := rfl
  have hp : PreV s H (xy k).1.cls (ad (t' + 1) i) (va_Pc ((vR (t' + 1) i :: b.reverse).map (xcv ad)) (xPre D ad ca H.size σ (vR (t' + 1) i :: b.reverse))) (b.reverse.map (xcv ad)) :=
    ⟨xPre.blind, by rw [← hct]; exact xrecv F hW hS ho hkk, fun U hU hWU => ⟨by rw [List.map_cons, eR], xpre_at F hW hS hbr hU hWU⟩⟩
  have hstk : (b ++ vR (t' + 1) i :: r).map (xcv ad) = (b.reverse.map (xcv ad)).reverse ++ .ref (ad (t' + 1) i) :: r.map (xcv ad) := by
    rw [List.map_append, List.map_cons, eR, List.map_reverse, List.reverse_reverse]
  rw [hstk]
  refine xo_after (a := (Value.ref (ad (t' + 1) i) :: b.reverse.map (xcv ad)).toArray) F hW hS hL hr ?_ kk
  exact va_runV (n := (xrec k).2.2.2.2 - 1) ⟨hx0, hbb, hml, hown, hts⟩ (hM D ad ca H.size) (cwV (index := x) (own := xow M) _ hts (xgoodIn (fun w hw1 => by
      rcases List.mem_append.mp (show w ∈ ([.methodLink (xow M) x (xy k).1, .instanceMethod (xy k).1, .selects (xy k).1.cls (xy k).1 (xy k).1, .initialized (xy k).1.cls] : List Cond) ++ xws k from hw1) with h | h
      · simp only [List.mem_cons, List.not_mem_nil, or_false] at h
        rcases h with rfl | rfl | rfl | rfl
        · exact xGT_m hw rfl
        · exact hinst
        · exact hsel (xini_ok hc)
        · exact hini
      · exact xws_in hk w h)) rfl rfl rfl ⟨rfl, hmh.1, hmh.2, hpar⟩ (xroom_ok hk hRf hRl)) hp rfl (by rw [List.length_map, List.length_reverse]; omega) hL.1 rfl (lv_room hsum) hd ⟨h1, h2⟩
theorem xo_iret {pc : Nat} {L : List xV} {σ : xM} {x : Int} {Qm : Int → xM → Prop} (F : xFix p s m args meth c M A ad D) (hM : M < xN) (hd : decode (xy M).2.1 pc = .ok (.ireturn, 1)) (hk : (xrec M).2.2.1 = 1 ∨ ((xrec M).2.2.1 = 2 ∧ (x = 0 ∨ x = 1)) ∨ ((xrec M).2.2.1 = 3 ∧ -128 ≤ x ∧ x ≤ 127)) (hq : Qm x σ) :
    xNx p l e R s m args below meth c cells slots (MQ below (xQc (xvoid M) Qm (fun σ' t => xWd D ad ca xcnt xrho σ' A t t.heap) A) args s cells slots A) M A ad ca D xcnt xrho pc L [vI x] σ := by
  intro H locs ls hW hS hL hs
  obtain ⟨hx, -⟩ := xoks_c.mp hs
  obtain ⟨hx0, hbb, hml, hr, hown, hlk, hts, hex, -, hro, hK, -⟩ := id F
  obtain ⟨-, hrk, -, -, -⟩ := xm_a hM
  obtain ⟨k1, k2, k3⟩ := xrk_n hrk
  have hv : xvoid M = false := by
    unfold xvoid
    rcases hk with h | ⟨h, -⟩ | ⟨h, -⟩ <;> rw [h] <;> rfl
  rw [hv]
  have hend : ∀ t : State, t.heap = H → s.WarmedH t.vm → xQc false Qm (fun σ' t => xWd D ad ca xcnt xrho σ' A t t.heap) A args s (.returned (some (.int (Int32.ofInt x)))) t := fun t ht hWt =>
    ⟨⟨Int32.ofInt x, σ, rfl, ⟨x, rfl, hx, hq⟩, by show xWd D ad ca xcnt xrho σ A t t.heap; rw [ht]; exact hW.moved hWt.alike (fun _ _ _ h => h)⟩, hS.F ht⟩
  show W p l e R s m args below meth c H locs cells slots _ (F0 m pc ls [.int (Int32.ofInt x)])
  rcases hk with h | ⟨h, h01⟩ | ⟨h, hb⟩
  · exact W.iret hx0 hbb (hr.trans (k1 h)) hend hS.2.2 hd hlk
  · exact W.zret hx0 hbb (hr.trans (k2 h)) (xn_nz h01) hend hS.2.2 hd hlk
  · exact W.zret hx0 hbb (hr.trans (k3 h)) (xn_nb hb) hend hS.2.2 hd hlk
theorem xo_vret {pc : Nat} {L : List xV} {σ : xM} {Qm : Int → xM → Prop} (F : xFix p s m args meth c M A ad D) (hM : M < xN) (hd : decode (xy M).2.1 pc = .ok (.return_, 1)) (hk : (xrec M).2.2.1 = 0) (hq : Qm 0 σ) :
    xNx p l e R s m args below meth c cells slots (MQ below (xQc (xvoid M) Qm (fun σ' t => xWd D ad ca xcnt xrho σ' A t t.heap) A) args s cells slots A) M A ad ca D xcnt xrho pc L [] σ := by
  intro H locs ls hW hS hL hs
  obtain ⟨hx0, hbb, hml, hr, hown, hlk, hts, hex, -, hro, hK, -⟩ := id F
  obtain ⟨-, hrk, -, -, -⟩ := xm_a hM
  have hv : xvoid M = true := by
    unfold xvoid
    rw [hk]
    rfl
  rw [hv]
  exact W.vret hx0 hbb (hr.trans (xrk_0 hrk hk)) (fun t ht hWt => ⟨⟨σ, rfl, hq, by show xWd D ad ca xcnt xrho σ A t t.heap; rw [ht]; exact hW.moved hWt.alike (fun _ _ _ h => h)⟩, hS.F ht⟩) hS.2.2 hd hlk
end XJ
end
section
/-! ONE STEP of the plain machine is one of the machine; so are many -/
theorem xI1_e {st : List xV} {k : Int → List xV → Prop} (h : xI1 st k) : ∃ x r, st = vI x :: r ∧ k x r := by
  unfold xI1 at h
  split at h
  · exact ⟨_, _, rfl, h⟩
  · exact h.elim
theorem xI2_e {st : List xV} {k : Int → Int → List xV → Prop} (h : xI2 st k) : ∃ x y r, st = vI y :: vI x :: r ∧ k x y r := by
  unfold xI2 at h
  split at h
  · exact ⟨_, _, _, rfl, h⟩
  · exact h.elim
theorem xL1_e {st : List xV} {k : Int → List xV → Prop} (h : xL1 st k) : ∃ x r, st = vL x :: r ∧ k x r := by
  unfold xL1 at h
  split at h
  · exact ⟨_, _, rfl, h⟩
  · exact h.elim
theorem xL2_e {st : List xV} {k : Int → Int → List xV → Prop} (h : xL2 st k) : ∃ x y r, st = vL y :: vL x :: r ∧ k x y r := by
  unfold xL2 at h
  split at h
  · exact ⟨_, _, _, rfl, h⟩
  · exact h.elim
theorem xLI_e {st : List xV} {k : Int → Int → List xV → Prop} (h : xLI st k) : ∃ x y r, st = vI y :: vL x :: r ∧ k x y r := by
  unfold xLI at h
  split at h
  · exact ⟨_, _, _, rfl, h⟩
  · exact h.elim
theorem xR1_e {st : List xV} {k : Nat → Nat → List xV → Prop} (h : xR1 st k) : ∃ t i r, st = vR t i :: r ∧ k t i r := by
  unfold xR1 at h
  split at h
  · exact ⟨_, _, _, rfl, h⟩
  · exact h.elim
theorem xIR_e {st : List xV} {k : Nat → Nat → Int → List xV → Prop} (h : xIR st k) : ∃ t i x r, st = vI x :: vR t i :: r ∧ k t i x r := by
  unfold xIR at h
  split at h
  · exact ⟨_, _, _, _, rfl, h⟩
  · exact h.elim
theorem xIIR_e {st : List xV} {k : Nat → Nat → Int → Int → List xV → Prop} (h : xIIR st k) : ∃ t i x v r, st = vI v :: vI x :: vR t i :: r ∧ k t i x v r := by
  unfold xIIR at h
  split at h
  · exact ⟨_, _, _, _, _, rfl, h⟩
  · exact h.elim
theorem xvI_e {v : xV} {k : Int → Prop} (h : xvI v k) : ∃ x, v = vI x ∧ k x := by
  unfold xvI at h
  split at h
  · exact ⟨_, rfl, h⟩
  · exact h.elim
theorem xvL_e {v : xV} {k : Int → Prop} (h : xvL v k) : ∃ x, v = vL x ∧ k x := by
  unfold xvL at h
  split at h
  · exact ⟨_, rfl, h⟩
  · exact h.elim
theorem xcf {b : Bool} {P : Prop} (h : cond b P False) : b = true ∧ P := by
  cases b
  · exact h.elim
  · exact ⟨rfl, h⟩
theorem xct {b : Bool} {P : Prop} (h : cond b False P) : b = false ∧ P := by
  cases b
  · exact ⟨rfl, h⟩
  · exact h.elim
theorem xvR_e {v : xV} {k : Nat → Nat → Prop} (h : xvR v k) : ∃ t i, v = vR t i ∧ Nat.beq t 0 = false ∧ k t i := by
  unfold xvR at h
  split at h
  · obtain ⟨h1, h2⟩ := xct h
    exact ⟨_, _, rfl, h1, h2⟩
  · exact h.elim
theorem xv1_e {v : xV} {P : Prop} (h : xv1 v P) : (∀ z, v ≠ vL z) ∧ P := by
  unfold xv1 at h
  split at h
  · exact ⟨fun z q => (by cases q), h⟩
  · exact h.elim
  · exact ⟨fun z q => (by cases q), (xct h).2⟩
theorem xjmp_ok {pc : Nat} {o : Int} (h : xtg pc o = true) : (pc : Int) + o = ((xjmp pc o : Nat) : Int) := by
  have h1 := of_decide_eq_true h
  unfold xjmp
  omega
theorem xsw_e {x : Int} {d : Prop} {k : Int → Prop} : ∀ (os : List Int) (lo : Int), xsw x lo os k d → (∃ o, os[(x - lo).toNat]? = some o ∧ lo ≤ x ∧ x < lo + os.length ∧ k o) ∨ ((x < lo ∨ lo + os.length ≤ x) ∧ d)
  | [], lo, h => by
    refine Or.inr ⟨?_, h⟩
    simp only [List.length_nil]
    omega
  | o :: os, lo, h => by
    simp only [xsw] at h
    by_cases hx : x = lo
    · rw [if_pos hx] at h
      refine Or.inl ⟨o, ?_, by omega, by simp only [List.length_cons]; omega, h⟩
      rw [show (x - lo).toNat = 0 by omega]
      rfl
    · rw [if_neg hx] at h
      rcases xsw_e os (lo + 1) h with ⟨o', h1, h2, h3, h4⟩ | ⟨h1, h2⟩
      · refine Or.inl ⟨o', ?_, by omega, by simp only [List.length_cons]; omega, h4⟩
        rw [show (x - lo).toNat = (x - (lo + 1)).toNat + 1 by omega]
        exact h1
      · refine Or.inr ⟨?_, h2⟩
        simp only [List.length_cons]
        omega
theorem xlsw_e {x : Int} {d : Prop} {k : Int → Prop} {dd : Int} (hd : d → k dd) : ∀ (ps : List (Int × Int)), xlsw x ps k d → k (Op.lookupswitch.offset ps dd x) ∧ (Op.lookupswitch.offset ps dd x = dd ∨ ∃ q ∈ ps, Op.lookupswitch.offset ps dd x = q.2)
  | [], h => ⟨hd h, Or.inl rfl⟩
  | q :: r, h => by
    simp only [xlsw] at h
    obtain ⟨a, o⟩ := q
    rw [Op.lookupswitch.offset_cons]
    by_cases hx : x = a
    · rw [if_pos hx] at h
      rw [if_pos hx.symm]
      exact ⟨h, Or.inr ⟨(a, o), List.mem_cons_self, rfl⟩⟩
    · rw [if_neg hx] at h
      rw [if_neg (fun e => hx e.symm)]
      obtain ⟨h1, h2⟩ := xlsw_e hd r h
      refine ⟨h1, ?_⟩
      rcases h2 with h2 | ⟨q, hq, h2⟩
      · exact Or.inl h2
      · exact Or.inr ⟨q, List.mem_cons_of_mem _ hq, h2⟩
theorem xif_mono {cd : ClassFile.Cond} {x y : Int} {P P' S S' : Prop} (hp : P → P') (hs : S → S') (h : xif cd x y P S) : xif cd x y P' S' := by
  cases cd <;> simp only [xif] at h ⊢ <;> split at h <;> rename_i hq <;> simp only [hq, if_true, if_false] <;> first | exact hp h | exact hs h
theorem xsw_mono {x : Int} {d d' : Prop} {k k' : Int → Prop} (hk : ∀ o, k o → k' o) (hd : d → d') : ∀ (os : List Int) (lo : Int), xsw x lo os k d → xsw x lo os k' d'
  | [], _, h => hd h
  | o :: os, lo, h => by
    simp only [xsw] at h ⊢
    by_cases hx : x = lo
    · rw [if_pos hx] at h ⊢
      exact hk o h
    · rw [if_neg hx] at h ⊢
      exact xsw_mono hk hd os (lo + 1) h
theorem xlsw_mono {x : Int} {d d' : Prop} {k k' : Int → Prop} (hk : ∀ o, k o → k' o) (hd : d → d') : ∀ (ps : List (Int × Int)), xlsw x ps k d → xlsw x ps k' d'
  | [], h => hd h
  | q :: r, h => by
    simp only [xlsw] at h ⊢
    by_cases hx : x = q.1
    · rw [if_pos hx] at h ⊢
      exact hk q.2 h
    · rw [if_neg hx] at h ⊢
      exact xlsw_mono hk hd r h
theorem xkk_all : (List.range 14).all (fun cx => (xnth [] xcalT cx).all (fun e => cond (Nat.ble 5 e.2.2) (Nat.beq e.2.1 999) (Nat.blt e.2.1 xN && (!(Nat.beq e.2.2 0) || !(Nat.beq (xrec e.2.1).2.2.2.1 0))))) = true := by decide +kernel
theorem xkk {cx x k kd : Nat} (h : xcal cx x = some (k, kd)) : cond (Nat.ble 5 kd) (Nat.beq k 999) (Nat.blt k xN && (!(Nat.beq kd 0) || !(Nat.beq (xrec k).2.2.2.1 0))) = true := by
  exact xall_nth (T := xcalT) (n := 14) (f := fun cx e => cond (Nat.ble 5 e.2.2) (Nat.beq e.2.1 999) (Nat.blt e.2.1 xN && (!(Nat.beq e.2.2 0) || !(Nat.beq (xrec e.2.1).2.2.2.1 0)))) (d := []) (by decide +kernel) rfl xkk_all cx (x, (k, kd)) (xas_mem (xnth [] xcalT cx) x (k, kd) h)
theorem xk999 {cx x k kd : Nat} (h : xcal cx x = some (k, kd)) (h5 : 5 ≤ kd) : k = 999 := by
  have h1 := xkk h
  rw [Nat.ble_eq_true_of_le h5] at h1
  exact Nat.eq_of_beq_eq_true h1
theorem xkN {cx x k kd : Nat} (h : xcal cx x = some (k, kd)) (h5 : kd < 5) : k < xN := by
  have h1 := xkk h
  rw [show Nat.ble 5 kd = false from by cases hb : Nat.ble 5 kd with | false => rfl | true => exact absurd (Nat.le_of_ble_eq_true hb) (by omega)] at h1
  exact Nat.le_of_ble_eq_true (Bool.and_eq_true _ _ ▸ h1).1
theorem xk0 {cx x k : Nat} (h : xcal cx x = some (k, 0)) : (xrec k).2.2.2.1 ≠ 0 := by
  intro e
  have h1 := xkk h
  rw [e] at h1
  have h2 := (Bool.and_eq_true _ _ ▸ (show (Nat.blt k xN && (!(Nat.beq 0 0) || !(Nat.beq 0 0))) = true from h1)).2
  exact absurd h2 Bool.false_ne_true
section XS
variable {p : Program} {l : Launch} {e : Env} {R : Room} {s : State} {m : MethodId} {args : Array Value} {below : List Frame} {meth : Method} {c : Code} {cells slots : Nat}
variable {M : Nat} {A : Nat → Prop} {ad : Nat → Nat → Nat} {ca : Nat → Nat → ClassId} {D : va_G}
theorem xo_tsw {Q : State → Prop} (F : xFix p s m args meth c M A ad D) {pc n : Nat} {d lo hi : Int} {os : Array Int} {L r : List xV} {σ : xM} {x : Int} (hd : decode (xy M).2.1 pc = .ok (.tableswitch d lo hi os, n)) (hok : xtg pc d = true) (hoks : os.toList.all (xtg pc) = true) (hsz : hi - lo + 1 = (os.toList.length : Int))
    (k : xsw x lo os.toList (fun o => xNx p l e R s m args below meth c cells slots Q M A ad ca D xcnt xrho (xjmp pc o) L r σ) (xNx p l e R s m args below meth c cells slots Q M A ad ca D xcnt xrho (xjmp pc d) L r σ)) : xNx p l e R s m args below meth c cells slots Q M A ad ca D xcnt xrho pc L (vI x :: r) σ := by
  intro H locs ls hW hS hL hs
  obtain ⟨hx, hr⟩ := xoks_c.mp hs
  have ex : (Int32.ofInt x).toInt = x := xn_to hx
  simp only [List.map_cons, xcv]
  rcases xsw_e _ _ k with ⟨o, h1, h2, h3, h4⟩ | ⟨h1, h2⟩
  · have hm := List.all_eq_true.mp hoks o (List.mem_of_getElem? h1)
    refine lv_tableIn (off := o) F.1 F.2.1 hd (by rw [ex]; omega) (by rw [ex]; omega) (by rw [ex, ← Array.getElem?_toList]; exact h1) (xjmp_ok hm) (h4 H locs ls hW hS hL hr)
  · exact lv_tableOut F.1 F.2.1 hd (by rw [ex]; omega) (xjmp_ok hok) (h2 H locs ls hW hS hL hr)
theorem xo_lsw {Q : State → Prop} (F : xFix p s m args meth c M A ad D) {pc n : Nat} {d : Int} {ps : Array (Int × Int)} {L r : List xV} {σ : xM} {x : Int} (hd : decode (xy M).2.1 pc = .ok (.lookupswitch d ps, n)) (hok : xtg pc d = true) (hoks : ps.toList.all (fun q => xtg pc q.2) = true) (hst : (ps.toList.zip (ps.toList.drop 1)).all (fun (a, next) => a.1 < next.1) = true)
    (k : xlsw x ps.toList (fun o => xNx p l e R s m args below meth c cells slots Q M A ad ca D xcnt xrho (xjmp pc o) L r σ) (xNx p l e R s m args below meth c cells slots Q M A ad ca D xcnt xrho (xjmp pc d) L r σ)) : xNx p l e R s m args below meth c cells slots Q M A ad ca D xcnt xrho pc L (vI x :: r) σ := by
  intro H locs ls hW hS hL hs
  obtain ⟨hx, hr⟩ := xoks_c.mp hs
  have ex : (Int32.ofInt x).toInt = x := xn_to hx
  simp only [List.map_cons, xcv]
  obtain ⟨h1, h2⟩ := xlsw_e (dd := d) (fun h => h) _ k
  refine lv_lookup (off := Op.lookupswitch.offset ps.toList d x) F.1 F.2.1 hd hst (by rw [ex]) (xjmp_ok ?_) (h1 H locs ls hW hS hL hr)
  rcases h2 with h2 | ⟨q, hq, h2⟩
  · rw [h2]; exact hok
  · rw [h2]; exact List.all_eq_true.mp hoks q hq
theorem xrho_all : (List.range 57).all (fun t => (List.range (xcnt t)).all (fun i => (List.range (xsz t)).all (fun k => Nat.beq (xrho t i k).1 0 || (Nat.ble 4 (xrho t i k).1 && Nat.blt (xrho t i k).1 57 && Nat.blt (xrho t i k).2 (xcnt (xrho t i k).1))))) = true := by decide +kernel
theorem xrho_rv : xrv xcnt xrho := by
  intro t i k hv hk
  have h := List.all_eq_true.mp (List.all_eq_true.mp (List.all_eq_true.mp xrho_all t (List.mem_range.mpr hv.2.1)) i (List.mem_range.mpr hv.2.2)) k (List.mem_range.mpr hk)
  rcases Bool.or_eq_true _ _ ▸ h with h | h
  · exact Or.inl (Nat.eq_of_beq_eq_true h)
  · simp only [Bool.and_eq_true] at h
    exact Or.inr (Or.inr (Or.inr (Or.inr ⟨Nat.le_of_ble_eq_true h.1.1, Nat.le_of_ble_eq_true h.1.2, Nat.le_of_ble_eq_true h.2⟩)))
set_option maxHeartbeats 8000000 in
theorem xstep0 {Qm : Int → xM → Prop} (F : xFix p s m args meth c M A ad D) {pc : Nat} {L st : List xV} {σ : xM} {K : Nat → List xV → List xV → xM → Prop} {C : Nat → List xV → List xV → Prop} {Rr : Int → Prop}
    (hRf : 1 ≤ R.frames) (hRl : 40 ≤ R.locals) (hc : cells ≤ R.cells) (hsl : slots ≤ R.slots)
    (hK : ∀ pc' L' st' σ', K pc' L' st' σ' → xNx p l e R s m args below meth c cells slots (MQ below (xQc (xvoid M) Qm (fun σ' t => xWd D ad ca xcnt xrho σ' A t t.heap) A) args s cells slots A) M A ad ca D xcnt xrho pc' L' st' σ')
    (hC : ∀ k as r, k < xN → xnl as = true → as.length = (xrec k).2.2.2.2 → C k as r → ∃ (d : Nat) (Qk : Int → xM → Prop), (d + 2 ≤ R.frames ∧ 40 * d + 80 ≤ R.locals) ∧ xMet l d k as σ Qk ∧ ∀ v σ', xr v → Qk v σ' → xNx p l e R s m args below meth c cells slots (MQ below (xQc (xvoid M) Qm (fun σ' t => xWd D ad ca xcnt xrho σ' A t t.heap) A) args s cells slots A) M A ad ca D xcnt xrho (pc + 3) L (xpush k v r) σ')
    (hRr : ∀ v, Rr v → Qm v σ) (hM : M < xN) (ins : Instr) (n : Nat) (hd : decode (xy M).2.1 pc = .ok (ins, n)) (hok : xinsOk M pc ins n = true) (h : xstp ins M pc L st σ K C Rr) : xNx p l e R s m args below meth c cells slots (MQ below (xQc (xvoid M) Qm (fun σ' t => xWd D ad ca xcnt xrho σ' A t t.heap) A) args s cells slots A) M A ad ca D xcnt xrho pc L st σ := by
  cases ins
  all_goals try exact False.elim h
  case iadd =>
    obtain rfl : n = 1 := Nat.eq_of_beq_eq_true hok
    simp only [xstp] at h
    have hE := xI2_e h
    clear h
    obtain ⟨x, y, r, rfl, h⟩ := hE
    exact xo_iadd F hd (hK _ _ _ _ h)
  case isub =>
    obtain rfl : n = 1 := Nat.eq_of_beq_eq_true hok
    simp only [xstp] at h
    have hE := xI2_e h
    clear h
    obtain ⟨x, y, r, rfl, h⟩ := hE
    exact xo_isub F hd (hK _ _ _ _ h)
  case imul =>
    obtain rfl : n = 1 := Nat.eq_of_beq_eq_true hok
    simp only [xstp] at h
    have hE := xI2_e h
    clear h
    obtain ⟨x, y, r, rfl, h⟩ := hE
    exact xo_imul F hd (hK _ _ _ _ h)
  case ishl =>
    obtain rfl : n = 1 := Nat.eq_of_beq_eq_true hok
    simp only [xstp] at h
    have hE := xI2_e h
    clear h
    obtain ⟨x, y, r, rfl, h⟩ := hE
    exact xo_ishl F hd (hK _ _ _ _ h)
  case ishr =>
    obtain rfl : n = 1 := Nat.eq_of_beq_eq_true hok
    simp only [xstp] at h
    have hE := xI2_e h
    clear h
    obtain ⟨x, y, r, rfl, h⟩ := hE
    exact xo_ishr F hd (hK _ _ _ _ h)
  case iand =>
    obtain rfl : n = 1 := Nat.eq_of_beq_eq_true hok
    simp only [xstp] at h
    have hE := xI2_e h
    clear h
    obtain ⟨x, y, r, rfl, h⟩ := hE
    exact xo_iand F hd (hK _ _ _ _ h)
  case ior =>
    obtain rfl : n = 1 := Nat.eq_of_beq_eq_true hok
    simp only [xstp] at h
    have hE := xI2_e h
    clear h
    obtain ⟨x, y, r, rfl, h⟩ := hE
    exact xo_ior F hd (hK _ _ _ _ h)
  case ixor =>
    obtain rfl : n = 1 := Nat.eq_of_beq_eq_true hok
    simp only [xstp] at h
    have hE := xI2_e h
    clear h
    obtain ⟨x, y, r, rfl, h⟩ := hE
    exact xo_ixor F hd (hK _ _ _ _ h)
  case iushr =>
    obtain rfl : n = 1 := Nat.eq_of_beq_eq_true hok
    simp only [xstp] at h
    have hE := xI2_e h
    clear h
    obtain ⟨x, y, r, rfl, h⟩ := hE
    exact xo_iushr F hd (hK _ _ _ _ h)
  case idiv =>
    obtain rfl : n = 1 := Nat.eq_of_beq_eq_true hok
    simp only [xstp] at h
    have hE := xI2_e h
    clear h
    obtain ⟨x, y, r, rfl, h0, h⟩ := hE
    exact xo_idiv F hd h0 (hK _ _ _ _ h)
  case irem =>
    obtain rfl : n = 1 := Nat.eq_of_beq_eq_true hok
    simp only [xstp] at h
    have hE := xI2_e h
    clear h
    obtain ⟨x, y, r, rfl, h0, h⟩ := hE
    exact xo_irem F hd h0 (hK _ _ _ _ h)
  case ineg =>
    obtain rfl : n = 1 := Nat.eq_of_beq_eq_true hok
    simp only [xstp] at h
    have hE := xI1_e h
    clear h
    obtain ⟨x, r, rfl, h⟩ := hE
    exact xo_ineg F hd (hK _ _ _ _ h)
  case i2b =>
    obtain rfl : n = 1 := Nat.eq_of_beq_eq_true hok
    simp only [xstp] at h
    have hE := xI1_e h
    clear h
    obtain ⟨x, r, rfl, h⟩ := hE
    exact xo_i2b F hd (hK _ _ _ _ h)
  case i2s =>
    obtain rfl : n = 1 := Nat.eq_of_beq_eq_true hok
    simp only [xstp] at h
    have hE := xI1_e h
    clear h
    obtain ⟨x, r, rfl, h⟩ := hE
    exact xo_i2s F hd (hK _ _ _ _ h)
  case i2c =>
    obtain rfl : n = 1 := Nat.eq_of_beq_eq_true hok
    simp only [xstp] at h
    have hE := xI1_e h
    clear h
    obtain ⟨x, r, rfl, h⟩ := hE
    exact xo_i2c F hd (hK _ _ _ _ h)
  case i2l =>
    obtain rfl : n = 1 := Nat.eq_of_beq_eq_true hok
    simp only [xstp] at h
    have hE := xI1_e h
    clear h
    obtain ⟨x, r, rfl, h⟩ := hE
    exact xo_i2l F hd (hK _ _ _ _ h)
  case l2i =>
    obtain rfl : n = 1 := Nat.eq_of_beq_eq_true hok
    simp only [xstp] at h
    have hE := xL1_e h
    clear h
    obtain ⟨x, r, rfl, h⟩ := hE
    exact xo_l2i F hd (hK _ _ _ _ h)
  case land =>
    obtain rfl : n = 1 := Nat.eq_of_beq_eq_true hok
    simp only [xstp] at h
    have hE := xL2_e h
    clear h
    obtain ⟨x, y, r, rfl, h⟩ := hE
    exact xo_land F hd (hK _ _ _ _ h)
  case lor =>
    obtain rfl : n = 1 := Nat.eq_of_beq_eq_true hok
    simp only [xstp] at h
    have hE := xL2_e h
    clear h
    obtain ⟨x, y, r, rfl, h⟩ := hE
    exact xo_lor F hd (hK _ _ _ _ h)
  case lshl =>
    obtain rfl : n = 1 := Nat.eq_of_beq_eq_true hok
    simp only [xstp] at h
    have hE := xLI_e h
    clear h
    obtain ⟨x, y, r, rfl, h⟩ := hE
    exact xo_lshl F hd (hK _ _ _ _ h)
  case lshr =>
    obtain rfl : n = 1 := Nat.eq_of_beq_eq_true hok
    simp only [xstp] at h
    have hE := xLI_e h
    clear h
    obtain ⟨x, y, r, rfl, h⟩ := hE
    exact xo_lshr F hd (hK _ _ _ _ h)
  case lushr =>
    obtain rfl : n = 1 := Nat.eq_of_beq_eq_true hok
    simp only [xstp] at h
    have hE := xLI_e h
    clear h
    obtain ⟨x, y, r, rfl, h⟩ := hE
    exact xo_lushr F hd (hK _ _ _ _ h)
  case iconst z =>
    have hok := Bool.and_eq_true _ _ ▸ hok
    obtain rfl : n = 1 := Nat.eq_of_beq_eq_true hok.1
    simp only [xstp] at h
    have h2 := of_decide_eq_true hok.2
    exact xo_iconst F hd (show xr z from ⟨by omega, by omega⟩) (hK _ _ _ _ h)
  case bipush z =>
    have hok := Bool.and_eq_true _ _ ▸ hok
    obtain rfl : n = 2 := Nat.eq_of_beq_eq_true hok.1
    simp only [xstp] at h
    exact xo_bipush F hd (of_decide_eq_true hok.2) (hK _ _ _ _ h)
  case sipush z =>
    have hok := Bool.and_eq_true _ _ ▸ hok
    obtain rfl : n = 3 := Nat.eq_of_beq_eq_true hok.1
    simp only [xstp] at h
    exact xo_sipush F hd (of_decide_eq_true hok.2) (hK _ _ _ _ h)
  case ldc x =>
    obtain rfl : n = 2 := Nat.eq_of_beq_eq_true hok
    simp only [xstp] at h
    split at h
    · rename_i v hv
      exact xo_ldc F hd hv (hK _ _ _ _ h)
    · split at h
      · rename_i z hz
        exact xo_ldcS F hd hz (hK _ _ _ _ h)
      · exact h.elim
  case ldc_w x =>
    obtain rfl : n = 3 := Nat.eq_of_beq_eq_true hok
    simp only [xstp] at h
    split at h
    · rename_i v hv
      exact xo_ldcw F hd hv (hK _ _ _ _ h)
    · exact h.elim
  case ldc2_w x =>
    obtain rfl : n = 3 := Nat.eq_of_beq_eq_true hok
    simp only [xstp] at h
    split at h
    · rename_i v hv
      exact xo_ldc2 F hd hv (hK _ _ _ _ h)
    · exact h.elim
  case iload_n k =>
    obtain rfl : n = 1 := Nat.eq_of_beq_eq_true hok
    simp only [xstp] at h
    have hE := xvI_e h
    clear h
    obtain ⟨x, hx, h⟩ := hE
    exact xo_iload_n F hd hx (hK _ _ _ _ h)
  case iload k =>
    obtain rfl : n = 2 := Nat.eq_of_beq_eq_true hok
    simp only [xstp] at h
    have hE := xvI_e h
    clear h
    obtain ⟨x, hx, h⟩ := hE
    exact xo_iload F hd hx (hK _ _ _ _ h)
  case lload_n k =>
    obtain rfl : n = 1 := Nat.eq_of_beq_eq_true hok
    simp only [xstp] at h
    have hE := xvL_e h
    clear h
    obtain ⟨x, hx, h⟩ := hE
    exact xo_lload_n F hd hx (hK _ _ _ _ h)
  case aload_n k =>
    obtain rfl : n = 1 := Nat.eq_of_beq_eq_true hok
    simp only [xstp] at h
    have hE := xvR_e h
    clear h
    obtain ⟨t, i, hx, ht, h⟩ := hE
    exact xo_aload_n F hd hx ht (hK _ _ _ _ h)
  case aload k =>
    obtain rfl : n = 2 := Nat.eq_of_beq_eq_true hok
    simp only [xstp] at h
    have hE := xvR_e h
    clear h
    obtain ⟨t, i, hx, ht, h⟩ := hE
    exact xo_aload F hd hx ht (hK _ _ _ _ h)
  case istore_n k =>
    have hok := Bool.and_eq_true _ _ ▸ hok
    obtain rfl : n = 1 := Nat.eq_of_beq_eq_true hok.1
    simp only [xstp] at h
    have hE := xct h
    clear h
    obtain ⟨hg, h⟩ := hE
    have hE := xI1_e h
    clear h
    obtain ⟨x, r, rfl, h⟩ := hE
    exact xo_istore_n F hd (Nat.le_of_ble_eq_true hok.2) hg (hK _ _ _ _ h)
  case istore k =>
    have hok := Bool.and_eq_true _ _ ▸ hok
    obtain rfl : n = 2 := Nat.eq_of_beq_eq_true hok.1
    simp only [xstp] at h
    have hE := xct h
    clear h
    obtain ⟨hg, h⟩ := hE
    have hE := xI1_e h
    clear h
    obtain ⟨x, r, rfl, h⟩ := hE
    exact xo_istore F hd (Nat.le_of_ble_eq_true hok.2) hg (hK _ _ _ _ h)
  case astore_n k =>
    have hok := Bool.and_eq_true _ _ ▸ hok
    obtain rfl : n = 1 := Nat.eq_of_beq_eq_true hok.1
    simp only [xstp] at h
    have hE := xct h
    clear h
    obtain ⟨hg, h⟩ := hE
    have hE := xR1_e h
    clear h
    obtain ⟨t, i, r, rfl, h⟩ := hE
    have hE := xct h
    clear h
    obtain ⟨ht, h⟩ := hE
    exact xo_astore_n F hd (Nat.le_of_ble_eq_true hok.2) hg ht (hK _ _ _ _ h)
  case astore k =>
    have hok := Bool.and_eq_true _ _ ▸ hok
    obtain rfl : n = 2 := Nat.eq_of_beq_eq_true hok.1
    simp only [xstp] at h
    have hE := xct h
    clear h
    obtain ⟨hg, h⟩ := hE
    have hE := xR1_e h
    clear h
    obtain ⟨t, i, r, rfl, h⟩ := hE
    have hE := xct h
    clear h
    obtain ⟨ht, h⟩ := hE
    exact xo_astore F hd (Nat.le_of_ble_eq_true hok.2) hg ht (hK _ _ _ _ h)
  case iinc k z =>
    have hok := Bool.and_eq_true _ _ ▸ hok
    obtain rfl : n = 3 := Nat.eq_of_beq_eq_true hok.1
    simp only [xstp] at h
    have hE := xct h
    clear h
    obtain ⟨hg, h⟩ := hE
    have hE := xvI_e h
    clear h
    obtain ⟨x, hx, h⟩ := hE
    exact xo_iinc F hd (Nat.le_of_ble_eq_true hok.2) hg hx (hK _ _ _ _ h)
  case ifCond cd z =>
    have hok := Bool.and_eq_true _ _ ▸ hok
    obtain rfl : n = 3 := Nat.eq_of_beq_eq_true hok.1
    simp only [xstp] at h
    have hE := xI1_e h
    clear h
    obtain ⟨x, r, rfl, h⟩ := hE
    exact xo_ifCond F hd (xjmp_ok hok.2) (xif_mono (fun h => hK _ _ _ _ h) (fun h => hK _ _ _ _ h) h)
  case if_icmp cd z =>
    have hok := Bool.and_eq_true _ _ ▸ hok
    obtain rfl : n = 3 := Nat.eq_of_beq_eq_true hok.1
    simp only [xstp] at h
    have hE := xI2_e h
    clear h
    obtain ⟨x, y, r, rfl, h⟩ := hE
    exact xo_if_icmp F hd (xjmp_ok hok.2) (xif_mono (fun h => hK _ _ _ _ h) (fun h => hK _ _ _ _ h) h)
  case goto z =>
    have hok := Bool.and_eq_true _ _ ▸ hok
    obtain rfl : n = 3 := Nat.eq_of_beq_eq_true hok.1
    simp only [xstp] at h
    exact xo_goto F hd (xjmp_ok hok.2) (hK _ _ _ _ h)
  case tableswitch d lo hi os =>
    have hok : (xtg pc d && os.toList.all (xtg pc) && decide (hi - lo + 1 = (os.toList.length : Int))) = true := hok
    simp only [Bool.and_eq_true, decide_eq_true_eq] at hok
    simp only [xstp] at h
    have hE := xI1_e h
    clear h
    obtain ⟨x, r, rfl, h⟩ := hE
    refine xo_tsw F hd hok.1.1 hok.1.2 hok.2 ?_
    exact xsw_mono (fun o h => hK _ _ _ _ h) (fun h => hK _ _ _ _ h) _ _ h
  case lookupswitch d ps =>
    have hok : (xtg pc d && ps.toList.all (fun q => xtg pc q.2) && (ps.toList.zip (ps.toList.drop 1)).all (fun (a, next) => a.1 < next.1)) = true := hok
    have hok2 := Bool.and_eq_true _ _ ▸ hok
    have hok3 := Bool.and_eq_true _ _ ▸ hok2.1
    simp only [xstp] at h
    have hE := xI1_e h
    clear h
    obtain ⟨x, r, rfl, h⟩ := hE
    refine xo_lsw F hd hok3.1 hok3.2 hok2.2 ?_
    exact xlsw_mono (fun o h => hK _ _ _ _ h) (fun h => hK _ _ _ _ h) _ h
  case dup =>
    obtain rfl : n = 1 := Nat.eq_of_beq_eq_true hok
    simp only [xstp] at h
    split at h
    · have hE := xv1_e h
      clear h
      obtain ⟨hv, h⟩ := hE
      exact xo_dup F hd hv (hK _ _ _ _ h)
    · exact h.elim
  case pop =>
    obtain rfl : n = 1 := Nat.eq_of_beq_eq_true hok
    simp only [xstp] at h
    split at h
    · have hE := xv1_e h
      clear h
      obtain ⟨hv, h⟩ := hE
      exact xo_pop F hd hv (hK _ _ _ _ h)
    · exact h.elim
  case dup2 =>
    obtain rfl : n = 1 := Nat.eq_of_beq_eq_true hok
    simp only [xstp] at h
    split at h
    · have hE := xv1_e h
      clear h
      obtain ⟨hv, h⟩ := hE
      have hE := xv1_e h
      clear h
      obtain ⟨hw, h⟩ := hE
      exact xo_dup2 F hd hv hw (hK _ _ _ _ h)
    · exact h.elim
  case getfield x =>
    obtain rfl : n = 3 := Nat.eq_of_beq_eq_true hok
    simp only [xstp] at h
    have hE := xR1_e h
    clear h
    obtain ⟨t, i, r, rfl, h⟩ := hE
    split at h
    · rename_i q hq
      have hE := xcf h
      clear h
      obtain ⟨hb, h⟩ := hE
      obtain rfl := Nat.eq_of_beq_eq_true hb
      obtain ⟨q1, q2⟩ := q
      have hk := (xfld_w hq).2.2
      by_cases h1 : q1 = 1
      · subst h1
        have hle := (xro1 hq).2
        rcases (show q2 = 0 ∨ q2 = 1 by omega) with rfl | rfl
        · exact xo_getV F hd hq (hK _ _ _ _ h)
        · exact xo_getC F hd hq (hK _ _ _ _ h)
      · have hk : xkind q1 = 1 := hk.resolve_right h1
        have hb1 : Nat.beq q1 1 = false := by
          cases hb : Nat.beq q1 1 with
          | false => rfl
          | true => exact absurd (Nat.eq_of_beq_eq_true hb) h1
        have hsz : q2 < xsz q1 := (xfld_w hq).2.1.resolve_right h1
        split at h
        · rename_i eqt
          rw [show Nat.beq (q1, q2).1 1 = false from hb1] at h
          have eqt : xft q1 q2 = 0 := eqt
          have ev : xfv xrho σ q1 i q2 = vI (σ q1 i q2) := by unfold xfv; rw [eqt]; rfl
          refine xo_getf (q := (q1, q2)) F hd hq hk (fun hg _ _ => by show xok xcnt (xfv xrho σ q1 i q2); rw [ev]; exact hg _ _ _) ?_
          show xNx p l e R s m args below meth c cells slots _ M A ad ca D xcnt xrho (pc + 3) L (xfv xrho σ q1 i q2 :: r) σ
          rw [ev]
          exact hK _ _ _ _ h
        · rename_i eqt
          have eqt : xft q1 q2 = 1 := eqt
          have ev : xfv xrho σ q1 i q2 = .inr (.inr (xrho q1 i q2)) := by unfold xfv; rw [eqt]; rfl
          refine xo_getf (q := (q1, q2)) F hd hq hk (fun _ hv hr => by show xok xcnt (xfv xrho σ q1 i q2); rw [ev]; exact hr _ _ _ hv hsz) ?_
          show xNx p l e R s m args below meth c cells slots _ M A ad ca D xcnt xrho (pc + 3) L (xfv xrho σ q1 i q2 :: r) σ
          rw [ev]
          exact hK _ _ _ _ h
        · rename_i eqt
          have eqt : xft q1 q2 = 2 := eqt
          obtain ⟨⟨hz1, hz2⟩, h⟩ := h
          have hz1 : 1 ≤ σ q1 i q2 := hz1
          have hz2 : σ q1 i q2 ≤ 3 := hz2
          have ev : xfv xrho σ q1 i q2 = vR 1 (σ q1 i q2).toNat := by
            unfold xfv
            rw [eqt]
            have : Nat.beq (σ q1 i q2).toNat 0 = false := by
              cases hb : Nat.beq (σ q1 i q2).toNat 0 with
              | false => rfl
              | true => exact absurd (Nat.eq_of_beq_eq_true hb) (by omega)
            simp only [this, cond_false]
          refine xo_getf (q := (q1, q2)) F hd hq hk (fun _ _ _ => by show xok xcnt (xfv xrho σ q1 i q2); rw [ev]; exact Or.inr (Or.inl ⟨rfl, by show 1 ≤ (σ q1 i q2).toNat; omega, by show (σ q1 i q2).toNat ≤ 3; omega⟩)) ?_
          show xNx p l e R s m args below meth c cells slots _ M A ad ca D xcnt xrho (pc + 3) L (xfv xrho σ q1 i q2 :: r) σ
          rw [ev]
          exact hK _ _ _ _ h
        · rename_i eqt
          have eqt : xft q1 q2 = 3 := eqt
          have ev : xfv xrho σ q1 i q2 = vI (σ q1 i q2) := by unfold xfv; rw [eqt]; rfl
          refine xo_getf (q := (q1, q2)) F hd hq hk (fun hg _ _ => by show xok xcnt (xfv xrho σ q1 i q2); rw [ev]; exact hg _ _ _) ?_
          show xNx p l e R s m args below meth c cells slots _ M A ad ca D xcnt xrho (pc + 3) L (xfv xrho σ q1 i q2 :: r) σ
          rw [ev]
          exact hK _ _ _ _ h
        · exact h.elim
    · exact h.elim
  case putfield x =>
    obtain rfl : n = 3 := Nat.eq_of_beq_eq_true hok
    simp only [xstp] at h
    split at h
    · rename_i v st'
      have hE := xR1_e h
      clear h
      obtain ⟨t, i, r, rfl, h⟩ := hE
      split at h
      · rename_i q hq
        have hE := xcf h
        clear h
        obtain ⟨hb, h⟩ := hE
        obtain rfl := Nat.eq_of_beq_eq_true hb
        obtain ⟨q1, q2⟩ := q
        have hkk := (xfld_w hq).2.2
        have hn1 : q1 ≠ 1 := by
          rintro rfl
          have hle := (xro1 hq).2
          rcases (show q2 = 0 ∨ q2 = 1 by omega) with rfl | rfl
          · exact h.elim
          · exact h.elim
        have hk : xkind q1 = 1 := hkk.resolve_right hn1
        have hsz : q2 < xsz q1 := (xfld_w hq).2.1.resolve_right hn1
        have hty := xfty hk hsz
        split at h
        · rename_i eqt
          have eqt : xft q1 q2 = 0 := eqt
          rw [eqt] at hty
          have hty := of_decide_eq_true hty
          have hE := xct h
          clear h
          obtain ⟨-, h⟩ := hE
          have hE := xvI_e h
          clear h
          obtain ⟨y, rfl, h⟩ := hE
          intro H locs ls hW hS hL hs
          have hy := (xoks_c.mp hs).1
          refine xo_putf (q := (q1, q2)) (y := y) F hd hq hk hy hty.2 (by show narrow (xty q1 q2) _ = _; rw [hty.1]; rfl) (by show fits (xty q1 q2) _ = _; rw [hty.1]; rfl) ?_ (hK _ _ _ _ h) H locs ls hW hS hL hs
          unfold xfv
          rw [show xft (q1, q2).1 (q1, q2).2 = 0 from eqt, xup_at, if_pos rfl]
          rfl
        · rename_i eqt
          have eqt : xft q1 q2 = 2 := eqt
          rw [eqt] at hty
          have hty := of_decide_eq_true hty
          have hE := xvR_e h
          clear h
          obtain ⟨a, z, rfl, ha, h⟩ := hE
          have hE := xcf h
          clear h
          obtain ⟨hb, h⟩ := hE
          obtain rfl := Nat.eq_of_beq_eq_true hb
          intro H locs ls hW hS hL hs
          have hy := xok_1 (xoks_c.mp hs).1
          refine xo_putf (q := (q1, q2)) (y := (z : Int)) F hd hq hk (show xr (z : Int) from ⟨by omega, by omega⟩) hty.2 (by show narrow (xty q1 q2) _ = _; rw [hty.1]; rfl) (by show fits (xty q1 q2) _ = _; rw [hty.1]; rfl) ?_ (hK _ _ _ _ h) H locs ls hW hS hL hs
          unfold xfv
          rw [show xft (q1, q2).1 (q1, q2).2 = 2 from eqt, xup_at, if_pos rfl]
          have : Nat.beq ((z : Int)).toNat 0 = false := by
            cases hb : Nat.beq ((z : Int)).toNat 0 with
            | false => rfl
            | true => exact absurd (Nat.eq_of_beq_eq_true hb) (by omega)
          simp only [this, cond_false]
          rfl
        · rename_i eqt
          have eqt : xft q1 q2 = 3 := eqt
          rw [eqt] at hty
          have hty := of_decide_eq_true hty
          have hE := xvI_e h
          clear h
          obtain ⟨y, rfl, h01, h⟩ := hE
          have hfit : fits .boolean (.int (Int32.ofInt y)) = true := by rcases h01 with rfl | rfl <;> decide +kernel
          refine xo_putf (q := (q1, q2)) (y := y) F hd hq hk (show xr y from ⟨by omega, by omega⟩) hty.2 (by show narrow (xty q1 q2) _ = _; rw [hty.1]; exact xn_nz h01) (by show fits (xty q1 q2) _ = _; rw [hty.1]; exact hfit) ?_ (hK _ _ _ _ h)
          unfold xfv
          rw [show xft (q1, q2).1 (q1, q2).2 = 3 from eqt, xup_at, if_pos rfl]
          rfl
        · exact h.elim
      · exact h.elim
    · exact h.elim
  case iaload =>
    obtain rfl : n = 1 := Nat.eq_of_beq_eq_true hok
    simp only [xstp] at h
    have hE := xIR_e h
    clear h
    obtain ⟨t, i, x, r, rfl, h⟩ := hE
    cases hb : xints t with
    | true =>
      rw [hb] at h
      exact xo_iaload F hd (Nat.eq_of_beq_eq_true hb) h.1 (hK _ _ _ _ h.2)
    | false =>
      rw [hb] at h
      have hE := xcf h
      clear h
      obtain ⟨h3, hx, h⟩ := hE
      obtain rfl := Nat.eq_of_beq_eq_true h3
      exact xo_iloadA F hd hx (hK _ _ _ _ h)
  case iastore =>
    obtain rfl : n = 1 := Nat.eq_of_beq_eq_true hok
    simp only [xstp] at h
    have hE := xIIR_e h
    clear h
    obtain ⟨t, i, x, v, r, rfl, h⟩ := hE
    have hE := xcf h
    clear h
    obtain ⟨hb, hx, h⟩ := hE
    exact xo_iastore F hd (Nat.eq_of_beq_eq_true hb) hx (hK _ _ _ _ h)
  case baload =>
    obtain rfl : n = 1 := Nat.eq_of_beq_eq_true hok
    simp only [xstp] at h
    have hE := xIR_e h
    clear h
    obtain ⟨t, i, x, r, rfl, h⟩ := hE
    cases hb : Nat.beq (xkind t) 3 with
    | true =>
      rw [hb] at h
      exact xo_zaload F hd (Nat.eq_of_beq_eq_true hb) h.1 (hK _ _ _ _ h.2)
    | false =>
      rw [hb] at h
      have hE := xcf h
      clear h
      obtain ⟨h3, hx, h⟩ := hE
      obtain rfl := Nat.eq_of_beq_eq_true h3
      exact xo_bload F hd hx (hK _ _ _ _ h)
  case bastore =>
    obtain rfl : n = 1 := Nat.eq_of_beq_eq_true hok
    simp only [xstp] at h
    have hE := xIIR_e h
    clear h
    obtain ⟨t, i, x, v, r, rfl, h⟩ := hE
    have hE := xcf h
    clear h
    obtain ⟨hb, hx, h01, h⟩ := hE
    exact xo_zastore F hd (Nat.eq_of_beq_eq_true hb) hx h01 (hK _ _ _ _ h)
  case aaload =>
    obtain rfl : n = 1 := Nat.eq_of_beq_eq_true hok
    simp only [xstp] at h
    have hE := xIR_e h
    clear h
    obtain ⟨t, i, x, r, rfl, h⟩ := hE
    have hE := xcf h
    clear h
    obtain ⟨hb, hx, h⟩ := hE
    exact xo_aaload F hd (Nat.eq_of_beq_eq_true hb) hx (hK _ _ _ _ h)
  case arraylength =>
    obtain rfl : n = 1 := Nat.eq_of_beq_eq_true hok
    simp only [xstp] at h
    have hE := xR1_e h
    clear h
    obtain ⟨t, i, r, rfl, h⟩ := hE
    cases hb : Nat.ble 2 (xkind t) with
    | true =>
      rw [hb] at h
      exact xo_alen F hd (Nat.le_of_ble_eq_true hb) (hK _ _ _ _ h)
    | false =>
      rw [hb] at h
      have hE := xcf h
      clear h
      obtain ⟨h3, h⟩ := hE
      obtain rfl := Nat.eq_of_beq_eq_true h3
      exact xo_blen F hd (hK _ _ _ _ h)
  case getstatic x =>
    obtain rfl : n = 3 := Nat.eq_of_beq_eq_true hok
    simp only [xstp] at h
    split at h
    · rename_i hs
      exact xo_gsA F hd hs (hK _ _ _ _ h)
    · rename_i hs
      exact xo_gsC F hd hs (hK _ _ _ _ h)
    · exact h.elim
  case ireturn =>
    obtain rfl : n = 1 := Nat.eq_of_beq_eq_true hok
    simp only [xstp] at h
    split at h
    · split at h
      · rename_i hk
        exact xo_iret F hM hd (Or.inl hk) (hRr _ h)
      · rename_i hk
        exact xo_iret F hM hd (Or.inr (Or.inl ⟨hk, h.1⟩)) (hRr _ h.2)
      · rename_i hk
        exact xo_iret F hM hd (Or.inr (Or.inr ⟨hk, h.1⟩)) (hRr _ h.2)
      · exact h.elim
    · exact h.elim
  case return_ =>
    obtain rfl : n = 1 := Nat.eq_of_beq_eq_true hok
    simp only [xstp] at h
    split at h
    · split at h
      · rename_i hk
        exact xo_vret F hM hd hk (hRr _ h)
      · exact h.elim
    · exact h.elim
  case invokevirtual x =>
    obtain rfl : n = 3 := Nat.eq_of_beq_eq_true hok
    simp only [xstp] at h
    split at h
    · rename_i q hq
      have hE := xtake_spec _ _ _ h
      clear h
      obtain ⟨b, r, hlen, rfl, h⟩ := hE
      rw [List.append_nil] at h
      have hE := xcf h
      clear h
      obtain ⟨hcd, h⟩ := hE
      simp only [Bool.and_eq_true] at hcd
      obtain ⟨⟨⟨hk0, hrc⟩, hnl⟩, hr8⟩ := hcd
      obtain ⟨k, kd⟩ := q
      obtain rfl : kd = 0 := Nat.eq_of_beq_eq_true hk0
      have hkN : k < xN := xkN hq (by omega)
      obtain ⟨d, Qk, hR1, hm, hk⟩ := hC _ _ _ hkN hnl (by rw [List.length_reverse]; exact hlen) h
      have hm' : xMet l d k b.reverse σ Qk := hm
      cases hrt : (xrec k).2.2.2.1 with
      | zero => exact absurd hrt (xk0 hq)
      | succ t' =>
        cases hbr : b.reverse with
        | nil =>
          rw [hbr, hrt] at hrc
          cases hrc
        | cons v as =>
          rw [hbr, hrt] at hrc
          obtain ⟨i, rfl⟩ : ∃ i, v = vR (t' + 1) i := by
            rcases v with v | v | v
            · cases hrc
            · cases hrc
            · obtain ⟨v1, v2⟩ := v
              obtain rfl : v1 = t' + 1 := Nat.eq_of_beq_eq_true hrc
              exact ⟨v2, rfl⟩
          have hb : b = as.reverse ++ [vR (t' + 1) i] := by
            have := congrArg List.reverse hbr
            rwa [List.reverse_reverse, List.reverse_cons] at this
          rw [hbr] at hm'
          subst hb
          rw [List.append_assoc]
          refine xo_callV F hd hq hkN hrt (Nat.succ_ne_zero _) ?_ hr8 hR1.1 hR1.2 hc hsl (by rw [List.reverse_reverse]; exact hm') hk
          rw [← hlen, List.length_append]
          rfl
    · exact h.elim
  case invokestatic x =>
    obtain rfl : n = 3 := Nat.eq_of_beq_eq_true hok
    simp only [xstp] at h
    split at h
    · rename_i q hq
      obtain ⟨k, kd⟩ := q
      split at h
      · rename_i eqt
        obtain rfl : kd = 6 := eqt
        split at h
        · have hE := xcf h
          clear h
          obtain ⟨hcd, hh, h⟩ := hE
          simp only [Bool.and_eq_true] at hcd
          obtain ⟨⟨ha, hb⟩, hr8⟩ := hcd
          have hk9 : k = 999 := xk999 hq (by omega)
          subst hk9
          exact xo_copy F hd hq hr8 hRf hRl (Nat.eq_of_beq_eq_true ha) (Nat.eq_of_beq_eq_true hb) hh (hK _ _ _ _ h)
        · exact h.elim
      · rename_i eqt
        obtain rfl : kd = 7 := eqt
        have hE := xI2_e h
        clear h
        obtain ⟨a, b, r, rfl, h⟩ := hE
        have hE := xcf h
        clear h
        obtain ⟨hr8, h⟩ := hE
        have hk9 : k = 999 := xk999 hq (by omega)
        subst hk9
        exact xo_max F hd hq hr8 hRf hRl hc hsl (hK _ _ _ _ h)
      · rename_i eqt
        obtain rfl : kd = 8 := eqt
        have hE := xI2_e h
        clear h
        obtain ⟨a, b, r, rfl, h⟩ := hE
        have hE := xcf h
        clear h
        obtain ⟨hr8, h⟩ := hE
        have hk9 : k = 999 := xk999 hq (by omega)
        subst hk9
        exact xo_min F hd hq hr8 hRf hRl hc hsl (hK _ _ _ _ h)
      · rename_i eqt
        obtain rfl : kd = 1 := eqt
        have hE := xtake_spec _ _ _ h
        clear h
        obtain ⟨b, r, hlen, rfl, h⟩ := hE
        rw [List.append_nil] at h
        have hE := xcf h
        clear h
        obtain ⟨hcd, h⟩ := hE
        simp only [Bool.and_eq_true] at hcd
        obtain ⟨⟨h0, hnl⟩, hr8⟩ := hcd
        have hkN : k < xN := xkN hq (by omega)
        obtain ⟨d, Qk, hR1, hm, hk⟩ := hC _ _ _ hkN hnl (by rw [List.length_reverse]; exact hlen) h
        exact xo_callS F hd hq (Or.inl rfl) hkN (Nat.eq_of_beq_eq_true h0) hlen hr8 hR1.1 hR1.2 hc hsl hm hk
      · rename_i eqt
        obtain rfl : kd = 3 := eqt
        have hE := xtake_spec _ _ _ h
        clear h
        obtain ⟨b, r, hlen, rfl, h⟩ := hE
        rw [List.append_nil] at h
        have hE := xcf h
        clear h
        obtain ⟨hcd, h⟩ := hE
        simp only [Bool.and_eq_true] at hcd
        obtain ⟨⟨h0, hnl⟩, hr8⟩ := hcd
        have hkN : k < xN := xkN hq (by omega)
        obtain ⟨d, Qk, hR1, hm, hk⟩ := hC _ _ _ hkN hnl (by rw [List.length_reverse]; exact hlen) h
        exact xo_callS F hd hq (Or.inr rfl) hkN (Nat.eq_of_beq_eq_true h0) hlen hr8 hR1.1 hR1.2 hc hsl hm hk
      · exact h.elim
    · exact h.elim
end XS
end
section
/-! MANY STEPS: what the plain machine comes to, the machine comes to -/
theorem xents_len (ad : Nat → Nat → Nat) : ∀ (as : List xV), (lg_sl (as.map (xcv ad))).length = (xents as).length
  | [] => rfl
  | v :: r => by
    have ih := xents_len ad r
    unfold lg_sl at ih ⊢
    rw [List.map_cons, List.flatMap_cons, List.length_append, ih]
    rcases v with x | x | q
    · show 1 + _ = (xents r).length + 1
      omega
    · show 2 + _ = (xents r).length + 1 + 1
      omega
    · show _ = (xents r).length + 1
      have h1 : (xcv ad (.inr (.inr q))).category = 1 := xcat1 (fun z e => by cases e)
      rw [h1, if_neg (by decide)]
      show 1 + _ = _
      omega
theorem xents_args (ad : Nat → Nat → Nat) : ∀ (as : List xV) (off j : Nat) (v : xV), (xents as)[j]? = some v → xnn v = true → (off + j, xcv ad v) ∈ lv_args off (as.map (xcv ad))
  | [], _, _, _, h, _ => by cases h
  | a :: r, off, j, v, h, hn => by
    rw [List.map_cons]
    simp only [lv_args]
    rcases a with x | x | q
    · cases j with
      | zero =>
        obtain rfl := Option.some.inj (show some (vI x) = some v from h)
        exact List.mem_cons_self
      | succ j =>
        have := xents_args ad r (off + 1) j v h hn
        rw [show off + (j + 1) = off + 1 + j by omega]
        exact List.mem_cons_of_mem _ this
    · match j, h with
      | 0, h =>
        obtain rfl := Option.some.inj (show some (vL x) = some v from h)
        exact List.mem_cons_self
      | 1, h =>
        obtain rfl := Option.some.inj (show some (vR 0 0) = some v from h)
        cases hn
      | j + 2, h =>
        have := xents_args ad r (off + 2) j v h hn
        rw [show off + (j + 2) = off + 2 + j by omega]
        exact List.mem_cons_of_mem _ this
    · have h1 : (xcv ad (.inr (.inr q))).category = 1 := xcat1 (fun z e => by cases e)
      rw [h1, if_neg (by decide)]
      cases j with
      | zero =>
        obtain rfl := Option.some.inj (show some (Sum.inr (Sum.inr q)) = some v from h)
        exact List.mem_cons_self
      | succ j =>
        have := xents_args ad r (off + 1) j v h hn
        rw [show off + (j + 1) = off + 1 + j by omega]
        exact List.mem_cons_of_mem _ this
theorem xents_ok {cnt : Nat → Nat} : ∀ (as : List xV), xoks cnt as → ∀ (j : Nat) (v : xV), (xents as)[j]? = some v → xok cnt v
  | [], _, _, _, h => by cases h
  | a :: r, hs, j, v, h => by
    obtain ⟨h1, h2⟩ := xoks_c.mp hs
    rcases a with x | x | q
    · cases j with
      | zero =>
        obtain rfl := Option.some.inj (show some (vI x) = some v from h)
        exact h1
      | succ j => exact xents_ok r h2 j v h
    · match j, h with
      | 0, h =>
        obtain rfl := Option.some.inj (show some (vL x) = some v from h)
        exact h1
      | 1, h =>
        obtain rfl := Option.some.inj (show some (vR 0 0) = some v from h)
        exact Or.inl rfl
      | j + 2, h => exact xents_ok r h2 j v h
    · cases j with
      | zero =>
        obtain rfl := Option.some.inj (show some (Sum.inr (Sum.inr q)) = some v from h)
        exact h1
      | succ j => exact xents_ok r h2 j v h
theorem xpad_at : ∀ (n j : Nat) (v : xV), (xpad n)[j]? = some v → v = vR 0 0
  | 0, _, _, h => by cases h
  | n + 1, 0, v, h => (Option.some.inj h).symm
  | n + 1, j + 1, v, h => xpad_at n j v h
theorem xpad_len : ∀ (n : Nat), (xpad n).length = n
  | 0 => rfl
  | n + 1 => congrArg (· + 1) (xpad_len n)
theorem xfit_len : ∀ (l : List xV) (n : Nat), (xfit l n).length = n
  | l, 0 => by cases l <;> rfl
  | [], n + 1 => xpad_len (n + 1)
  | v :: r, n + 1 => congrArg (· + 1) (xfit_len r n)
theorem xfit_at : ∀ (l : List xV) (n j : Nat) (v : xV), (xfit l n)[j]? = some v → l[j]? = some v ∨ v = vR 0 0
  | l, 0, j, v, h => by cases l <;> cases h
  | [], n + 1, j, v, h => Or.inr (xpad_at (n + 1) j v h)
  | a :: r, n + 1, 0, v, h => Or.inl h
  | a :: r, n + 1, j + 1, v, h => xfit_at r n j v h
theorem xlr_entry {k : Nat} {ad : Nat → Nat → Nat} {as : List xV} (hs : xoks xcnt as) (hl : ∀ j z, (xents as)[j]? = some (vL z) → xlg k j = true) (hn : (xents as).length ≤ (xrec k).2.1) :
    xLr k xcnt ad (xent k as) ((lg_sl (as.map (xcv ad)) ++ List.replicate ((xrec k).2.1 - (lg_sl (as.map (xcv ad))).length) Slot.unset).toArray) := by
  have h := lv_entry (as.map (xcv ad)) (n := (xrec k).2.1) (by rw [xents_len]; exact hn)
  refine ⟨h.1, h.2.1, xfit_len _ _, fun j v hj => ?_⟩
  rcases xfit_at _ _ _ _ hj with h1 | rfl
  · refine ⟨xents_ok as hs j v h1, fun z e => hl j z (by rw [← e]; exact h1), fun hv => ?_⟩
    have h2 := h.2.2 _ (xents_args ad as 0 j v h1 hv)
    rw [Nat.zero_add] at h2
    exact h2
  · exact ⟨Or.inl rfl, fun z e => (by cases e), fun hv => (by cases hv)⟩
theorem xmet_of {l : Launch} {d k : Nat} {as : List xV} {σ : xM} {Qk : Int → xM → Prop} (hk : k < xN) (hl : ∀ j z, (xents as)[j]? = some (vL z) → xlg k j = true) (hn : (xents as).length ≤ (xrec k).2.1)
    (H : ∀ (p : Program) (e : Env) (R : Room) (s : State) (m : MethodId) (args : Array Value) (below : List Frame) (meth : Method) (c : Code) (A : Nat → Prop) (ad : Nat → Nat → Nat) (ca : Nat → Nat → ClassId) (D : va_G), xFix p s m args meth c k A ad D → d + 1 ≤ R.frames → 40 * d + 40 ≤ R.locals →
      xNx p l e R s m args below meth c 0 0 (MQ below (xQc (xvoid k) Qk (fun σ' t => xWd D ad ca xcnt xrho σ' A t t.heap) A) args s 0 0 A) k A ad ca D xcnt xrho 0 (xent k as) [] σ) : xMet l d k as σ Qk := by
  intro D ad ca sz
  refine Met.ofW (cc := (xy k).2.1) (maxL := (xrec k).2.1) (ret := (xy k).2.2) (xm_a hk).2.2.2.2 rfl ?_
  intro p e s m args below meth c s₁ B hml hv
  obtain ⟨rfl, hsz, hW, hK, hex, hro, hoks⟩ := hv
  subst hsz
  have hown : s.vm.findClass (xow k) = some m.cls := by
    rw [← (xm_a hk).2.2.1]
    exact findClass_of_methodNamed B.named
  have F : xFix p s m (as.map (xcv ad)).toArray meth c k (xAs ad xcnt s.heap.size) ad D := ⟨B.exec, B.bytes, hml, B.returns, hown, B.notSynchronized, fun w hw => atoms_spec (ws := xws k) B.pre w (List.mem_cons_of_mem _ hw), hex, fun q h => Or.inr h, hro, hK, (name_of_methodNamed B.named B.method).1⟩
  rw [lg_entry_eq]
  exact H p e _ s m _ below meth c _ ad ca D F (Nat.le_refl _) (Nat.le_refl _) s.heap [] _ hW va_S.rf (xlr_entry hoks hl hn) (fun v hv => by cases hv)
theorem xents_nl : ∀ (as : List xV), xnl as = true → xents as = as
  | [], _ => rfl
  | .inl x :: r, h => congrArg _ (xents_nl r h)
  | .inr (.inl x) :: r, h => by cases h
  | .inr (.inr q) :: r, h => congrArg _ (xents_nl r h)
theorem xnl_no : ∀ (as : List xV), xnl as = true → ∀ (j : Nat) (z : Int), as[j]? ≠ some (vL z)
  | [], _, _, _, h => by cases h
  | .inl x :: r, hn, 0, z, h => by cases h
  | .inl x :: r, hn, j + 1, z, h => xnl_no r hn j z h
  | .inr (.inl x) :: r, hn, _, _, _ => by cases hn
  | .inr (.inr q) :: r, hn, 0, z, h => by cases h
  | .inr (.inr q) :: r, hn, j + 1, z, h => xnl_no r hn j z h
theorem xF_succ (n d M pc : Nat) (L st : List xV) (σ : xM) (Q : Int → xM → Prop) : xF (n + 1) d M pc L st σ Q = (match xat M pc with
    | none => False
    | some q => xstp q.1 M pc L st σ (fun pc' L' st' σ' => xF n d M pc' L' st' σ' Q)
        (fun k as r => match d with
          | 0 => False
          | d' + 1 => xF n d' k 0 (xent k as) [] σ (fun v σ' => xF n (d' + 1) M (pc + 3) L (xpush k v r) σ' Q))
        (fun v => Q v σ)) := rfl
theorem xsim (l : Launch) : ∀ (n d M pc : Nat) (L st : List xV) (σ : xM) (Qm : Int → xM → Prop), xF n d M pc L st σ Qm → ∀ (p : Program) (e : Env) (R : Room) (s : State) (m : MethodId) (args : Array Value) (below : List Frame) (meth : Method) (c : Code) (A : Nat → Prop) (ad : Nat → Nat → Nat) (ca : Nat → Nat → ClassId) (D : va_G), xFix p s m args meth c M A ad D → d + 1 ≤ R.frames → 40 * d + 40 ≤ R.locals →
      xNx p l e R s m args below meth c 0 0 (MQ below (xQc (xvoid M) Qm (fun σ' t => xWd D ad ca xcnt xrho σ' A t t.heap) A) args s 0 0 A) M A ad ca D xcnt xrho pc L st σ
  | 0, _, _, _, _, _, _, _, h => by cases h
  | n + 1, d, M, pc, L, st, σ, Qm, h => by
    intro p e R s m args below meth c A ad ca D F hRf hRl
    rw [xF_succ] at h
    cases hat : xat M pc with
    | none => rw [hat] at h; exact h.elim
    | some q =>
      rw [hat] at h
      obtain ⟨hd, hok, hM⟩ := xat_ok hat
      refine xstep0 F (by omega) (by omega) (Nat.zero_le _) (Nat.zero_le _) (fun pc' L' st' σ' hk => xsim l n d M pc' L' st' σ' Qm hk p e R s m args below meth c A ad ca D F hRf hRl) ?_ (fun v hv => hv) hM q.1 q.2 hd hok h
      intro k as r hkN hnl hlen hC
      cases d with
      | zero => exact hC.elim
      | succ d' =>
        refine ⟨d', _, ⟨hRf, by omega⟩, xmet_of hkN (fun j z hz => ?_) ?_ (fun p e R s m args below meth c A ad ca D F h1 h2 => xsim l n d' k 0 (xent k as) [] σ _ hC p e R s m args below meth c A ad ca D F h1 h2), fun v σ' _ hq => xsim l n (d' + 1) M (pc + 3) L (xpush k v r) σ' Qm hq p e R s m args below meth c A ad ca D F hRf hRl⟩
        · rw [xents_nl as hnl] at hz
          exact absurd hz (xnl_no as hnl j z)
        · rw [xents_nl as hnl, hlen]
          exact (xna hkN).1
/-- what the plain machine says of a method is its contract -/
theorem xmet {l : Launch} {d k : Nat} {as : List xV} {σ : xM} {Q : Int → xM → Prop} (hk : k < xN) (hl : ∀ j z, (xents as)[j]? = some (vL z) → xlg k j = true) (hn : (xents as).length ≤ (xrec k).2.1) (h : Ev d k 0 (xent k as) [] σ Q) : xMet l d k as σ Q := by
  obtain ⟨n, h⟩ := h
  exact xmet_of hk hl hn (fun p e R s m args below meth c A ad ca D F h1 h2 => xsim l n d k 0 (xent k as) [] σ Q h p e R s m args below meth c A ad ca D F h1 h2)
end
section
/-! THE PLAIN MACHINE IS DETERMINED: what it comes to, said step by step -/
abbrev xTK : Type := Nat → List xV → List xV → xM → Prop
abbrev xTC : Type := Nat → List xV → List xV → Prop
abbrev xTR : Type := Int → Prop
def xdet (P : xTK → xTC → xTR → Prop) : Prop := ∀ K C R, P K C R → (∃ a b c d, K a b c d ∧ ∀ K' C' R', K' a b c d → P K' C' R') ∨ (∃ k as r, C k as r ∧ ∀ K' C' R', C' k as r → P K' C' R') ∨ (∃ v, R v ∧ ∀ (K' : xTK) (C' : xTC) (R' : xTR), R' v → P K' C' R')
theorem xdet_F : xdet (fun _ _ _ => False) := fun _ _ _ h => h.elim
theorem xdet_K {a : Nat} {b c : List xV} {d : xM} : xdet (fun K _ _ => K a b c d) := fun _ _ _ h => Or.inl ⟨a, b, c, d, h, fun _ _ _ h => h⟩
theorem xdet_C {k : Nat} {as r : List xV} : xdet (fun _ C _ => C k as r) := fun _ _ _ h => Or.inr (Or.inl ⟨k, as, r, h, fun _ _ _ h => h⟩)
theorem xdet_R {v : Int} : xdet (fun _ _ R => R v) := fun _ _ _ h => Or.inr (Or.inr ⟨v, h, fun _ _ _ h => h⟩)
theorem xdet_and {c : Prop} {P : xTK → xTC → xTR → Prop} (h : xdet P) : xdet (fun K C R => c ∧ P K C R) := by
  intro K C R ⟨hc, hp⟩
  rcases h K C R hp with ⟨a, b, c', d, h1, h2⟩ | ⟨k, as, r, h1, h2⟩ | ⟨v, h1, h2⟩
  · exact Or.inl ⟨a, b, c', d, h1, fun K' C' R' hk => ⟨hc, h2 K' C' R' hk⟩⟩
  · exact Or.inr (Or.inl ⟨k, as, r, h1, fun K' C' R' hk => ⟨hc, h2 K' C' R' hk⟩⟩)
  · exact Or.inr (Or.inr ⟨v, h1, fun K' C' R' hk => ⟨hc, h2 K' C' R' hk⟩⟩)
theorem xdet_cond {b : Bool} {P S : xTK → xTC → xTR → Prop} (h1 : xdet P) (h2 : xdet S) : xdet (fun K C R => cond b (P K C R) (S K C R)) := by
  cases b
  · exact h2
  · exact h1
theorem xdet_ite {p : Prop} [Decidable p] {P S : xTK → xTC → xTR → Prop} (h1 : xdet P) (h2 : xdet S) : xdet (fun K C R => if p then P K C R else S K C R) := by
  by_cases hp : p
  · simp only [hp, if_true]; exact h1
  · simp only [hp, if_false]; exact h2
theorem xdet_if {cd : ClassFile.Cond} {x y : Int} {P S : xTK → xTC → xTR → Prop} (h1 : xdet P) (h2 : xdet S) : xdet (fun K C R => xif cd x y (P K C R) (S K C R)) := by
  cases cd <;> simp only [xif] <;> first | exact xdet_ite h1 h2 | exact xdet_ite h2 h1
theorem xdet_sw {x : Int} {f : Int → xTK → xTC → xTR → Prop} {S : xTK → xTC → xTR → Prop} (h1 : ∀ o, xdet (f o)) (h2 : xdet S) : ∀ (os : List Int) (lo : Int), xdet (fun K C R => xsw x lo os (fun o => f o K C R) (S K C R))
  | [], _ => h2
  | o :: os, lo => by
    simp only [xsw]
    exact xdet_ite (h1 o) (xdet_sw h1 h2 os (lo + 1))
theorem xdet_lsw {x : Int} {f : Int → xTK → xTC → xTR → Prop} {S : xTK → xTC → xTR → Prop} (h1 : ∀ o, xdet (f o)) (h2 : xdet S) : ∀ (ps : List (Int × Int)), xdet (fun K C R => xlsw x ps (fun o => f o K C R) (S K C R))
  | [] => h2
  | q :: r => by
    simp only [xlsw]
    exact xdet_ite (h1 q.2) (xdet_lsw h1 h2 r)
theorem xdet_I1 {st : List xV} {f : Int → List xV → xTK → xTC → xTR → Prop} (h : ∀ x r, xdet (f x r)) : xdet (fun K C R => xI1 st (fun x r => f x r K C R)) := by
  unfold xI1
  split
  · exact h _ _
  · exact xdet_F
theorem xdet_I2 {st : List xV} {f : Int → Int → List xV → xTK → xTC → xTR → Prop} (h : ∀ x y r, xdet (f x y r)) : xdet (fun K C R => xI2 st (fun x y r => f x y r K C R)) := by
  unfold xI2
  split
  · exact h _ _ _
  · exact xdet_F
theorem xdet_L1 {st : List xV} {f : Int → List xV → xTK → xTC → xTR → Prop} (h : ∀ x r, xdet (f x r)) : xdet (fun K C R => xL1 st (fun x r => f x r K C R)) := by
  unfold xL1
  split
  · exact h _ _
  · exact xdet_F
theorem xdet_L2 {st : List xV} {f : Int → Int → List xV → xTK → xTC → xTR → Prop} (h : ∀ x y r, xdet (f x y r)) : xdet (fun K C R => xL2 st (fun x y r => f x y r K C R)) := by
  unfold xL2
  split
  · exact h _ _ _
  · exact xdet_F
theorem xdet_LI {st : List xV} {f : Int → Int → List xV → xTK → xTC → xTR → Prop} (h : ∀ x y r, xdet (f x y r)) : xdet (fun K C R => xLI st (fun x y r => f x y r K C R)) := by
  unfold xLI
  split
  · exact h _ _ _
  · exact xdet_F
theorem xdet_R1 {st : List xV} {f : Nat → Nat → List xV → xTK → xTC → xTR → Prop} (h : ∀ x y r, xdet (f x y r)) : xdet (fun K C R => xR1 st (fun x y r => f x y r K C R)) := by
  unfold xR1
  split
  · exact h _ _ _
  · exact xdet_F
theorem xdet_IR {st : List xV} {f : Nat → Nat → Int → List xV → xTK → xTC → xTR → Prop} (h : ∀ x y z r, xdet (f x y z r)) : xdet (fun K C R => xIR st (fun x y z r => f x y z r K C R)) := by
  unfold xIR
  split
  · exact h _ _ _ _
  · exact xdet_F
theorem xdet_IIR {st : List xV} {f : Nat → Nat → Int → Int → List xV → xTK → xTC → xTR → Prop} (h : ∀ x y z w r, xdet (f x y z w r)) : xdet (fun K C R => xIIR st (fun x y z w r => f x y z w r K C R)) := by
  unfold xIIR
  split
  · exact h _ _ _ _ _
  · exact xdet_F
theorem xdet_vI {v : xV} {f : Int → xTK → xTC → xTR → Prop} (h : ∀ x, xdet (f x)) : xdet (fun K C R => xvI v (fun x => f x K C R)) := by
  unfold xvI
  split
  · exact h _
  · exact xdet_F
theorem xdet_vL {v : xV} {f : Int → xTK → xTC → xTR → Prop} (h : ∀ x, xdet (f x)) : xdet (fun K C R => xvL v (fun x => f x K C R)) := by
  unfold xvL
  split
  · exact h _
  · exact xdet_F
theorem xdet_vR {v : xV} {f : Nat → Nat → xTK → xTC → xTR → Prop} (h : ∀ x y, xdet (f x y)) : xdet (fun K C R => xvR v (fun x y => f x y K C R)) := by
  unfold xvR
  split
  · exact xdet_cond xdet_F (h _ _)
  · exact xdet_F
theorem xdet_v1 {v : xV} {P : xTK → xTC → xTR → Prop} (h : xdet P) : xdet (fun K C R => xv1 v (P K C R)) := by
  unfold xv1
  split
  · exact h
  · exact xdet_F
  · exact xdet_cond xdet_F h
theorem xdet_take {f : List xV → List xV → xTK → xTC → xTR → Prop} (h : ∀ a r, xdet (f a r)) : ∀ (n : Nat) (acc st : List xV), xdet (fun K C R => xtake n acc st (fun a r => f a r K C R))
  | 0, acc, st => h acc st
  | n + 1, acc, v :: st => xdet_take h n (v :: acc) st
  | n + 1, acc, [] => xdet_F
set_option maxHeartbeats 8000000 in
theorem xstp_det (ins : Instr) (M pc : Nat) (L st : List xV) (σ : xM) : xdet (fun K C R => xstp ins M pc L st σ K C R) := by
  cases ins
  all_goals try exact xdet_F
  all_goals simp only [xstp]
  all_goals repeat' (first | exact xdet_F | exact xdet_K | exact xdet_C | exact xdet_R | with_reducible apply xdet_and | with_reducible apply xdet_cond | with_reducible apply xdet_if | with_reducible apply xdet_sw | with_reducible apply xdet_lsw | with_reducible apply xdet_I1 | with_reducible apply xdet_I2 | with_reducible apply xdet_L1 | with_reducible apply xdet_L2 | with_reducible apply xdet_LI | with_reducible apply xdet_R1 | with_reducible apply xdet_IR | with_reducible apply xdet_IIR | with_reducible apply xdet_vI | with_reducible apply xdet_vL | with_reducible apply xdet_vR | with_reducible apply xdet_v1 | with_reducible apply xdet_take | split | (intro _))
theorem xF_mono : ∀ (n d M pc : Nat) (L st : List xV) (σ : xM) (Q Q' : Int → xM → Prop), xF n d M pc L st σ Q → (∀ v σ', Q v σ' → Q' v σ') → xF (n + 1) d M pc L st σ Q' ∧ xF n d M pc L st σ Q'
  | 0, _, _, _, _, _, _, _, _, h, _ => h.elim
  | n + 1, d, M, pc, L, st, σ, Q, Q', h, hq => by
    rw [xF_succ] at h
    rw [xF_succ, xF_succ]
    cases hat : xat M pc with
    | none => rw [hat] at h; exact h.elim
    | some q =>
      rw [hat] at h
      rcases xstp_det q.1 M pc L st σ _ _ _ h with ⟨a, b, c, e, h1, h2⟩ | ⟨k, as, r, h1, h2⟩ | ⟨v, h1, h2⟩
      · have ih := xF_mono n d M a b c e Q Q' h1 hq
        exact ⟨h2 _ _ _ ih.1, h2 _ _ _ ih.2⟩
      · cases d with
        | zero => exact h1.elim
        | succ d =>
          refine ⟨h2 _ _ _ ?_, h2 _ _ _ ?_⟩
          · exact (xF_mono n d k 0 _ _ σ _ _ h1 (fun v σ' hv => (xF_mono n (d + 1) M (pc + 3) L _ σ' Q Q' hv hq).1)).1
          · exact (xF_mono n d k 0 _ _ σ _ _ h1 (fun v σ' hv => (xF_mono n (d + 1) M (pc + 3) L _ σ' Q Q' hv hq).2)).2
      · exact ⟨h2 _ _ _ (hq _ _ h1), h2 _ _ _ (hq _ _ h1)⟩
theorem xF_le {n n' d M pc : Nat} {L st : List xV} {σ : xM} {Q Q' : Int → xM → Prop} (hn : n ≤ n') (h : xF n d M pc L st σ Q) (hq : ∀ v σ', Q v σ' → Q' v σ') : xF n' d M pc L st σ Q' := by
  induction hn with
  | refl => exact (xF_mono n d M pc L st σ Q Q' h hq).2
  | step _ ih => exact (xF_mono _ d M pc L st σ Q' Q' ih (fun _ _ h => h)).1
/-- where it ends -/
theorem xF_end : ∀ (n d M pc : Nat) (L st : List xV) (σ : xM) (Q : Int → xM → Prop), xF n d M pc L st σ Q → ∃ v σ', Q v σ' ∧ ∀ Q', Q' v σ' → xF n d M pc L st σ Q'
  | 0, _, _, _, _, _, _, _, h => h.elim
  | n + 1, d, M, pc, L, st, σ, Q, h => by
    rw [xF_succ] at h
    cases hat : xat M pc with
    | none => rw [hat] at h; exact h.elim
    | some q =>
      rw [hat] at h
      rcases xstp_det q.1 M pc L st σ _ _ _ h with ⟨a, b, c, e, h1, h2⟩ | ⟨k, as, r, h1, h2⟩ | ⟨v, h1, h2⟩
      · obtain ⟨v, σ', hv, hQ⟩ := xF_end n d M a b c e Q h1
        refine ⟨v, σ', hv, fun Q' hq => ?_⟩
        rw [xF_succ, hat]
        exact h2 _ _ _ (hQ Q' hq)
      · cases d with
        | zero => exact h1.elim
        | succ d =>
          obtain ⟨v, σ', hv, hQ⟩ := xF_end n d k 0 _ _ σ _ h1
          obtain ⟨w, σ'', hw, hQ2⟩ := xF_end n (d + 1) M (pc + 3) L _ σ' Q hv
          refine ⟨w, σ'', hw, fun Q' hq => ?_⟩
          rw [xF_succ, hat]
          exact h2 _ _ _ (hQ _ (hQ2 Q' hq))
      · refine ⟨v, σ, h1, fun Q' hq => ?_⟩
        rw [xF_succ, hat]
        exact h2 _ _ _ hq
/-- one step more, inside Ev -/
theorem Ev_eq (d M pc : Nat) (L st : List xV) (σ : xM) (Q : Int → xM → Prop) : Ev d M pc L st σ Q = (match xat M pc with
    | none => False
    | some q => xstp q.1 M pc L st σ (fun pc' L' st' σ' => Ev d M pc' L' st' σ' Q)
        (fun k as r => match d with
          | 0 => False
          | d' + 1 => Ev d' k 0 (xent k as) [] σ (fun v σ' => Ev (d' + 1) M (pc + 3) L (xpush k v r) σ' Q))
        (fun v => Q v σ)) := by
  apply propext
  constructor
  · rintro ⟨n, h⟩
    cases n with
    | zero => exact h.elim
    | succ n =>
      rw [xF_succ] at h
      cases hat : xat M pc with
      | none => rw [hat] at h; exact h.elim
      | some q =>
        rw [hat] at h
        rcases xstp_det q.1 M pc L st σ _ _ _ h with ⟨a, b, c, e, h1, h2⟩ | ⟨k, as, r, h1, h2⟩ | ⟨v, h1, h2⟩
        · exact h2 _ _ _ ⟨n, h1⟩
        · refine h2 _ _ _ ?_
          cases d with
          | zero => exact h1.elim
          | succ d => exact ⟨n, xF_le (Nat.le_refl n) h1 (fun v σ' hv => ⟨n, hv⟩)⟩
        · exact h2 _ _ _ h1
  · intro h
    cases hat : xat M pc with
    | none => rw [hat] at h; exact h.elim
    | some q =>
      rw [hat] at h
      rcases xstp_det q.1 M pc L st σ _ _ _ h with ⟨a, b, c, e, ⟨n, h1⟩, h2⟩ | ⟨k, as, r, h1, h2⟩ | ⟨v, h1, h2⟩
      · refine ⟨n + 1, ?_⟩
        rw [xF_succ, hat]
        exact h2 _ _ _ h1
      · cases d with
        | zero => exact h1.elim
        | succ d =>
          obtain ⟨n, h1⟩ := h1
          obtain ⟨v, σ', ⟨n2, hv⟩, hQ⟩ := xF_end n d k 0 _ _ σ _ h1
          refine ⟨max n n2 + 1, ?_⟩
          rw [xF_succ, hat]
          exact h2 _ _ _ (xF_le (Nat.le_max_left n n2) (hQ (fun v' s' => xF (max n n2) (d + 1) M (pc + 3) L (xpush k v' r) s' Q) (xF_le (Nat.le_max_right n n2) hv (fun _ _ h => h))) (fun _ _ h => h))
      · refine ⟨1, ?_⟩
        rw [xF_succ, hat]
        exact h2 _ _ _ h1
theorem Ev_mono {d M pc : Nat} {L st : List xV} {σ : xM} {Q Q' : Int → xM → Prop} (h : Ev d M pc L st σ Q) (hq : ∀ v σ', Q v σ' → Q' v σ') : Ev d M pc L st σ Q' := by
  obtain ⟨n, h⟩ := h
  exact ⟨n, xF_le (Nat.le_refl n) h hq⟩
/-- k steps, up to the places of the list -/
def EvN (stops : List Nat) : Nat → Nat → Nat → Nat → List xV → List xV → xM → (Int → xM → Prop) → Prop
  | 0, d, M, pc, L, st, σ, Q => Ev d M pc L st σ Q
  | n + 1, d, M, pc, L, st, σ, Q => match xat M pc with
    | none => False
    | some q => xstp q.1 M pc L st σ (fun pc' L' st' σ' => cond (stops.any (Nat.beq pc')) (Ev d M pc' L' st' σ' Q) (EvN stops n d M pc' L' st' σ' Q))
        (fun k as r => match d with
          | 0 => False
          | d' + 1 => Ev d' k 0 (xent k as) [] σ (fun v σ' => EvN stops n (d' + 1) M (pc + 3) L (xpush k v r) σ' Q))
        (fun v => Q v σ)
theorem xstp_iff {ins : Instr} {M pc : Nat} {L st : List xV} {σ : xM} {K K' : xTK} {C C' : xTC} {R R' : xTR} (hK : ∀ a b c d, K a b c d = K' a b c d) (hC : ∀ k as r, C k as r = C' k as r) (hR : ∀ v, R v = R' v) : xstp ins M pc L st σ K C R = xstp ins M pc L st σ K' C' R' := by
  have e1 : K = K' := by funext a b c d; exact hK a b c d
  have e2 : C = C' := by funext a b c; exact hC a b c
  have e3 : R = R' := by funext a; exact hR a
  rw [e1, e2, e3]
theorem EvN_eq (stops : List Nat) : ∀ (n d M pc : Nat) (L st : List xV) (σ : xM) (Q : Int → xM → Prop), Ev d M pc L st σ Q = EvN stops n d M pc L st σ Q
  | 0, _, _, _, _, _, _, _ => rfl
  | n + 1, d, M, pc, L, st, σ, Q => by
    rw [Ev_eq]
    simp only [EvN]
    cases xat M pc with
    | none => rfl
    | some q =>
      refine xstp_iff (fun a b c e => ?_) (fun k as r => ?_) (fun _ => rfl)
      · rw [← EvN_eq stops n]
        cases stops.any (Nat.beq a) <;> rfl
      · cases d with
        | zero => rfl
        | succ d =>
          show Ev d k 0 _ _ σ _ = Ev d k 0 _ _ σ _
          congr 1
          funext v σ'
          rw [← EvN_eq stops n]
end
section
/-! blocks: what the methods come to, printed by wip/whole/genb.py -/
set_option maxRecDepth 100000 in
theorem b_P_part_0 {d : Nat} {σ : xM} {Q : Int → xM → Prop} {x1 : Int} : Ev (d + 1) 1 0 [vR 4 0, vI x1] [] σ Q = (Ev d 40 0 [vI x1] [] σ (fun v1 s1 => if v1 = (0 : Int) then Ev d 38 0 [vR 4 0, vI 1] [] s1 (fun v2 s2 => Q v2 s2) else if (s1 5 0 0) < (7 : Int) then ((0 : Int) ≤ (xwr (((xup s1 5 0 0 (xwr ((s1 5 0 0) + 1))) 5 0 0) - 1)) ∧ (xwr (((xup s1 5 0 0 (xwr ((s1 5 0 0) + 1))) 5 0 0) - 1)) < 7) ∧ (Ev d 65 0 [vR 7 ((xwr (((xup s1 5 0 0 (xwr ((s1 5 0 0) + 1))) 5 0 0) - 1)).toNat), vI x1] [] (xup s1 5 0 0 (xwr ((s1 5 0 0) + 1))) (fun v3 s3 => Q (xwr ((s3 5 0 0) - 1)) s3)) else Ev d 38 0 [vR 4 0, vI 4] [] s1 (fun v4 s4 => Q v4 s4))) := EvN_eq [] 33 _ _ _ _ _ _ _
set_option maxRecDepth 100000 in
theorem b_P_partIs_0 {d : Nat} {σ : xM} {Q : Int → xM → Prop} {x1 : Int} {x2 : Int} : Ev (d + 1) 2 0 [vR 4 0, vI x1, vI x2] [] σ Q = (Ev d 47 0 [vR 5 0, vI x1] [] σ (fun v1 s1 => if v1 = (0 : Int) then Ev d 38 0 [vR 4 0, vI 1] [] s1 (fun v2 s2 => Q v2 s2) else if x2 < (0 : Int) then Ev d 38 0 [vR 4 0, vI 1] [] s1 (fun v3 s3 => Q v3 s3) else if (4 : Int) < x2 then Ev d 38 0 [vR 4 0, vI 1] [] s1 (fun v4 s4 => Q v4 s4) else if x2 = 0 then ((0 : Int) ≤ x1 ∧ x1 < 7) ∧ (Q (s1 7 x1.toNat 0) s1) else if x2 = 1 then ((0 : Int) ≤ x1 ∧ x1 < 7) ∧ (Q (s1 7 x1.toNat 1) s1) else if x2 = 2 then ((0 : Int) ≤ x1 ∧ x1 < 7) ∧ (Ev d 69 0 [vR 7 x1.toNat, vI (s1 5 0 2)] [] s1 (fun v5 s5 => Q v5 s5)) else if x2 = 3 then Ev d 51 0 [vR 5 0, vI x1, vR 0 0] [] s1 (fun v6 s6 => Q v6 s6) else Ev d 52 0 [vR 5 0, vI x1, vR 0 0, vR 0 0] [] s1 (fun v7 s7 => Q v7 s7))) := EvN_eq [] 23 _ _ _ _ _ _ _
set_option maxRecDepth 100000 in
theorem b_P_become_0 {d : Nat} {σ : xM} {Q : Int → xM → Prop} {x1 : Int} {x2 : Int} : Ev (d + 1) 3 0 [vR 4 0, vI x1, vI x2, vR 0 0] [] σ Q = (Ev d 47 0 [vR 5 0, vI x1] [] σ (fun v1 s1 => if v1 = (0 : Int) then Ev d 38 0 [vR 4 0, vI 1] [] s1 (fun v2 s2 => Q v2 s2) else Ev d 40 0 [vI x2] [] s1 (fun v3 s3 => if v3 = (0 : Int) then Ev d 38 0 [vR 4 0, vI 1] [] s3 (fun v4 s4 => Q v4 s4) else ((0 : Int) ≤ x1 ∧ x1 < 7) ∧ (((0 : Int) ≤ x1 ∧ x1 < 7) ∧ (Ev d 65 0 [vR 7 x1.toNat, vI x2] [] s3 (fun v5 s5 => Q (s3 7 x1.toNat 0) s5)))))) := EvN_eq [] 25 _ _ _ _ _ _ _
set_option maxRecDepth 100000 in
theorem b_P_as_0 {d : Nat} {σ : xM} {Q : Int → xM → Prop} {x1 : Int} {x2 : Int} : Ev (d + 1) 4 0 [vR 4 0, vI x1, vI x2] [] σ Q = (Ev d 47 0 [vR 5 0, vI x1] [] σ (fun v1 s1 => if v1 = (0 : Int) then Ev d 38 0 [vR 4 0, vI 1] [] s1 (fun v2 s2 => Q v2 s2) else if x2 < (0 : Int) then Ev d 38 0 [vR 4 0, vI 1] [] s1 (fun v3 s3 => Q v3 s3) else if x2 < (7 : Int) then ((0 : Int) ≤ x1 ∧ x1 < 7) ∧ (Ev d 67 0 [vR 7 x1.toNat, vI x2, vR 0 0, vR 0 0] [] s1 (fun v4 s4 => if v4 = (0 : Int) then Ev d 38 0 [vR 4 0, vI 5] [] s4 (fun v5 s5 => Q v5 s5) else ((0 : Int) ≤ x1 ∧ x1 < 7) ∧ (Q (s4 7 x1.toNat 1) s4))) else Ev d 38 0 [vR 4 0, vI 1] [] s1 (fun v6 s6 => Q v6 s6))) := EvN_eq [] 26 _ _ _ _ _ _ _
set_option maxRecDepth 100000 in
theorem b_P_child_0 {d : Nat} {σ : xM} {Q : Int → xM → Prop} {x1 : Int} {x2 : Int} {x3 : Int} : Ev (d + 1) 5 0 [vR 4 0, vI x1, vI x2, vI x3] [] σ Q = (Ev d 39 0 [vI x1, vI 0, vI 9] [] σ (fun v1 s1 => if v1 = (0 : Int) then Ev d 38 0 [vR 4 0, vI 1] [] s1 (fun v2 s2 => Q v2 s2) else Ev d 39 0 [vI x2, vI 1, vI 9] [] s1 (fun v3 s3 => if v3 = (0 : Int) then Ev d 38 0 [vR 4 0, vI 1] [] s3 (fun v4 s4 => Q v4 s4) else Ev d 39 0 [vI x3, vI 0, vI 1] [] s3 (fun v5 s5 => if v5 = (0 : Int) then Ev d 38 0 [vR 4 0, vI 1] [] s5 (fun v6 s6 => Q v6 s6) else if (s5 5 0 1) < (7 : Int) then ((0 : Int) ≤ (xwr (((xup s5 5 0 1 (xwr ((s5 5 0 1) + 1))) 5 0 1) - 1)) ∧ (xwr (((xup s5 5 0 1 (xwr ((s5 5 0 1) + 1))) 5 0 1) - 1)) < 7) ∧ (Ev d 71 0 [vR 9 ((xwr (((xup s5 5 0 1 (xwr ((s5 5 0 1) + 1))) 5 0 1) - 1)).toNat), vI x1, vI x2, vI x3, vR 0 0] [] (xup s5 5 0 1 (xwr ((s5 5 0 1) + 1))) (fun v7 s7 => Q (xwr ((s7 5 0 1) - 1)) s7)) else Ev d 38 0 [vR 4 0, vI 4] [] s5 (fun v8 s8 => Q v8 s8))))) := EvN_eq [] 47 _ _ _ _ _ _ _
set_option maxRecDepth 100000 in
theorem b_P_childIs_0 {d : Nat} {σ : xM} {Q : Int → xM → Prop} {x1 : Int} {x2 : Int} : Ev (d + 1) 6 0 [vR 4 0, vI x1, vI x2] [] σ Q = (Ev d 49 0 [vR 5 0, vI x1] [] σ (fun v1 s1 => if v1 = (0 : Int) then Ev d 38 0 [vR 4 0, vI 1] [] s1 (fun v2 s2 => Q v2 s2) else if x2 < (0 : Int) then Ev d 38 0 [vR 4 0, vI 1] [] s1 (fun v3 s3 => Q v3 s3) else if (9 : Int) < x2 then Ev d 38 0 [vR 4 0, vI 1] [] s1 (fun v4 s4 => Q v4 s4) else if x2 = (9 : Int) then Ev d 57 0 [vR 5 0, vI x1, vR 0 0, vR 0 0] [] s1 (fun v5 s5 => Q v5 s5) else ((0 : Int) ≤ x1 ∧ x1 < 7) ∧ (Ev d 73 0 [vR 9 x1.toNat, vI x2, vR 0 0] [] s1 (fun v6 s6 => Q v6 s6)))) := EvN_eq [] 22 _ _ _ _ _ _ _
set_option maxRecDepth 100000 in
theorem b_P_wishes_0 {d : Nat} {σ : xM} {Q : Int → xM → Prop} {x1 : Int} {x2 : Int} {x3 : Int} : Ev (d + 1) 7 0 [vR 4 0, vI x1, vI x2, vI x3, vR 0 0] [] σ Q = (Ev d 49 0 [vR 5 0, vI x1] [] σ (fun v1 s1 => if v1 = (0 : Int) then Ev d 38 0 [vR 4 0, vI 1] [] s1 (fun v2 s2 => Q v2 s2) else Ev d 39 0 [vI x2, vI 0, vI 2] [] s1 (fun v3 s3 => if v3 = (0 : Int) then Ev d 38 0 [vR 4 0, vI 1] [] s3 (fun v4 s4 => Q v4 s4) else Ev d 48 0 [vR 5 0, vI x3] [] s3 (fun v5 s5 => if v5 = (0 : Int) then Ev d 38 0 [vR 4 0, vI 1] [] s5 (fun v6 s6 => Q v6 s6) else ((0 : Int) ≤ x1 ∧ x1 < 7) ∧ (((0 : Int) ≤ x2 ∧ x2 < 3) ∧ (((0 : Int) ≤ x1 ∧ x1 < 7) ∧ (((0 : Int) ≤ x2 ∧ x2 < 3) ∧ (Q (s5 10 x1.toNat x2.toNat) (xup s5 10 x1.toNat x2.toNat x3))))))))) := EvN_eq [] 36 _ _ _ _ _ _ _
set_option maxRecDepth 100000 in
theorem b_P_falls_0 {d : Nat} {σ : xM} {Q : Int → xM → Prop} {x1 : Int} {x2 : Int} : Ev (d + 1) 8 0 [vR 4 0, vI x1, vI x2, vR 0 0] [] σ Q = (Ev d 49 0 [vR 5 0, vI x1] [] σ (fun v1 s1 => if v1 = (0 : Int) then Ev d 38 0 [vR 4 0, vI 1] [] s1 (fun v2 s2 => Q v2 s2) else Ev d 39 0 [vI x2, vI 0, vI 1] [] s1 (fun v3 s3 => if v3 = (0 : Int) then Ev d 38 0 [vR 4 0, vI 1] [] s3 (fun v4 s4 => Q v4 s4) else ((0 : Int) ≤ x1 ∧ x1 < 7) ∧ (((0 : Int) ≤ x1 ∧ x1 < 7) ∧ (Q (s3 9 x1.toNat 3) (xup s3 9 x1.toNat 3 x2)))))) := EvN_eq [] 27 _ _ _ _ _ _ _
set_option maxRecDepth 100000 in
theorem b_P_worth_0 {d : Nat} {σ : xM} {Q : Int → xM → Prop} {x1 : Int} {x2 : Int} : Ev (d + 1) 9 0 [vR 4 0, vI x1, vI x2] [] σ Q = (Ev d 49 0 [vR 5 0, vI x1] [] σ (fun v1 s1 => if v1 = (0 : Int) then Ev d 38 0 [vR 4 0, vI 1] [] s1 (fun v2 s2 => Q v2 s2) else Ev d 47 0 [vR 5 0, vI x2] [] s1 (fun v3 s3 => if v3 = (0 : Int) then Ev d 38 0 [vR 4 0, vI 1] [] s3 (fun v4 s4 => Q v4 s4) else Ev d 55 0 [vR 5 0, vI x1, vI x2, vR 0 0] [] s3 (fun v5 s5 => Q v5 s5)))) := EvN_eq [] 17 _ _ _ _ _ _ _
set_option maxRecDepth 100000 in
theorem b_P_cast_0 {d : Nat} {σ : xM} {Q : Int → xM → Prop} {x1 : Int} {x2 : Int} : Ev (d + 1) 10 0 [vR 4 0, vI x1, vI x2, vR 0 0] [] σ Q = (Ev d 49 0 [vR 5 0, vI x1] [] σ (fun v1 s1 => if v1 = (0 : Int) then Ev d 38 0 [vR 4 0, vI 1] [] s1 (fun v2 s2 => Q v2 s2) else Ev d 48 0 [vR 5 0, vI x2] [] s1 (fun v3 s3 => if v3 = (0 : Int) then Ev d 38 0 [vR 4 0, vI 1] [] s3 (fun v4 s4 => Q v4 s4) else if x2 = ((-1) : Int) then ((0 : Int) ≤ x1 ∧ x1 < 7) ∧ (((0 : Int) ≤ x1 ∧ x1 < 7) ∧ (Q (s3 9 x1.toNat 5) (xup s3 9 x1.toNat 5 x2))) else Ev d 51 0 [vR 5 0, vI x2, vR 0 0] [] s3 (fun v5 s5 => Ev d 50 0 [vR 5 0, vI x1, vI x2] [] s5 (fun v6 s6 => if v6 = (0 : Int) then Ev d 38 0 [vR 4 0, vI 3] [] s6 (fun v7 s7 => Q v7 s7) else if v5 = ((-1) : Int) then ((0 : Int) ≤ x1 ∧ x1 < 7) ∧ (((0 : Int) ≤ x1 ∧ x1 < 7) ∧ (Q (s6 9 x1.toNat 5) (xup s6 9 x1.toNat 5 x2))) else if v5 = x1 then ((0 : Int) ≤ x1 ∧ x1 < 7) ∧ (((0 : Int) ≤ x1 ∧ x1 < 7) ∧ (Q (s6 9 x1.toNat 5) (xup s6 9 x1.toNat 5 x2))) else Ev d 38 0 [vR 4 0, vI 3] [] s6 (fun v8 s8 => Q v8 s8)))))) := EvN_eq [] 47 _ _ _ _ _ _ _
set_option maxRecDepth 100000 in
theorem b_P_feed_0 {d : Nat} {σ : xM} {Q : Int → xM → Prop} {x1 : Int} {x2 : Int} : Ev (d + 1) 11 0 [vR 4 0, vL x1, vR 0 0, vI x2, vR 0 0] [] σ Q = (Ev d 39 0 [vI x2, vI 1, vI 8] [] σ (fun v1 s1 => if v1 = (0 : Int) then Ev d 38 0 [vR 4 0, vI 1] [] s1 (fun v2 s2 => Q v2 s2) else if (60 : Int) < (xwr ((s1 5 0 5) + x2)) then Ev d 38 0 [vR 4 0, vI 4] [] s1 (fun v3 s3 => Q v3 s3) else Ev (d + 1) 11 39 [vR 4 0, vL x1, vR 0 0, vI x2, vI 0] [] s1 Q)) := EvN_eq [39] 17 _ _ _ _ _ _ _
set_option maxRecDepth 100000 in
theorem b_P_feed_39 {d : Nat} {σ : xM} {Q : Int → xM → Prop} {x1 : Int} {wx2 : xV} {x3 : Int} {x4 : Int} : Ev d 11 39 [vR 4 0, vL x1, wx2, vI x3, vI x4] [] σ Q = (if x4 < x3 then ((0 : Int) ≤ (xwr ((σ 5 0 5) + x4)) ∧ (xwr ((σ 5 0 5) + x4)) < 60) ∧ (Ev d 11 39 [vR 4 0, vL x1, wx2, vI x3, vI (xwr (x4 + 1))] [] (xup σ 11 0 ((xwr ((σ 5 0 5) + x4)).toNat) (xand (xl2i (xlushr x1 (xwr (8 * x4)))) 255)) Q) else Q ((xup σ 5 0 5 (xwr ((σ 5 0 5) + x3))) 5 0 5) (xup σ 5 0 5 (xwr ((σ 5 0 5) + x3)))) := EvN_eq [39] 24 _ _ _ _ _ _ _
set_option maxRecDepth 100000 in
theorem b_P_text_0 {d : Nat} {σ : xM} {Q : Int → xM → Prop} {x1 : Int} : Ev (d + 1) 12 0 [vR 4 0, vI x1, vR 0 0] [] σ Q = (Ev d 41 0 [vI x1] [] σ (fun v1 s1 => if v1 = (0 : Int) then Ev d 38 0 [vR 4 0, vI 1] [] s1 (fun v2 s2 => Q v2 s2) else Ev d 83 0 [vR 17 0, vR 11 0, vI (s1 5 0 5), vI x1] [] s1 (fun v3 s3 => if v3 < (0 : Int) then ((0 : Int) ≤ x1 ∧ x1 < 2) ∧ (Ev d 78 0 [vR 13 x1.toNat, vR 13 4] [] (xup s3 5 0 5 0) (fun v4 s4 => Q 1 s4)) else Q (xwr ((-10) - v3)) (xup s3 5 0 5 0)))) := EvN_eq [] 32 _ _ _ _ _ _ _
set_option maxRecDepth 100000 in
theorem b_P_untell_0 {d : Nat} {σ : xM} {Q : Int → xM → Prop} {x1 : Int} : Ev (d + 1) 13 0 [vR 4 0, vI x1, vR 0 0] [] σ Q = (Ev d 41 0 [vI x1] [] σ (fun v1 s1 => if v1 = (0 : Int) then Ev d 38 0 [vR 4 0, vI 1] [] s1 (fun v2 s2 => Q v2 s2) else ((0 : Int) ≤ x1 ∧ x1 < 2) ∧ (if (0 : Int) < (s1 13 x1.toNat 0) then ((0 : Int) ≤ x1 ∧ x1 < 2) ∧ (Q 1 (xup s1 13 x1.toNat 0 0)) else ((0 : Int) ≤ x1 ∧ x1 < 2) ∧ (Q 0 (xup s1 13 x1.toNat 0 0))))) := EvN_eq [] 23 _ _ _ _ _ _ _
set_option maxRecDepth 100000 in
theorem b_P_law_0 {d : Nat} {σ : xM} {Q : Int → xM → Prop} {x1 : Int} {x2 : Int} {x3 : Int} {x4 : Int} : Ev (d + 1) 14 0 [vR 4 0, vI x1, vI x2, vI x3, vI x4] [] σ Q = (Ev d 41 0 [vI x1] [] σ (fun v1 s1 => if v1 = (0 : Int) then Ev d 38 0 [vR 4 0, vI 1] [] s1 (fun v2 s2 => Q v2 s2) else Ev d 54 0 [vR 5 0, vI x1, vI x2, vI x3, vI x4, vR 0 0] [] s1 (fun v3 s3 => Q v3 s3))) := EvN_eq [] 12 _ _ _ _ _ _ _
set_option maxRecDepth 100000 in
theorem b_P_play_0 {d : Nat} {σ : xM} {Q : Int → xM → Prop} : Ev (d + 1) 15 0 [vR 4 0] [] σ Q = (if (σ 5 0 2) < (9999 : Int) then Ev d 58 0 [vR 5 0, vR 0 0, vR 0 0] [] σ (fun v1 s1 => Q v1 s1) else Ev d 38 0 [vR 4 0, vI 3] [] σ (fun v2 s2 => Q v2 s2)) := EvN_eq [] 10 _ _ _ _ _ _ _
set_option maxRecDepth 100000 in
theorem b_P_lots_0 {d : Nat} {σ : xM} {Q : Int → xM → Prop} : Ev (d + 1) 16 0 [vR 4 0] [] σ Q = (Ev d 61 0 [vR 5 0, vR 38 0, vR 0 0, vR 0 0] [] σ (fun v1 s1 => Q v1 s1)) := EvN_eq [] 7 _ _ _ _ _ _ _
set_option maxRecDepth 100000 in
theorem b_P_loose_0 {d : Nat} {σ : xM} {Q : Int → xM → Prop} {x1 : Int} : Ev (d + 1) 17 0 [vR 4 0, vI x1, vR 0 0] [] σ Q = (Ev d 39 0 [vI x1, vI 1, vI 20] [] σ (fun v1 s1 => if v1 = (0 : Int) then Ev d 38 0 [vR 4 0, vI 1] [] s1 (fun v2 s2 => Q v2 s2) else if (9999 : Int) < (xwr ((s1 5 0 2) + x1)) then Ev d 38 0 [vR 4 0, vI 3] [] s1 (fun v3 s3 => Q v3 s3) else Ev (d + 1) 17 39 [vR 4 0, vI x1, vI 0] [] s1 Q)) := EvN_eq [39] 17 _ _ _ _ _ _ _
set_option maxRecDepth 100000 in
theorem b_P_loose_39 {d : Nat} {σ : xM} {Q : Int → xM → Prop} {x1 : Int} {x2 : Int} : Ev (d + 1) 17 39 [vR 4 0, vI x1, vI x2] [] σ Q = (if x2 < x1 then Ev d 61 0 [vR 5 0, vR 38 0, vR 0 0, vR 0 0] [] σ (fun v1 s1 => Ev d 58 0 [vR 5 0, vR 0 0, vR 0 0] [] s1 (fun v2 s2 => Ev (d + 1) 17 39 [vR 4 0, vI x1, vI (xwr (x2 + 1))] [] s2 Q)) else Q (σ 5 0 3) σ) := EvN_eq [39] 17 _ _ _ _ _ _ _
set_option maxRecDepth 100000 in
theorem b_P_seed_0 {d : Nat} {σ : xM} {Q : Int → xM → Prop} {x1 : Int} : Ev d 18 0 [vR 4 0, vI x1, vR 0 0] [] σ Q = (Q (σ 5 0 4) (xup σ 5 0 4 x1)) := EvN_eq [] 11 _ _ _ _ _ _ _
set_option maxRecDepth 100000 in
theorem b_P_best_0 {d : Nat} {σ : xM} {Q : Int → xM → Prop} {x1 : Int} : Ev (d + 1) 19 0 [vR 4 0, vI x1] [] σ Q = (Ev d 39 0 [vI x1, vI (-1), vI 6] [] σ (fun v1 s1 => if v1 = (0 : Int) then Ev d 38 0 [vR 4 0, vI 1] [] s1 (fun v2 s2 => Q v2 s2) else if x1 < (s1 5 0 1) then Ev d 93 0 [vR 19 0, vR 5 0, vR 0 0, vR 0 0] [] s1 (fun v3 s3 => Ev d 96 0 [vR 19 0, vR 0 0, vR 0 0, vR 0 0] [] s3 (fun v4 s4 => if x1 < (0 : Int) then Ev d 100 0 [vR 19 0, vI 0] [] s4 (fun v5 s5 => Q v5 s5) else Ev d 101 0 [vR 19 0, vI 0, vR 0 0, vR 0 0] [] s4 (fun v6 s6 => ((0 : Int) ≤ x1 ∧ x1 < 7) ∧ (Q (s6 24 0 x1.toNat) s6)))) else Ev d 38 0 [vR 4 0, vI 2] [] s1 (fun v7 s7 => Q v7 s7))) := EvN_eq [] 31 _ _ _ _ _ _ _
set_option maxRecDepth 100000 in
theorem b_P_wished_0 {d : Nat} {σ : xM} {Q : Int → xM → Prop} : Ev (d + 1) 20 0 [vR 4 0] [] σ Q = (Ev d 94 0 [vR 19 0, vR 5 0, vR 0 0, vR 0 0, vR 0 0] [] σ (fun v1 s1 => Ev d 96 0 [vR 19 0, vR 0 0, vR 0 0, vR 0 0] [] s1 (fun v2 s2 => Ev d 100 0 [vR 19 0, vI 0] [] s2 (fun v3 s3 => Q v3 s3)))) := EvN_eq [] 14 _ _ _ _ _ _ _
set_option maxRecDepth 100000 in
theorem b_P_without_0 {d : Nat} {σ : xM} {Q : Int → xM → Prop} {x1 : Int} : Ev (d + 1) 21 0 [vR 4 0, vI x1, vR 0 0] [] σ Q = (Ev d 49 0 [vR 5 0, vI x1] [] σ (fun v1 s1 => if v1 = (0 : Int) then Ev d 38 0 [vR 4 0, vI 1] [] s1 (fun v2 s2 => Q v2 s2) else Ev d 93 0 [vR 19 0, vR 5 0, vR 0 0, vR 0 0] [] s1 (fun v3 s3 => Ev d 96 0 [vR 19 0, vR 0 0, vR 0 0, vR 0 0] [] s3 (fun v4 s4 => Ev d 100 0 [vR 19 0, vI 0] [] s4 (fun v5 s5 => Ev d 95 0 [vR 19 0, vI x1, vR 0 0] [] s5 (fun v6 s6 => Ev d 96 0 [vR 19 0, vR 0 0, vR 0 0, vR 0 0] [] s6 (fun v7 s7 => Ev d 100 0 [vR 19 0, vI 0] [] s7 (fun v8 s8 => Q (xwr (v5 - v8)) s8)))))))) := EvN_eq [] 33 _ _ _ _ _ _ _
set_option maxRecDepth 100000 in
theorem b_P_lies_0 {d : Nat} {σ : xM} {Q : Int → xM → Prop} {x1 : Int} {x2 : Int} : Ev (d + 1) 22 0 [vR 4 0, vI x1, vI x2] [] σ Q = (Ev d 49 0 [vR 5 0, vI x1] [] σ (fun v1 s1 => if v1 = (0 : Int) then Ev d 38 0 [vR 4 0, vI 1] [] s1 (fun v2 s2 => Q v2 s2) else Ev d 39 0 [vI x2, vI 0, vI 1] [] s1 (fun v3 s3 => if v3 = (0 : Int) then Ev d 38 0 [vR 4 0, vI 1] [] s3 (fun v4 s4 => Q v4 s4) else Ev d 93 0 [vR 19 0, vR 5 0, vR 0 0, vR 0 0] [] s3 (fun v5 s5 => Ev d 104 0 [vR 25 0, vR 5 0, vR 19 0, vI x1, vR 0 0, vR 0 0, vR 0 0, vR 0 0] [] s5 (fun v6 s6 => if x2 = (0 : Int) then Q (s6 25 0 1) s6 else Q (s6 25 0 2) s6))))) := EvN_eq [] 31 _ _ _ _ _ _ _
set_option maxRecDepth 100000 in
theorem b_P_odds_0 {d : Nat} {σ : xM} {Q : Int → xM → Prop} {x1 : Int} {x2 : Int} : Ev (d + 1) 23 0 [vR 4 0, vI x1, vI x2, vR 0 0, vR 0 0, vR 0 0, vR 0 0] [] σ Q = (Ev d 49 0 [vR 5 0, vI x1] [] σ (fun v1 s1 => if v1 = (0 : Int) then Ev d 38 0 [vR 4 0, vI 1] [] s1 (fun v2 s2 => Q v2 s2) else Ev d 39 0 [vI x2, vI 0, vI 1] [] s1 (fun v3 s3 => if v3 = (0 : Int) then Ev d 38 0 [vR 4 0, vI 1] [] s3 (fun v4 s4 => Q v4 s4) else Ev d 53 0 [vR 5 0, vI x1, vR 0 0, vR 0 0] [] s3 (fun v5 s5 => Ev d 220 0 [vI v5] [] s5 (fun v6 s6 => if v6 = (0 : Int) then Ev d 38 0 [vR 4 0, vI 3] [] s6 (fun v7 s7 => Q v7 s7) else ((0 : Int) ≤ x1 ∧ x1 < 7) ∧ (Ev d 75 0 [vR 9 x1.toNat, vR 0 0, vR 0 0] [] s6 (fun v8 s8 => Ev d 220 0 [vI (xand v5 v8)] [] s8 (fun v9 s9 => Ev d 43 0 [vI v6, vI v9, vR 0 0, vR 0 0, vR 0 0, vR 0 0] [] s9 (fun v10 s10 => if v10 = (0 : Int) then Q 0 s10 else if x2 = (0 : Int) then v10 ≠ 0 ∧ (Q (xwr (Int.tdiv v9 v10)) s10) else v10 ≠ 0 ∧ (Q (xwr (Int.tdiv v6 v10)) s10)))))))))) := EvN_eq [] 44 _ _ _ _ _ _ _
set_option maxRecDepth 100000 in
theorem b_P_fits_0 {d : Nat} {σ : xM} {Q : Int → xM → Prop} {x1 : Int} {x2 : Int} : Ev (d + 1) 24 0 [vR 4 0, vI x1, vI x2, vR 0 0, vR 0 0, vR 0 0] [] σ Q = (Ev d 42 0 [vI x1] [] σ (fun v1 s1 => if v1 = (0 : Int) then Ev d 38 0 [vR 4 0, vI 1] [] s1 (fun v2 s2 => Q v2 s2) else Ev d 39 0 [vI x2, vI 0, vI 1] [] s1 (fun v3 s3 => if v3 = (0 : Int) then Ev d 38 0 [vR 4 0, vI 1] [] s3 (fun v4 s4 => Q v4 s4) else ((0 : Int) ≤ x1 ∧ x1 < 4) ∧ (if (s3 36 x1.toNat 0) = (0 : Int) then Ev d 38 0 [vR 4 0, vI 2] [] s3 (fun v5 s5 => Q v5 s5) else Ev (d + 1) 24 48 [vR 4 0, vI x1, vI x2, vI 0, vI (-1), vI 0] [] s3 Q)))) := EvN_eq [48] 22 _ _ _ _ _ _ _
set_option maxRecDepth 100000 in
theorem b_P_fits_48 {d : Nat} {σ : xM} {Q : Int → xM → Prop} {x1 : Int} {x2 : Int} {x3 : Int} {x4 : Int} {x5 : Int} : Ev (d + 1) 24 48 [vR 4 0, vI x1, vI x2, vI x3, vI x4, vI x5] [] σ Q = (if x5 < (256 : Int) then Ev d 59 0 [vR 5 0, vI x5, vR 38 0, vR 0 0, vR 0 0, vR 0 0, vR 0 0, vR 0 0] [] σ (fun v1 s1 => ((0 : Int) ≤ x1 ∧ x1 < 4) ∧ (Ev d 122 0 [vR 36 x1.toNat, vR 38 0, vI (s1 5 0 1), vR 0 0] [] s1 (fun v2 s2 => if v2 = (0 : Int) then Ev (d + 1) 24 48 [vR 4 0, vI x1, vI x2, vI x3, vI x4, vI (xwr (x5 + 1))] [] s2 Q else if x4 < (0 : Int) then Ev (d + 1) 24 48 [vR 4 0, vI x1, vI x2, vI (xwr (x3 + 1)), vI x5, vI (xwr (x5 + 1))] [] s2 Q else Ev (d + 1) 24 48 [vR 4 0, vI x1, vI x2, vI (xwr (x3 + 1)), vI x4, vI (xwr (x5 + 1))] [] s2 Q))) else if x2 = (0 : Int) then Q x3 σ else if x4 < (0 : Int) then Ev d 38 0 [vR 4 0, vI 2] [] σ (fun v3 s3 => Q v3 s3) else Q x4 σ) := EvN_eq [48] 31 _ _ _ _ _ _ _
set_option maxRecDepth 100000 in
theorem b_P_voice_0 {d : Nat} {σ : xM} {Q : Int → xM → Prop} {x1 : Int} {x2 : Int} {x3 : Int} : Ev (d + 1) 25 0 [vR 4 0, vI x1, vI x2, vI x3, vR 0 0] [] σ Q = (Ev d 47 0 [vR 5 0, vI x1] [] σ (fun v1 s1 => if v1 = (0 : Int) then Ev d 38 0 [vR 4 0, vI 1] [] s1 (fun v2 s2 => Q v2 s2) else Ev d 39 0 [vI x2, vI 0, vI 3] [] s1 (fun v3 s3 => if v3 = (0 : Int) then Ev d 38 0 [vR 4 0, vI 1] [] s3 (fun v4 s4 => Q v4 s4) else ((0 : Int) ≤ x1 ∧ x1 < 7) ∧ (Ev d 111 0 [vR 33 0, vI x1, vR 7 x1.toNat, vI x2, vI x3] [] s3 (fun v5 s5 => if (s5 33 0 1) = (0 : Int) then Q v5 s5 else Ev d 38 0 [vR 4 0, vI 6] [] s5 (fun v6 s6 => Q v6 s6)))))) := EvN_eq [] 32 _ _ _ _ _ _ _
set_option maxRecDepth 100000 in
theorem b_P_body_0 {d : Nat} {σ : xM} {Q : Int → xM → Prop} {x1 : Int} : Ev (d + 1) 26 0 [vR 4 0, vI x1] [] σ Q = (if x1 < (0 : Int) then Ev d 38 0 [vR 4 0, vI 2] [] σ (fun v1 s1 => Q v1 s1) else if x1 < (σ 33 0 0) then ((0 : Int) ≤ x1 ∧ x1 < 30) ∧ (Q (σ 34 0 x1.toNat) σ) else Ev d 38 0 [vR 4 0, vI 2] [] σ (fun v2 s2 => Q v2 s2)) := EvN_eq [] 14 _ _ _ _ _ _ _
set_option maxRecDepth 100000 in
theorem b_P_sheet_0 {d : Nat} {σ : xM} {Q : Int → xM → Prop} {x1 : Int} {x2 : Int} {x3 : Int} : Ev (d + 1) 27 0 [vR 4 0, vI x1, vI x2, vI x3] [] σ Q = (Ev d 42 0 [vI x1] [] σ (fun v1 s1 => if v1 = (0 : Int) then Ev d 38 0 [vR 4 0, vI 1] [] s1 (fun v2 s2 => Q v2 s2) else if x2 = (0 : Int) then if x2 = (0 : Int) then if x2 = (0 : Int) then ((0 : Int) ≤ x1 ∧ x1 < 4) ∧ (if x2 = (0 : Int) then Ev d 119 0 [vR 36 x1.toNat, vI x2, vI 0, vR 0 0] [] s1 (fun v3 s3 => Q 1 s3) else Ev d 119 0 [vR 36 x1.toNat, vI x2, vI x3, vR 0 0] [] s1 (fun v4 s4 => Q 1 s4)) else if (24 : Int) < x3 then Ev d 38 0 [vR 4 0, vI 1] [] s1 (fun v5 s5 => Q v5 s5) else ((0 : Int) ≤ x1 ∧ x1 < 4) ∧ (if x2 = (0 : Int) then Ev d 119 0 [vR 36 x1.toNat, vI x2, vI 0, vR 0 0] [] s1 (fun v6 s6 => Q 1 s6) else Ev d 119 0 [vR 36 x1.toNat, vI x2, vI x3, vR 0 0] [] s1 (fun v7 s7 => Q 1 s7)) else if x3 < (0 : Int) then Ev d 38 0 [vR 4 0, vI 3] [] s1 (fun v8 s8 => Q v8 s8) else if x2 = (0 : Int) then ((0 : Int) ≤ x1 ∧ x1 < 4) ∧ (if x2 = (0 : Int) then Ev d 119 0 [vR 36 x1.toNat, vI x2, vI 0, vR 0 0] [] s1 (fun v9 s9 => Q 1 s9) else Ev d 119 0 [vR 36 x1.toNat, vI x2, vI x3, vR 0 0] [] s1 (fun v10 s10 => Q 1 s10)) else if (24 : Int) < x3 then Ev d 38 0 [vR 4 0, vI 1] [] s1 (fun v11 s11 => Q v11 s11) else ((0 : Int) ≤ x1 ∧ x1 < 4) ∧ (if x2 = (0 : Int) then Ev d 119 0 [vR 36 x1.toNat, vI x2, vI 0, vR 0 0] [] s1 (fun v12 s12 => Q 1 s12) else Ev d 119 0 [vR 36 x1.toNat, vI x2, vI x3, vR 0 0] [] s1 (fun v13 s13 => Q 1 s13)) else if x2 = (8 : Int) then if x2 = (0 : Int) then if x2 = (0 : Int) then ((0 : Int) ≤ x1 ∧ x1 < 4) ∧ (if x2 = (0 : Int) then Ev d 119 0 [vR 36 x1.toNat, vI x2, vI 0, vR 0 0] [] s1 (fun v14 s14 => Q 1 s14) else Ev d 119 0 [vR 36 x1.toNat, vI x2, vI x3, vR 0 0] [] s1 (fun v15 s15 => Q 1 s15)) else if (24 : Int) < x3 then Ev d 38 0 [vR 4 0, vI 1] [] s1 (fun v16 s16 => Q v16 s16) else ((0 : Int) ≤ x1 ∧ x1 < 4) ∧ (if x2 = (0 : Int) then Ev d 119 0 [vR 36 x1.toNat, vI x2, vI 0, vR 0 0] [] s1 (fun v17 s17 => Q 1 s17) else Ev d 119 0 [vR 36 x1.toNat, vI x2, vI x3, vR 0 0] [] s1 (fun v18 s18 => Q 1 s18)) else if x3 < (0 : Int) then Ev d 38 0 [vR 4 0, vI 3] [] s1 (fun v19 s19 => Q v19 s19) else if x2 = (0 : Int) then ((0 : Int) ≤ x1 ∧ x1 < 4) ∧ (if x2 = (0 : Int) then Ev d 119 0 [vR 36 x1.toNat, vI x2, vI 0, vR 0 0] [] s1 (fun v20 s20 => Q 1 s20) else Ev d 119 0 [vR 36 x1.toNat, vI x2, vI x3, vR 0 0] [] s1 (fun v21 s21 => Q 1 s21)) else if (24 : Int) < x3 then Ev d 38 0 [vR 4 0, vI 1] [] s1 (fun v22 s22 => Q v22 s22) else ((0 : Int) ≤ x1 ∧ x1 < 4) ∧ (if x2 = (0 : Int) then Ev d 119 0 [vR 36 x1.toNat, vI x2, vI 0, vR 0 0] [] s1 (fun v23 s23 => Q 1 s23) else Ev d 119 0 [vR 36 x1.toNat, vI x2, vI x3, vR 0 0] [] s1 (fun v24 s24 => Q 1 s24)) else if x2 = (16 : Int) then if x2 = (0 : Int) then if x2 = (0 : Int) then ((0 : Int) ≤ x1 ∧ x1 < 4) ∧ (if x2 = (0 : Int) then Ev d 119 0 [vR 36 x1.toNat, vI x2, vI 0, vR 0 0] [] s1 (fun v25 s25 => Q 1 s25) else Ev d 119 0 [vR 36 x1.toNat, vI x2, vI x3, vR 0 0] [] s1 (fun v26 s26 => Q 1 s26)) else if (24 : Int) < x3 then Ev d 38 0 [vR 4 0, vI 1] [] s1 (fun v27 s27 => Q v27 s27) else ((0 : Int) ≤ x1 ∧ x1 < 4) ∧ (if x2 = (0 : Int) then Ev d 119 0 [vR 36 x1.toNat, vI x2, vI 0, vR 0 0] [] s1 (fun v28 s28 => Q 1 s28) else Ev d 119 0 [vR 36 x1.toNat, vI x2, vI x3, vR 0 0] [] s1 (fun v29 s29 => Q 1 s29)) else if x3 < (0 : Int) then Ev d 38 0 [vR 4 0, vI 3] [] s1 (fun v30 s30 => Q v30 s30) else if x2 = (0 : Int) then ((0 : Int) ≤ x1 ∧ x1 < 4) ∧ (if x2 = (0 : Int) then Ev d 119 0 [vR 36 x1.toNat, vI x2, vI 0, vR 0 0] [] s1 (fun v31 s31 => Q 1 s31) else Ev d 119 0 [vR 36 x1.toNat, vI x2, vI x3, vR 0 0] [] s1 (fun v32 s32 => Q 1 s32)) else if (24 : Int) < x3 then Ev d 38 0 [vR 4 0, vI 1] [] s1 (fun v33 s33 => Q v33 s33) else ((0 : Int) ≤ x1 ∧ x1 < 4) ∧ (if x2 = (0 : Int) then Ev d 119 0 [vR 36 x1.toNat, vI x2, vI 0, vR 0 0] [] s1 (fun v34 s34 => Q 1 s34) else Ev d 119 0 [vR 36 x1.toNat, vI x2, vI x3, vR 0 0] [] s1 (fun v35 s35 => Q 1 s35)) else if x2 = (32 : Int) then if x2 = (0 : Int) then if x2 = (0 : Int) then ((0 : Int) ≤ x1 ∧ x1 < 4) ∧ (if x2 = (0 : Int) then Ev d 119 0 [vR 36 x1.toNat, vI x2, vI 0, vR 0 0] [] s1 (fun v36 s36 => Q 1 s36) else Ev d 119 0 [vR 36 x1.toNat, vI x2, vI x3, vR 0 0] [] s1 (fun v37 s37 => Q 1 s37)) else if (24 : Int) < x3 then Ev d 38 0 [vR 4 0, vI 1] [] s1 (fun v38 s38 => Q v38 s38) else ((0 : Int) ≤ x1 ∧ x1 < 4) ∧ (if x2 = (0 : Int) then Ev d 119 0 [vR 36 x1.toNat, vI x2, vI 0, vR 0 0] [] s1 (fun v39 s39 => Q 1 s39) else Ev d 119 0 [vR 36 x1.toNat, vI x2, vI x3, vR 0 0] [] s1 (fun v40 s40 => Q 1 s40)) else if x3 < (0 : Int) then Ev d 38 0 [vR 4 0, vI 3] [] s1 (fun v41 s41 => Q v41 s41) else if x2 = (0 : Int) then ((0 : Int) ≤ x1 ∧ x1 < 4) ∧ (if x2 = (0 : Int) then Ev d 119 0 [vR 36 x1.toNat, vI x2, vI 0, vR 0 0] [] s1 (fun v42 s42 => Q 1 s42) else Ev d 119 0 [vR 36 x1.toNat, vI x2, vI x3, vR 0 0] [] s1 (fun v43 s43 => Q 1 s43)) else if (24 : Int) < x3 then Ev d 38 0 [vR 4 0, vI 1] [] s1 (fun v44 s44 => Q v44 s44) else ((0 : Int) ≤ x1 ∧ x1 < 4) ∧ (if x2 = (0 : Int) then Ev d 119 0 [vR 36 x1.toNat, vI x2, vI 0, vR 0 0] [] s1 (fun v45 s45 => Q 1 s45) else Ev d 119 0 [vR 36 x1.toNat, vI x2, vI x3, vR 0 0] [] s1 (fun v46 s46 => Q 1 s46)) else Ev d 38 0 [vR 4 0, vI 1] [] s1 (fun v47 s47 => Q v47 s47))) := EvN_eq [] 36 _ _ _ _ _ _ _
set_option maxRecDepth 100000 in
theorem b_P_put_0 {d : Nat} {σ : xM} {Q : Int → xM → Prop} {x1 : Int} {x2 : Int} {x3 : Int} : Ev (d + 1) 28 0 [vR 4 0, vI x1, vI x2, vI x3] [] σ Q = (Ev d 42 0 [vI x1] [] σ (fun v1 s1 => if v1 = (0 : Int) then Ev d 38 0 [vR 4 0, vI 1] [] s1 (fun v2 s2 => Q v2 s2) else ((0 : Int) ≤ x1 ∧ x1 < 4) ∧ (if (s1 36 x1.toNat 0) = (0 : Int) then Ev d 38 0 [vR 4 0, vI 2] [] s1 (fun v3 s3 => Q v3 s3) else if x2 < (0 : Int) then Ev d 38 0 [vR 4 0, vI 1] [] s1 (fun v4 s4 => Q v4 s4) else ((0 : Int) ≤ x1 ∧ x1 < 4) ∧ (if x2 < (s1 36 x1.toNat 1) then ((0 : Int) ≤ x1 ∧ x1 < 4) ∧ (((0 : Int) ≤ x1 ∧ x1 < 4) ∧ (Ev d 120 0 [vR 36 x1.toNat, vI x3] [] s1 (fun v5 s5 => ((0 : Int) ≤ x2 ∧ x2 < 24) ∧ (Q 1 (xup s5 37 x1.toNat x2.toNat v5))))) else Ev d 38 0 [vR 4 0, vI 1] [] s1 (fun v6 s6 => Q v6 s6))))) := EvN_eq [] 34 _ _ _ _ _ _ _
set_option maxRecDepth 100000 in
theorem b_P_move_0 {d : Nat} {σ : xM} {Q : Int → xM → Prop} {x1 : Int} {x2 : Int} {x3 : Int} {x4 : Int} {x5 : Int} : Ev (d + 1) 29 0 [vR 4 0, vI x1, vI x2, vI x3, vI x4, vI x5, vR 0 0, vR 0 0] [] σ Q = (Ev d 42 0 [vI x1] [] σ (fun v1 s1 => if v1 = (0 : Int) then Ev d 38 0 [vR 4 0, vI 1] [] s1 (fun v2 s2 => Q v2 s2) else Ev d 42 0 [vI x3] [] s1 (fun v3 s3 => if v3 = (0 : Int) then Ev d 38 0 [vR 4 0, vI 1] [] s3 (fun v4 s4 => Q v4 s4) else ((0 : Int) ≤ x1 ∧ x1 < 4) ∧ (((0 : Int) ≤ x3 ∧ x3 < 4) ∧ (if (s3 36 x1.toNat 0) = (0 : Int) then Ev d 38 0 [vR 4 0, vI 2] [] s3 (fun v5 s5 => Q v5 s5) else if (s3 36 x3.toNat 0) = (0 : Int) then Ev d 38 0 [vR 4 0, vI 2] [] s3 (fun v6 s6 => Q v6 s6) else if (s3 36 x1.toNat 0) = (s3 36 x3.toNat 0) then Ev d 121 0 [vR 36 x1.toNat, vI x2, vI x5] [] s3 (fun v7 s7 => if v7 = (0 : Int) then Ev d 38 0 [vR 4 0, vI 1] [] s7 (fun v8 s8 => Q v8 s8) else Ev d 121 0 [vR 36 x3.toNat, vI x4, vI x5] [] s7 (fun v9 s9 => if v9 = (0 : Int) then Ev d 38 0 [vR 4 0, vI 1] [] s9 (fun v10 s10 => Q v10 s10) else ((0 : Int) ≤ x2 ∧ (0 : Int) ≤ x4 ∧ (0 : Int) ≤ x5 ∧ (x2 + x5 : Int) ≤ 24 ∧ (x4 + x5 : Int) ≤ 24) ∧ (Q x5 (xcpy s9 37 x1.toNat x2.toNat 37 x3.toNat x4.toNat x5.toNat)))) else Ev d 38 0 [vR 4 0, vI 5] [] s3 (fun v11 s11 => Q v11 s11)))))) := EvN_eq [] 48 _ _ _ _ _ _ _
set_option maxRecDepth 100000 in
theorem b_P_casts_0 {d : Nat} {σ : xM} {Q : Int → xM → Prop} {x1 : Int} : Ev (d + 1) 30 0 [vR 4 0, vI x1] [] σ Q = (Ev d 42 0 [vI x1] [] σ (fun v1 s1 => if v1 = (0 : Int) then Ev d 38 0 [vR 4 0, vI 1] [] s1 (fun v2 s2 => Q v2 s2) else ((0 : Int) ≤ x1 ∧ x1 < 4) ∧ (if (s1 36 x1.toNat 0) = (0 : Int) then Ev d 38 0 [vR 4 0, vI 2] [] s1 (fun v3 s3 => Q v3 s3) else ((0 : Int) ≤ x1 ∧ x1 < 4) ∧ (((0 : Int) ≤ x1 ∧ x1 < 4) ∧ (Ev d 62 0 [vR 5 0, vR 37 x1.toNat, vI (s1 36 x1.toNat 1), vR 0 0] [] s1 (fun v4 s4 => Q v4 s4)))))) := EvN_eq [] 24 _ _ _ _ _ _ _
set_option maxRecDepth 100000 in
theorem b_P_judge_0 {d : Nat} {σ : xM} {Q : Int → xM → Prop} {x1 : Int} : Ev (d + 1) 31 0 [vR 4 0, vI x1] [] σ Q = (Ev d 42 0 [vI x1] [] σ (fun v1 s1 => if v1 = (0 : Int) then Ev d 38 0 [vR 4 0, vI 1] [] s1 (fun v2 s2 => Q v2 s2) else ((0 : Int) ≤ x1 ∧ x1 < 4) ∧ (if (s1 36 x1.toNat 0) = (0 : Int) then Ev d 38 0 [vR 4 0, vI 2] [] s1 (fun v3 s3 => Q v3 s3) else ((0 : Int) ≤ x1 ∧ x1 < 4) ∧ (((0 : Int) ≤ x1 ∧ x1 < 4) ∧ (Ev d 63 0 [vR 5 0, vR 37 x1.toNat, vI (s1 36 x1.toNat 1), vR 0 0] [] s1 (fun v4 s4 => Q v4 s4)))))) := EvN_eq [] 24 _ _ _ _ _ _ _
set_option maxRecDepth 100000 in
theorem b_P_image_0 {d : Nat} {σ : xM} {Q : Int → xM → Prop} : Ev (d + 1) 32 0 [vR 4 0] [] σ Q = (Ev d 46 0 [vR 5 1, vR 5 0, vR 0 0] [] σ (fun v1 s1 => Q ((xup s1 4 0 0 (xwr ((s1 4 0 0) + 1))) 4 0 0) (xup s1 4 0 0 (xwr ((s1 4 0 0) + 1))))) := EvN_eq [] 15 _ _ _ _ _ _ _
set_option maxRecDepth 100000 in
theorem b_P_restore_0 {d : Nat} {σ : xM} {Q : Int → xM → Prop} : Ev (d + 1) 33 0 [vR 4 0] [] σ Q = (if (σ 4 0 0) = (0 : Int) then Ev d 38 0 [vR 4 0, vI 2] [] σ (fun v1 s1 => Q v1 s1) else Ev d 46 0 [vR 5 0, vR 5 1, vR 0 0] [] σ (fun v2 s2 => Q (s2 5 0 2) s2)) := EvN_eq [] 13 _ _ _ _ _ _ _
set_option maxRecDepth 100000 in
theorem b_P_tell_0 {d : Nat} {σ : xM} {Q : Int → xM → Prop} {x1 : Int} : Ev (d + 1) 34 0 [vR 4 0, vI x1] [] σ Q = (if (σ 5 0 6) < (24 : Int) then ((0 : Int) ≤ (σ 5 0 6) ∧ (σ 5 0 6) < 24) ∧ (Q ((xup (xup σ 16 0 ((σ 5 0 6).toNat) x1) 5 0 6 (xwr (((xup σ 16 0 ((σ 5 0 6).toNat) x1) 5 0 6) + 1))) 5 0 6) (xup (xup σ 16 0 ((σ 5 0 6).toNat) x1) 5 0 6 (xwr (((xup σ 16 0 ((σ 5 0 6).toNat) x1) 5 0 6) + 1)))) else Ev d 38 0 [vR 4 0, vI 4] [] σ (fun v1 s1 => Q v1 s1)) := EvN_eq [] 25 _ _ _ _ _ _ _
set_option maxRecDepth 100000 in
theorem b_P_check_0 {d : Nat} {σ : xM} {Q : Int → xM → Prop} : Ev d 35 0 [vR 4 0, vR 0 0, vR 0 0] [] σ Q = (Ev d 35 18 [vR 4 0, vI (σ 5 0 6), vI 0] [] (xup σ 5 0 6 0) Q) := EvN_eq [18] 12 _ _ _ _ _ _ _
set_option maxRecDepth 100000 in
theorem b_P_check_18 {d : Nat} {σ : xM} {Q : Int → xM → Prop} {x1 : Int} {x2 : Int} : Ev (d + 1) 35 18 [vR 4 0, vI x1, vI x2] [] σ Q = (if x2 < x1 then if x2 < (σ 5 0 1) then ((0 : Int) ≤ x2 ∧ x2 < 24) ∧ (Ev d 57 0 [vR 5 0, vI x2, vR 0 0, vR 0 0] [] σ (fun v1 s1 => if (σ 16 0 x2.toNat) = v1 then Ev (d + 1) 35 18 [vR 4 0, vI x1, vI (xwr (x2 + 1))] [] s1 Q else Q (xwr (1 + x2)) s1)) else Q (xwr (1 + x2)) σ else Q 0 σ) := EvN_eq [18] 23 _ _ _ _ _ _ _
set_option maxRecDepth 100000 in
theorem b_P_count_0 {d : Nat} {σ : xM} {Q : Int → xM → Prop} {x1 : Int} : Ev (d + 1) 36 0 [vR 4 0, vI x1] [] σ Q = (if x1 = 0 then Q (σ 5 0 0) σ else if x1 = 1 then Q (σ 5 0 1) σ else if x1 = 2 then Q (σ 5 0 2) σ else if x1 = 3 then Q (σ 5 0 3) σ else if x1 = 4 then Q (σ 5 0 5) σ else if x1 = 5 then Q (σ 5 0 6) σ else if x1 = 6 then Q (σ 33 0 0) σ else if x1 = 7 then Q (σ 5 0 4) σ else Ev d 38 0 [vR 4 0, vI 1] [] σ (fun v1 s1 => Q v1 s1)) := EvN_eq [] 7 _ _ _ _ _ _ _
set_option maxRecDepth 100000 in
theorem b_P_told_0 {d : Nat} {σ : xM} {Q : Int → xM → Prop} {x1 : Int} : Ev (d + 1) 37 0 [vR 4 0, vI x1] [] σ Q = (if x1 < (1 : Int) then Ev d 38 0 [vR 4 0, vI 1] [] σ (fun v1 s1 => Q v1 s1) else if (6 : Int) < x1 then Ev d 38 0 [vR 4 0, vI 1] [] σ (fun v2 s2 => Q v2 s2) else ((0 : Int) ≤ x1 ∧ x1 < 7) ∧ (Q (σ 39 0 x1.toNat) σ)) := EvN_eq [] 12 _ _ _ _ _ _ _
set_option maxRecDepth 100000 in
theorem b_P_fail_0 {d : Nat} {σ : xM} {Q : Int → xM → Prop} {x1 : Int} : Ev d 38 0 [vR 4 0, vI x1] [] σ Q = (((0 : Int) ≤ x1 ∧ x1 < 7) ∧ (((0 : Int) ≤ x1 ∧ x1 < 7) ∧ (Q (xwr ((-1000000000) - x1)) (xup σ 39 0 x1.toNat (xwr ((σ 39 0 x1.toNat) + 1)))))) := EvN_eq [] 13 _ _ _ _ _ _ _
set_option maxRecDepth 100000 in
theorem b_P_isWithin_0 {d : Nat} {σ : xM} {Q : Int → xM → Prop} {x0 : Int} {x1 : Int} {x2 : Int} : Ev d 39 0 [vI x0, vI x1, vI x2] [] σ Q = (if x0 < x1 then ((0 : Int) = 0 ∨ (0 : Int) = 1) ∧ Q 0 σ else if x2 < x0 then ((0 : Int) = 0 ∨ (0 : Int) = 1) ∧ Q 0 σ else ((1 : Int) = 0 ∨ (1 : Int) = 1) ∧ Q 1 σ) := EvN_eq [] 10 _ _ _ _ _ _ _
set_option maxRecDepth 100000 in
theorem b_P_isKindAndNumber_0 {d : Nat} {σ : xM} {Q : Int → xM → Prop} {x0 : Int} : Ev (d + 1) 40 0 [vI x0] [] σ Q = (Ev d 39 0 [vI x0, vI 0, vI 69] [] σ (fun v1 s1 => (v1 = 0 ∨ v1 = 1) ∧ Q v1 s1)) := EvN_eq [] 6 _ _ _ _ _ _ _
set_option maxRecDepth 100000 in
theorem b_P_isUse_0 {d : Nat} {σ : xM} {Q : Int → xM → Prop} {x0 : Int} : Ev (d + 1) 41 0 [vI x0] [] σ Q = (Ev d 39 0 [vI x0, vI 0, vI 1] [] σ (fun v1 s1 => (v1 = 0 ∨ v1 = 1) ∧ Q v1 s1)) := EvN_eq [] 6 _ _ _ _ _ _ _
set_option maxRecDepth 100000 in
theorem b_P_isSheet_0 {d : Nat} {σ : xM} {Q : Int → xM → Prop} {x0 : Int} : Ev (d + 1) 42 0 [vI x0] [] σ Q = (Ev d 39 0 [vI x0, vI 0, vI 3] [] σ (fun v1 s1 => (v1 = 0 ∨ v1 = 1) ∧ Q v1 s1)) := EvN_eq [] 6 _ _ _ _ _ _ _
set_option maxRecDepth 100000 in
theorem b_P_commonDivisor_0 {d : Nat} {σ : xM} {Q : Int → xM → Prop} {x0 : Int} {x1 : Int} : Ev d 43 0 [vI x0, vI x1, vR 0 0, vR 0 0, vR 0 0, vR 0 0] [] σ Q = (Ev d 43 7 [vI x0, vI x1, vI x0, vI x1, vI 0, vR 0 0] [] σ Q) := EvN_eq [7] 8 _ _ _ _ _ _ _
set_option maxRecDepth 100000 in
theorem b_P_commonDivisor_7 {d : Nat} {σ : xM} {Q : Int → xM → Prop} {x0 : Int} {x1 : Int} {x2 : Int} {x3 : Int} {x4 : Int} {wx5 : xV} : Ev d 43 7 [vI x0, vI x1, vI x2, vI x3, vI x4, wx5] [] σ Q = (if x4 < (100 : Int) then if x3 = (0 : Int) then Q x2 σ else x3 ≠ 0 ∧ (Ev d 43 7 [vI x0, vI x1, vI x3, vI (Int.tmod x2 x3), vI (xwr (x4 + 1)), vI (Int.tmod x2 x3)] [] σ Q) else Q x2 σ) := EvN_eq [7] 17 _ _ _ _ _ _ _
set_option maxRecDepth 100000 in
theorem b_P_held_0 {d : Nat} {σ : xM} {Q : Int → xM → Prop} {x0 : Int} {x1 : Int} {x2 : Int} : Ev d 44 0 [vI x0, vI x1, vI x2] [] σ Q = (Q (if x1 < (if x0 < x2 then x0 else x2) then if x0 < x2 then x0 else x2 else x1) σ) := EvN_eq [] 7 _ _ _ _ _ _ _
set_option maxRecDepth 100000 in
theorem b_S_copyFrom_0 {d : Nat} {σ : xM} {Q : Int → xM → Prop} : Ev d 46 0 [vR 5 0, vR 5 1, vR 0 0] [] σ Q = (Ev d 46 2 [vR 5 0, vR 5 1, vI 0] [] σ Q) := EvN_eq [2, 31, 60] 4 _ _ _ _ _ _ _
set_option maxRecDepth 100000 in
theorem b_S_copyFrom_2 {d : Nat} {σ : xM} {Q : Int → xM → Prop} {x2 : Int} : Ev (d + 1) 46 2 [vR 5 0, vR 5 1, vI x2] [] σ Q = (if x2 < (7 : Int) then ((0 : Int) ≤ x2 ∧ x2 < 7) ∧ (((0 : Int) ≤ x2 ∧ x2 < 7) ∧ (Ev d 66 0 [vR 7 x2.toNat, vR 7 (7 + x2.toNat)] [] σ (fun v1 s1 => Ev (d + 1) 46 2 [vR 5 0, vR 5 1, vI (xwr (x2 + 1))] [] s1 Q))) else Ev (d + 1) 46 31 [vR 5 0, vR 5 1, vI 0] [] σ Q) := EvN_eq [2, 31, 60] 16 _ _ _ _ _ _ _
set_option maxRecDepth 100000 in
theorem b_S_copyFrom_31 {d : Nat} {σ : xM} {Q : Int → xM → Prop} {x2 : Int} : Ev (d + 1) 46 31 [vR 5 0, vR 5 1, vI x2] [] σ Q = (if x2 < (7 : Int) then ((0 : Int) ≤ x2 ∧ x2 < 7) ∧ (((0 : Int) ≤ x2 ∧ x2 < 7) ∧ (Ev d 72 0 [vR 9 x2.toNat, vR 9 (7 + x2.toNat)] [] σ (fun v1 s1 => Ev (d + 1) 46 31 [vR 5 0, vR 5 1, vI (xwr (x2 + 1))] [] s1 Q))) else Ev (d + 1) 46 60 [vR 5 0, vR 5 1, vI 0] [] σ Q) := EvN_eq [2, 31, 60] 16 _ _ _ _ _ _ _
set_option maxRecDepth 100000 in
theorem b_S_copyFrom_60 {d : Nat} {σ : xM} {Q : Int → xM → Prop} {x2 : Int} : Ev (d + 1) 46 60 [vR 5 0, vR 5 1, vI x2] [] σ Q = (if x2 < (2 : Int) then ((0 : Int) ≤ x2 ∧ x2 < 2) ∧ (((0 : Int) ≤ x2 ∧ x2 < 2) ∧ (Ev d 78 0 [vR 13 x2.toNat, vR 13 (2 + x2.toNat)] [] σ (fun v1 s1 => Ev (d + 1) 46 60 [vR 5 0, vR 5 1, vI (xwr (x2 + 1))] [] s1 Q))) else ((0 : Int) ≤ 0 ∧ (0 : Int) ≤ 0 ∧ (0 : Int) ≤ 60 ∧ (0 + 60 : Int) ≤ 60 ∧ (0 + 60 : Int) ≤ 60) ∧ (((0 : Int) ≤ 0 ∧ (0 : Int) ≤ 0 ∧ (0 : Int) ≤ 24 ∧ (0 + 24 : Int) ≤ 24 ∧ (0 + 24 : Int) ≤ 24) ∧ (Q 0 (xup (xcpy (xup (xcpy (xup (xup (xup (xup (xup σ 5 0 0 (σ 5 1 0)) 5 0 1 ((xup σ 5 0 0 (σ 5 1 0)) 5 1 1)) 5 0 2 ((xup (xup σ 5 0 0 (σ 5 1 0)) 5 0 1 ((xup σ 5 0 0 (σ 5 1 0)) 5 1 1)) 5 1 2)) 5 0 3 ((xup (xup (xup σ 5 0 0 (σ 5 1 0)) 5 0 1 ((xup σ 5 0 0 (σ 5 1 0)) 5 1 1)) 5 0 2 ((xup (xup σ 5 0 0 (σ 5 1 0)) 5 0 1 ((xup σ 5 0 0 (σ 5 1 0)) 5 1 1)) 5 1 2)) 5 1 3)) 5 0 4 ((xup (xup (xup (xup σ 5 0 0 (σ 5 1 0)) 5 0 1 ((xup σ 5 0 0 (σ 5 1 0)) 5 1 1)) 5 0 2 ((xup (xup σ 5 0 0 (σ 5 1 0)) 5 0 1 ((xup σ 5 0 0 (σ 5 1 0)) 5 1 1)) 5 1 2)) 5 0 3 ((xup (xup (xup σ 5 0 0 (σ 5 1 0)) 5 0 1 ((xup σ 5 0 0 (σ 5 1 0)) 5 1 1)) 5 0 2 ((xup (xup σ 5 0 0 (σ 5 1 0)) 5 0 1 ((xup σ 5 0 0 (σ 5 1 0)) 5 1 1)) 5 1 2)) 5 1 3)) 5 1 4)) 11 1 (Int.toNat 0) 11 0 (Int.toNat 0) (Int.toNat 60)) 5 0 5 ((xcpy (xup (xup (xup (xup (xup σ 5 0 0 (σ 5 1 0)) 5 0 1 ((xup σ 5 0 0 (σ 5 1 0)) 5 1 1)) 5 0 2 ((xup (xup σ 5 0 0 (σ 5 1 0)) 5 0 1 ((xup σ 5 0 0 (σ 5 1 0)) 5 1 1)) 5 1 2)) 5 0 3 ((xup (xup (xup σ 5 0 0 (σ 5 1 0)) 5 0 1 ((xup σ 5 0 0 (σ 5 1 0)) 5 1 1)) 5 0 2 ((xup (xup σ 5 0 0 (σ 5 1 0)) 5 0 1 ((xup σ 5 0 0 (σ 5 1 0)) 5 1 1)) 5 1 2)) 5 1 3)) 5 0 4 ((xup (xup (xup (xup σ 5 0 0 (σ 5 1 0)) 5 0 1 ((xup σ 5 0 0 (σ 5 1 0)) 5 1 1)) 5 0 2 ((xup (xup σ 5 0 0 (σ 5 1 0)) 5 0 1 ((xup σ 5 0 0 (σ 5 1 0)) 5 1 1)) 5 1 2)) 5 0 3 ((xup (xup (xup σ 5 0 0 (σ 5 1 0)) 5 0 1 ((xup σ 5 0 0 (σ 5 1 0)) 5 1 1)) 5 0 2 ((xup (xup σ 5 0 0 (σ 5 1 0)) 5 0 1 ((xup σ 5 0 0 (σ 5 1 0)) 5 1 1)) 5 1 2)) 5 1 3)) 5 1 4)) 11 1 (Int.toNat 0) 11 0 (Int.toNat 0) (Int.toNat 60)) 5 1 5)) 16 1 (Int.toNat 0) 16 0 (Int.toNat 0) (Int.toNat 24)) 5 0 6 ((xcpy (xup (xcpy (xup (xup (xup (xup (xup σ 5 0 0 (σ 5 1 0)) 5 0 1 ((xup σ 5 0 0 (σ 5 1 0)) 5 1 1)) 5 0 2 ((xup (xup σ 5 0 0 (σ 5 1 0)) 5 0 1 ((xup σ 5 0 0 (σ 5 1 0)) 5 1 1)) 5 1 2)) 5 0 3 ((xup (xup (xup σ 5 0 0 (σ 5 1 0)) 5 0 1 ((xup σ 5 0 0 (σ 5 1 0)) 5 1 1)) 5 0 2 ((xup (xup σ 5 0 0 (σ 5 1 0)) 5 0 1 ((xup σ 5 0 0 (σ 5 1 0)) 5 1 1)) 5 1 2)) 5 1 3)) 5 0 4 ((xup (xup (xup (xup σ 5 0 0 (σ 5 1 0)) 5 0 1 ((xup σ 5 0 0 (σ 5 1 0)) 5 1 1)) 5 0 2 ((xup (xup σ 5 0 0 (σ 5 1 0)) 5 0 1 ((xup σ 5 0 0 (σ 5 1 0)) 5 1 1)) 5 1 2)) 5 0 3 ((xup (xup (xup σ 5 0 0 (σ 5 1 0)) 5 0 1 ((xup σ 5 0 0 (σ 5 1 0)) 5 1 1)) 5 0 2 ((xup (xup σ 5 0 0 (σ 5 1 0)) 5 0 1 ((xup σ 5 0 0 (σ 5 1 0)) 5 1 1)) 5 1 2)) 5 1 3)) 5 1 4)) 11 1 (Int.toNat 0) 11 0 (Int.toNat 0) (Int.toNat 60)) 5 0 5 ((xcpy (xup (xup (xup (xup (xup σ 5 0 0 (σ 5 1 0)) 5 0 1 ((xup σ 5 0 0 (σ 5 1 0)) 5 1 1)) 5 0 2 ((xup (xup σ 5 0 0 (σ 5 1 0)) 5 0 1 ((xup σ 5 0 0 (σ 5 1 0)) 5 1 1)) 5 1 2)) 5 0 3 ((xup (xup (xup σ 5 0 0 (σ 5 1 0)) 5 0 1 ((xup σ 5 0 0 (σ 5 1 0)) 5 1 1)) 5 0 2 ((xup (xup σ 5 0 0 (σ 5 1 0)) 5 0 1 ((xup σ 5 0 0 (σ 5 1 0)) 5 1 1)) 5 1 2)) 5 1 3)) 5 0 4 ((xup (xup (xup (xup σ 5 0 0 (σ 5 1 0)) 5 0 1 ((xup σ 5 0 0 (σ 5 1 0)) 5 1 1)) 5 0 2 ((xup (xup σ 5 0 0 (σ 5 1 0)) 5 0 1 ((xup σ 5 0 0 (σ 5 1 0)) 5 1 1)) 5 1 2)) 5 0 3 ((xup (xup (xup σ 5 0 0 (σ 5 1 0)) 5 0 1 ((xup σ 5 0 0 (σ 5 1 0)) 5 1 1)) 5 0 2 ((xup (xup σ 5 0 0 (σ 5 1 0)) 5 0 1 ((xup σ 5 0 0 (σ 5 1 0)) 5 1 1)) 5 1 2)) 5 1 3)) 5 1 4)) 11 1 (Int.toNat 0) 11 0 (Int.toNat 0) (Int.toNat 60)) 5 1 5)) 16 1 (Int.toNat 0) 16 0 (Int.toNat 0) (Int.toNat 24)) 5 1 6))))) := EvN_eq [2, 31, 60] 49 _ _ _ _ _ _ _
set_option maxRecDepth 100000 in
theorem b_S_copyFromA_0 {d : Nat} {σ : xM} {Q : Int → xM → Prop} : Ev d 46 0 [vR 5 1, vR 5 0, vR 0 0] [] σ Q = (Ev d 46 2 [vR 5 1, vR 5 0, vI 0] [] σ Q) := EvN_eq [2, 31, 60] 4 _ _ _ _ _ _ _
set_option maxRecDepth 100000 in
theorem b_S_copyFromA_2 {d : Nat} {σ : xM} {Q : Int → xM → Prop} {x2 : Int} : Ev (d + 1) 46 2 [vR 5 1, vR 5 0, vI x2] [] σ Q = (if x2 < (7 : Int) then ((0 : Int) ≤ x2 ∧ x2 < 7) ∧ (((0 : Int) ≤ x2 ∧ x2 < 7) ∧ (Ev d 66 0 [vR 7 (7 + x2.toNat), vR 7 x2.toNat] [] σ (fun v1 s1 => Ev (d + 1) 46 2 [vR 5 1, vR 5 0, vI (xwr (x2 + 1))] [] s1 Q))) else Ev (d + 1) 46 31 [vR 5 1, vR 5 0, vI 0] [] σ Q) := EvN_eq [2, 31, 60] 16 _ _ _ _ _ _ _
set_option maxRecDepth 100000 in
theorem b_S_copyFromA_31 {d : Nat} {σ : xM} {Q : Int → xM → Prop} {x2 : Int} : Ev (d + 1) 46 31 [vR 5 1, vR 5 0, vI x2] [] σ Q = (if x2 < (7 : Int) then ((0 : Int) ≤ x2 ∧ x2 < 7) ∧ (((0 : Int) ≤ x2 ∧ x2 < 7) ∧ (Ev d 72 0 [vR 9 (7 + x2.toNat), vR 9 x2.toNat] [] σ (fun v1 s1 => Ev (d + 1) 46 31 [vR 5 1, vR 5 0, vI (xwr (x2 + 1))] [] s1 Q))) else Ev (d + 1) 46 60 [vR 5 1, vR 5 0, vI 0] [] σ Q) := EvN_eq [2, 31, 60] 16 _ _ _ _ _ _ _
set_option maxRecDepth 100000 in
theorem b_S_copyFromA_60 {d : Nat} {σ : xM} {Q : Int → xM → Prop} {x2 : Int} : Ev (d + 1) 46 60 [vR 5 1, vR 5 0, vI x2] [] σ Q = (if x2 < (2 : Int) then ((0 : Int) ≤ x2 ∧ x2 < 2) ∧ (((0 : Int) ≤ x2 ∧ x2 < 2) ∧ (Ev d 78 0 [vR 13 (2 + x2.toNat), vR 13 x2.toNat] [] σ (fun v1 s1 => Ev (d + 1) 46 60 [vR 5 1, vR 5 0, vI (xwr (x2 + 1))] [] s1 Q))) else ((0 : Int) ≤ 0 ∧ (0 : Int) ≤ 0 ∧ (0 : Int) ≤ 60 ∧ (0 + 60 : Int) ≤ 60 ∧ (0 + 60 : Int) ≤ 60) ∧ (((0 : Int) ≤ 0 ∧ (0 : Int) ≤ 0 ∧ (0 : Int) ≤ 24 ∧ (0 + 24 : Int) ≤ 24 ∧ (0 + 24 : Int) ≤ 24) ∧ (Q 0 (xup (xcpy (xup (xcpy (xup (xup (xup (xup (xup σ 5 1 0 (σ 5 0 0)) 5 1 1 ((xup σ 5 1 0 (σ 5 0 0)) 5 0 1)) 5 1 2 ((xup (xup σ 5 1 0 (σ 5 0 0)) 5 1 1 ((xup σ 5 1 0 (σ 5 0 0)) 5 0 1)) 5 0 2)) 5 1 3 ((xup (xup (xup σ 5 1 0 (σ 5 0 0)) 5 1 1 ((xup σ 5 1 0 (σ 5 0 0)) 5 0 1)) 5 1 2 ((xup (xup σ 5 1 0 (σ 5 0 0)) 5 1 1 ((xup σ 5 1 0 (σ 5 0 0)) 5 0 1)) 5 0 2)) 5 0 3)) 5 1 4 ((xup (xup (xup (xup σ 5 1 0 (σ 5 0 0)) 5 1 1 ((xup σ 5 1 0 (σ 5 0 0)) 5 0 1)) 5 1 2 ((xup (xup σ 5 1 0 (σ 5 0 0)) 5 1 1 ((xup σ 5 1 0 (σ 5 0 0)) 5 0 1)) 5 0 2)) 5 1 3 ((xup (xup (xup σ 5 1 0 (σ 5 0 0)) 5 1 1 ((xup σ 5 1 0 (σ 5 0 0)) 5 0 1)) 5 1 2 ((xup (xup σ 5 1 0 (σ 5 0 0)) 5 1 1 ((xup σ 5 1 0 (σ 5 0 0)) 5 0 1)) 5 0 2)) 5 0 3)) 5 0 4)) 11 0 (Int.toNat 0) 11 1 (Int.toNat 0) (Int.toNat 60)) 5 1 5 ((xcpy (xup (xup (xup (xup (xup σ 5 1 0 (σ 5 0 0)) 5 1 1 ((xup σ 5 1 0 (σ 5 0 0)) 5 0 1)) 5 1 2 ((xup (xup σ 5 1 0 (σ 5 0 0)) 5 1 1 ((xup σ 5 1 0 (σ 5 0 0)) 5 0 1)) 5 0 2)) 5 1 3 ((xup (xup (xup σ 5 1 0 (σ 5 0 0)) 5 1 1 ((xup σ 5 1 0 (σ 5 0 0)) 5 0 1)) 5 1 2 ((xup (xup σ 5 1 0 (σ 5 0 0)) 5 1 1 ((xup σ 5 1 0 (σ 5 0 0)) 5 0 1)) 5 0 2)) 5 0 3)) 5 1 4 ((xup (xup (xup (xup σ 5 1 0 (σ 5 0 0)) 5 1 1 ((xup σ 5 1 0 (σ 5 0 0)) 5 0 1)) 5 1 2 ((xup (xup σ 5 1 0 (σ 5 0 0)) 5 1 1 ((xup σ 5 1 0 (σ 5 0 0)) 5 0 1)) 5 0 2)) 5 1 3 ((xup (xup (xup σ 5 1 0 (σ 5 0 0)) 5 1 1 ((xup σ 5 1 0 (σ 5 0 0)) 5 0 1)) 5 1 2 ((xup (xup σ 5 1 0 (σ 5 0 0)) 5 1 1 ((xup σ 5 1 0 (σ 5 0 0)) 5 0 1)) 5 0 2)) 5 0 3)) 5 0 4)) 11 0 (Int.toNat 0) 11 1 (Int.toNat 0) (Int.toNat 60)) 5 0 5)) 16 0 (Int.toNat 0) 16 1 (Int.toNat 0) (Int.toNat 24)) 5 1 6 ((xcpy (xup (xcpy (xup (xup (xup (xup (xup σ 5 1 0 (σ 5 0 0)) 5 1 1 ((xup σ 5 1 0 (σ 5 0 0)) 5 0 1)) 5 1 2 ((xup (xup σ 5 1 0 (σ 5 0 0)) 5 1 1 ((xup σ 5 1 0 (σ 5 0 0)) 5 0 1)) 5 0 2)) 5 1 3 ((xup (xup (xup σ 5 1 0 (σ 5 0 0)) 5 1 1 ((xup σ 5 1 0 (σ 5 0 0)) 5 0 1)) 5 1 2 ((xup (xup σ 5 1 0 (σ 5 0 0)) 5 1 1 ((xup σ 5 1 0 (σ 5 0 0)) 5 0 1)) 5 0 2)) 5 0 3)) 5 1 4 ((xup (xup (xup (xup σ 5 1 0 (σ 5 0 0)) 5 1 1 ((xup σ 5 1 0 (σ 5 0 0)) 5 0 1)) 5 1 2 ((xup (xup σ 5 1 0 (σ 5 0 0)) 5 1 1 ((xup σ 5 1 0 (σ 5 0 0)) 5 0 1)) 5 0 2)) 5 1 3 ((xup (xup (xup σ 5 1 0 (σ 5 0 0)) 5 1 1 ((xup σ 5 1 0 (σ 5 0 0)) 5 0 1)) 5 1 2 ((xup (xup σ 5 1 0 (σ 5 0 0)) 5 1 1 ((xup σ 5 1 0 (σ 5 0 0)) 5 0 1)) 5 0 2)) 5 0 3)) 5 0 4)) 11 0 (Int.toNat 0) 11 1 (Int.toNat 0) (Int.toNat 60)) 5 1 5 ((xcpy (xup (xup (xup (xup (xup σ 5 1 0 (σ 5 0 0)) 5 1 1 ((xup σ 5 1 0 (σ 5 0 0)) 5 0 1)) 5 1 2 ((xup (xup σ 5 1 0 (σ 5 0 0)) 5 1 1 ((xup σ 5 1 0 (σ 5 0 0)) 5 0 1)) 5 0 2)) 5 1 3 ((xup (xup (xup σ 5 1 0 (σ 5 0 0)) 5 1 1 ((xup σ 5 1 0 (σ 5 0 0)) 5 0 1)) 5 1 2 ((xup (xup σ 5 1 0 (σ 5 0 0)) 5 1 1 ((xup σ 5 1 0 (σ 5 0 0)) 5 0 1)) 5 0 2)) 5 0 3)) 5 1 4 ((xup (xup (xup (xup σ 5 1 0 (σ 5 0 0)) 5 1 1 ((xup σ 5 1 0 (σ 5 0 0)) 5 0 1)) 5 1 2 ((xup (xup σ 5 1 0 (σ 5 0 0)) 5 1 1 ((xup σ 5 1 0 (σ 5 0 0)) 5 0 1)) 5 0 2)) 5 1 3 ((xup (xup (xup σ 5 1 0 (σ 5 0 0)) 5 1 1 ((xup σ 5 1 0 (σ 5 0 0)) 5 0 1)) 5 1 2 ((xup (xup σ 5 1 0 (σ 5 0 0)) 5 1 1 ((xup σ 5 1 0 (σ 5 0 0)) 5 0 1)) 5 0 2)) 5 0 3)) 5 0 4)) 11 0 (Int.toNat 0) 11 1 (Int.toNat 0) (Int.toNat 60)) 5 0 5)) 16 0 (Int.toNat 0) 16 1 (Int.toNat 0) (Int.toNat 24)) 5 0 6))))) := EvN_eq [2, 31, 60] 49 _ _ _ _ _ _ _
set_option maxRecDepth 100000 in
theorem b_S_hasPart_0 {d : Nat} {σ : xM} {Q : Int → xM → Prop} {x1 : Int} : Ev d 47 0 [vR 5 0, vI x1] [] σ Q = (if x1 < (0 : Int) then ((0 : Int) = 0 ∨ (0 : Int) = 1) ∧ Q 0 σ else if x1 < (σ 5 0 0) then ((1 : Int) = 0 ∨ (1 : Int) = 1) ∧ Q 1 σ else ((0 : Int) = 0 ∨ (0 : Int) = 1) ∧ Q 0 σ) := EvN_eq [] 10 _ _ _ _ _ _ _
set_option maxRecDepth 100000 in
theorem b_S_hasPartOrNone_0 {d : Nat} {σ : xM} {Q : Int → xM → Prop} {x1 : Int} : Ev (d + 1) 48 0 [vR 5 0, vI x1] [] σ Q = (if x1 = ((-1) : Int) then ((1 : Int) = 0 ∨ (1 : Int) = 1) ∧ Q 1 σ else Ev d 47 0 [vR 5 0, vI x1] [] σ (fun v1 s1 => if v1 = (0 : Int) then ((0 : Int) = 0 ∨ (0 : Int) = 1) ∧ Q 0 s1 else ((1 : Int) = 0 ∨ (1 : Int) = 1) ∧ Q 1 s1)) := EvN_eq [] 11 _ _ _ _ _ _ _
set_option maxRecDepth 100000 in
theorem b_S_hasChild_0 {d : Nat} {σ : xM} {Q : Int → xM → Prop} {x1 : Int} : Ev d 49 0 [vR 5 0, vI x1] [] σ Q = (if x1 < (0 : Int) then ((0 : Int) = 0 ∨ (0 : Int) = 1) ∧ Q 0 σ else if x1 < (σ 5 0 1) then ((1 : Int) = 0 ∨ (1 : Int) = 1) ∧ Q 1 σ else ((0 : Int) = 0 ∨ (0 : Int) = 1) ∧ Q 0 σ) := EvN_eq [] 10 _ _ _ _ _ _ _
set_option maxRecDepth 100000 in
theorem b_S_mayPlay_0 {d : Nat} {σ : xM} {Q : Int → xM → Prop} {x1 : Int} {x2 : Int} : Ev (d + 1) 50 0 [vR 5 0, vI x1, vI x2] [] σ Q = (((0 : Int) ≤ x2 ∧ x2 < 7) ∧ (((0 : Int) ≤ x1 ∧ x1 < 7) ∧ (Ev d 68 0 [vR 7 x2.toNat, vR 9 x1.toNat] [] σ (fun v1 s1 => (v1 = 0 ∨ v1 = 1) ∧ Q v1 s1)))) := EvN_eq [] 11 _ _ _ _ _ _ _
set_option maxRecDepth 100000 in
theorem b_S_holderOf_0 {d : Nat} {σ : xM} {Q : Int → xM → Prop} {x1 : Int} : Ev d 51 0 [vR 5 0, vI x1, vR 0 0] [] σ Q = (Ev d 51 2 [vR 5 0, vI x1, vI 0] [] σ Q) := EvN_eq [2] 4 _ _ _ _ _ _ _
set_option maxRecDepth 100000 in
theorem b_S_holderOf_2 {d : Nat} {σ : xM} {Q : Int → xM → Prop} {x1 : Int} {x2 : Int} : Ev d 51 2 [vR 5 0, vI x1, vI x2] [] σ Q = (if x2 < (σ 5 0 1) then ((0 : Int) ≤ x2 ∧ x2 < 7) ∧ (if (σ 9 x2.toNat 5) = x1 then Q x2 σ else Ev d 51 2 [vR 5 0, vI x1, vI (xwr (x2 + 1))] [] σ Q) else Q (-1) σ) := EvN_eq [2] 15 _ _ _ _ _ _ _
set_option maxRecDepth 100000 in
theorem b_S_childrenFor_0 {d : Nat} {σ : xM} {Q : Int → xM → Prop} {x1 : Int} : Ev d 52 0 [vR 5 0, vI x1, vR 0 0, vR 0 0] [] σ Q = (Ev d 52 4 [vR 5 0, vI x1, vI 0, vI 0] [] σ Q) := EvN_eq [4] 6 _ _ _ _ _ _ _
set_option maxRecDepth 100000 in
theorem b_S_childrenFor_4 {d : Nat} {σ : xM} {Q : Int → xM → Prop} {x1 : Int} {x2 : Int} {x3 : Int} : Ev (d + 1) 52 4 [vR 5 0, vI x1, vI x2, vI x3] [] σ Q = (if x3 < (σ 5 0 1) then Ev d 50 0 [vR 5 0, vI x3, vI x1] [] σ (fun v1 s1 => if v1 = (0 : Int) then Ev (d + 1) 52 4 [vR 5 0, vI x1, vI x2, vI (xwr (x3 + 1))] [] s1 Q else Ev (d + 1) 52 4 [vR 5 0, vI x1, vI (xior x2 (xshl 1 x3)), vI (xwr (x3 + 1))] [] s1 Q) else Q x2 σ) := EvN_eq [4] 19 _ _ _ _ _ _ _
set_option maxRecDepth 100000 in
theorem b_S_partsFor_0 {d : Nat} {σ : xM} {Q : Int → xM → Prop} {x1 : Int} : Ev d 53 0 [vR 5 0, vI x1, vR 0 0, vR 0 0] [] σ Q = (Ev d 53 4 [vR 5 0, vI x1, vI 0, vI 0] [] σ Q) := EvN_eq [4] 6 _ _ _ _ _ _ _
set_option maxRecDepth 100000 in
theorem b_S_partsFor_4 {d : Nat} {σ : xM} {Q : Int → xM → Prop} {x1 : Int} {x2 : Int} {x3 : Int} : Ev (d + 1) 53 4 [vR 5 0, vI x1, vI x2, vI x3] [] σ Q = (if x3 < (σ 5 0 0) then Ev d 50 0 [vR 5 0, vI x1, vI x3] [] σ (fun v1 s1 => if v1 = (0 : Int) then Ev (d + 1) 53 4 [vR 5 0, vI x1, vI x2, vI (xwr (x3 + 1))] [] s1 Q else Ev (d + 1) 53 4 [vR 5 0, vI x1, vI (xior x2 (xshl 1 x3)), vI (xwr (x3 + 1))] [] s1 Q) else Q x2 σ) := EvN_eq [4] 19 _ _ _ _ _ _ _
set_option maxRecDepth 100000 in
theorem b_S_given_0 {d : Nat} {σ : xM} {Q : Int → xM → Prop} {x1 : Int} {x2 : Int} {x3 : Int} {x4 : Int} : Ev (d + 1) 54 0 [vR 5 0, vI x1, vI x2, vI x3, vI x4, vR 0 0] [] σ Q = (((0 : Int) ≤ x1 ∧ x1 < 2) ∧ (if (0 : Int) < (σ 13 x1.toNat 0) then if x1 = (0 : Int) then if (1 : Int) = (0 : Int) then Ev d 44 0 [vI (xwr (10 * x2)), vI 0, vI 99] [] σ (fun v1 s1 => Q v1 s1) else ((0 : Int) ≤ x1 ∧ x1 < 2) ∧ (Ev d 79 0 [vR 13 x1.toNat, vI x2, vI x3, vI x4, vR 0 0, vR 0 0, vR 0 0] [] σ (fun v2 s2 => Ev d 44 0 [vI v2, vI 0, vI 99] [] s2 (fun v3 s3 => Q v3 s3))) else if (1 : Int) = (0 : Int) then Ev d 44 0 [vI x2, vI (-99), vI 99] [] σ (fun v4 s4 => Q v4 s4) else ((0 : Int) ≤ x1 ∧ x1 < 2) ∧ (Ev d 79 0 [vR 13 x1.toNat, vI x2, vI x3, vI x4, vR 0 0, vR 0 0, vR 0 0] [] σ (fun v5 s5 => Ev d 44 0 [vI v5, vI (-99), vI 99] [] s5 (fun v6 s6 => Q v6 s6))) else if x1 = (0 : Int) then if (0 : Int) = (0 : Int) then Ev d 44 0 [vI (xwr (10 * x2)), vI 0, vI 99] [] σ (fun v7 s7 => Q v7 s7) else ((0 : Int) ≤ x1 ∧ x1 < 2) ∧ (Ev d 79 0 [vR 13 x1.toNat, vI x2, vI x3, vI x4, vR 0 0, vR 0 0, vR 0 0] [] σ (fun v8 s8 => Ev d 44 0 [vI v8, vI 0, vI 99] [] s8 (fun v9 s9 => Q v9 s9))) else if (0 : Int) = (0 : Int) then Ev d 44 0 [vI x2, vI (-99), vI 99] [] σ (fun v10 s10 => Q v10 s10) else ((0 : Int) ≤ x1 ∧ x1 < 2) ∧ (Ev d 79 0 [vR 13 x1.toNat, vI x2, vI x3, vI x4, vR 0 0, vR 0 0, vR 0 0] [] σ (fun v11 s11 => Ev d 44 0 [vI v11, vI (-99), vI 99] [] s11 (fun v12 s12 => Q v12 s12))))) := EvN_eq [] 27 _ _ _ _ _ _ _
set_option maxRecDepth 100000 in
theorem b_S_worthOf_0 {d : Nat} {σ : xM} {Q : Int → xM → Prop} {x1 : Int} {x2 : Int} : Ev (d + 1) 55 0 [vR 5 0, vI x1, vI x2, vR 0 0] [] σ Q = (((0 : Int) ≤ x1 ∧ x1 < 7) ∧ (Ev d 74 0 [vR 9 x1.toNat, vI x2, vR 0 0] [] σ (fun v1 s1 => if (s1 9 x1.toNat 4) = x2 then Ev d 54 0 [vR 5 0, vI 0, vI v1, vI 1, vI (s1 9 x1.toNat 0), vR 0 0] [] s1 (fun v2 s2 => Q v2 s2) else Ev d 54 0 [vR 5 0, vI 0, vI v1, vI 0, vI (s1 9 x1.toNat 0), vR 0 0] [] s1 (fun v3 s3 => Q v3 s3)))) := EvN_eq [] 21 _ _ _ _ _ _ _
set_option maxRecDepth 100000 in
theorem b_S_worthIfDear_0 {d : Nat} {σ : xM} {Q : Int → xM → Prop} {x1 : Int} {x2 : Int} {x3 : Int} : Ev (d + 1) 56 0 [vR 5 0, vI x1, vI x2, vI x3, vR 0 0] [] σ Q = (((0 : Int) ≤ x1 ∧ x1 < 7) ∧ (if (σ 9 x1.toNat 4) = x2 then Ev d 54 0 [vR 5 0, vI 0, vI x3, vI 1, vI (σ 9 x1.toNat 0), vR 0 0] [] σ (fun v1 s1 => Q v1 s1) else Ev d 54 0 [vR 5 0, vI 0, vI x3, vI 0, vI (σ 9 x1.toNat 0), vR 0 0] [] σ (fun v2 s2 => Q v2 s2))) := EvN_eq [] 19 _ _ _ _ _ _ _
set_option maxRecDepth 100000 in
theorem b_S_joyOf_0 {d : Nat} {σ : xM} {Q : Int → xM → Prop} {x1 : Int} : Ev (d + 1) 57 0 [vR 5 0, vI x1, vR 0 0, vR 0 0] [] σ Q = (((0 : Int) ≤ x1 ∧ x1 < 7) ∧ (if (σ 9 x1.toNat 5) = ((-1) : Int) then (7 : Int) ≠ 0 ∧ (Ev d 54 0 [vR 5 0, vI 1, vI 0, vI (σ 9 x1.toNat 2), vI (Int.tmod (σ 5 0 2) 7), vR 0 0] [] σ (fun v1 s1 => Q v1 s1)) else Ev d 55 0 [vR 5 0, vI x1, vI (σ 9 x1.toNat 5), vR 0 0] [] σ (fun v2 s2 => (7 : Int) ≠ 0 ∧ (Ev d 54 0 [vR 5 0, vI 1, vI v2, vI (s2 9 x1.toNat 2), vI (Int.tmod (s2 5 0 2) 7), vR 0 0] [] s2 (fun v3 s3 => Q v3 s3))))) := EvN_eq [] 27 _ _ _ _ _ _ _
set_option maxRecDepth 100000 in
theorem b_S_theyPlay_0 {d : Nat} {σ : xM} {Q : Int → xM → Prop} : Ev d 58 0 [vR 5 0, vR 0 0, vR 0 0] [] σ Q = (Ev d 58 4 [vR 5 0, vI 0, vI 0] [] σ Q) := EvN_eq [4, 28] 6 _ _ _ _ _ _ _
set_option maxRecDepth 100000 in
theorem b_S_theyPlay_4 {d : Nat} {σ : xM} {Q : Int → xM → Prop} {x1 : Int} {x2 : Int} : Ev (d + 1) 58 4 [vR 5 0, vI x1, vI x2] [] σ Q = (if x2 < (σ 5 0 1) then Ev d 57 0 [vR 5 0, vI x2, vR 0 0, vR 0 0] [] σ (fun v1 s1 => Ev (d + 1) 58 4 [vR 5 0, vI (xwr (x1 + v1)), vI (xwr (x2 + 1))] [] s1 Q) else Ev (d + 1) 58 28 [vR 5 0, vI x1, vI 0] [] σ Q) := EvN_eq [4, 28] 14 _ _ _ _ _ _ _
set_option maxRecDepth 100000 in
theorem b_S_theyPlay_28 {d : Nat} {σ : xM} {Q : Int → xM → Prop} {x1 : Int} {x2 : Int} : Ev (d + 1) 58 28 [vR 5 0, vI x1, vI x2] [] σ Q = (if x2 < (σ 5 0 1) then ((0 : Int) ≤ x2 ∧ x2 < 7) ∧ (if (σ 9 x2.toNat 5) = ((-1) : Int) then ((0 : Int) ≤ x2 ∧ x2 < 7) ∧ (Ev (d + 1) 58 28 [vR 5 0, vI x1, vI (xwr (x2 + 1))] [] (xup σ 9 x2.toNat 5 (-1)) Q) else ((0 : Int) ≤ x2 ∧ x2 < 7) ∧ (((0 : Int) ≤ x2 ∧ x2 < 7) ∧ (((0 : Int) ≤ x2 ∧ x2 < 7) ∧ (Ev (d + 1) 58 28 [vR 5 0, vI x1, vI (xwr (x2 + 1))] [] (xup (xup σ 9 x2.toNat 4 (σ 9 x2.toNat 5)) 9 x2.toNat 5 (-1)) Q)))) else Ev d 44 0 [vI (xwr ((σ 5 0 3) + x1)), vI (-99999), vI 99999] [] σ (fun v1 s1 => Q x1 (xup (xup s1 5 0 3 v1) 5 0 2 (xwr (((xup s1 5 0 3 v1) 5 0 2) + 1))))) := EvN_eq [4, 28] 31 _ _ _ _ _ _ _
set_option maxRecDepth 100000 in
theorem b_S_drawLots_0 {d : Nat} {σ : xM} {Q : Int → xM → Prop} {x1 : Int} : Ev d 59 0 [vR 5 0, vI x1, vR 38 0, vR 0 0, vR 0 0, vR 0 0, vR 0 0, vR 0 0] [] σ Q = (Ev d 59 8 [vR 5 0, vI x1, vR 38 0, vI x1, vI 0, vI 0, vR 0 0, vR 0 0] [] σ Q) := EvN_eq [8] 8 _ _ _ _ _ _ _
set_option maxRecDepth 100000 in
theorem b_S_drawLots_8 {d : Nat} {σ : xM} {Q : Int → xM → Prop} {x1 : Int} {x3 : Int} {x4 : Int} {x5 : Int} {wx6 : xV} {wx7 : xV} : Ev (d + 1) 59 8 [vR 5 0, vI x1, vR 38 0, vI x3, vI x4, vI x5, wx6, wx7] [] σ Q = (if x5 < (σ 5 0 1) then if x5 < (7 : Int) then Ev d 53 0 [vR 5 0, vI x5, vR 0 0, vR 0 0] [] σ (fun v1 s1 => Ev d 220 0 [vI (xand v1 (xxor x4 (-1)))] [] s1 (fun v2 s2 => ((0 : Int) ≤ x5 ∧ x5 < 7) ∧ (if (0 : Int) < v2 then v2 ≠ 0 ∧ (Ev d 60 0 [vI (xand v1 (xxor x4 (-1))), vI (Int.tmod (xush (xwr ((xwr (x3 * 1103515245)) + 12345)) 8) v2), vR 0 0, vR 0 0] [] (xup s2 38 0 x5.toNat (-1)) (fun v3 s3 => ((0 : Int) ≤ x5 ∧ x5 < 7) ∧ (((0 : Int) ≤ x5 ∧ x5 < 7) ∧ (Ev (d + 1) 59 8 [vR 5 0, vI x1, vR 38 0, vI (xwr ((xwr (x3 * 1103515245)) + 12345)), vI (xior x4 (xshl 1 ((xup s3 38 0 x5.toNat v3) 38 0 x5.toNat))), vI (xwr (x5 + 1)), vI (xand v1 (xxor x4 (-1))), vI v2] [] (xup s3 38 0 x5.toNat v3) Q)))) else Ev (d + 1) 59 8 [vR 5 0, vI x1, vR 38 0, vI x3, vI x4, vI (xwr (x5 + 1)), vI (xand v1 (xxor x4 (-1))), vI v2] [] (xup s2 38 0 x5.toNat (-1)) Q))) else Q x3 σ else Q x3 σ) := EvN_eq [8] 53 _ _ _ _ _ _ _
set_option maxRecDepth 100000 in
theorem b_S_partAt_0 {d : Nat} {σ : xM} {Q : Int → xM → Prop} {x0 : Int} {x1 : Int} : Ev d 60 0 [vI x0, vI x1, vR 0 0, vR 0 0] [] σ Q = (Ev d 60 4 [vI x0, vI x1, vI x1, vI 0] [] σ Q) := EvN_eq [4] 6 _ _ _ _ _ _ _
set_option maxRecDepth 100000 in
theorem b_S_partAt_4 {d : Nat} {σ : xM} {Q : Int → xM → Prop} {x0 : Int} {x1 : Int} {x2 : Int} {x3 : Int} : Ev d 60 4 [vI x0, vI x1, vI x2, vI x3] [] σ Q = (if x3 < (7 : Int) then if (xand (xshr x0 x3) 1) = (0 : Int) then Ev d 60 4 [vI x0, vI x1, vI x2, vI (xwr (x3 + 1))] [] σ Q else if x2 = (0 : Int) then Q x3 σ else Ev d 60 4 [vI x0, vI x1, vI (xwr (x2 + (-1))), vI (xwr (x3 + 1))] [] σ Q else Q (-1) σ) := EvN_eq [4] 16 _ _ _ _ _ _ _
set_option maxRecDepth 100000 in
theorem b_S_castByLots_0 {d : Nat} {σ : xM} {Q : Int → xM → Prop} : Ev (d + 1) 61 0 [vR 5 0, vR 38 0, vR 0 0, vR 0 0] [] σ Q = (Ev d 59 0 [vR 5 0, vI (σ 5 0 4), vR 38 0, vR 0 0, vR 0 0, vR 0 0, vR 0 0, vR 0 0] [] σ (fun v1 s1 => Ev (d + 1) 61 17 [vR 5 0, vR 38 0, vI 0, vI 0] [] (xup s1 5 0 4 v1) Q)) := EvN_eq [17] 13 _ _ _ _ _ _ _
set_option maxRecDepth 100000 in
theorem b_S_castByLots_17 {d : Nat} {σ : xM} {Q : Int → xM → Prop} {x2 : Int} {x3 : Int} : Ev d 61 17 [vR 5 0, vR 38 0, vI x2, vI x3] [] σ Q = (if x3 < (σ 5 0 1) then if x3 < (7 : Int) then ((0 : Int) ≤ x3 ∧ x3 < 7) ∧ (((0 : Int) ≤ x3 ∧ x3 < 7) ∧ (((0 : Int) ≤ x3 ∧ x3 < 7) ∧ (if ((xup σ 9 x3.toNat 5 (σ 38 0 x3.toNat)) 38 0 x3.toNat) = ((-1) : Int) then Ev d 61 17 [vR 5 0, vR 38 0, vI x2, vI (xwr (x3 + 1))] [] (xup σ 9 x3.toNat 5 (σ 38 0 x3.toNat)) Q else Ev d 61 17 [vR 5 0, vR 38 0, vI (xior x2 (xshl 1 x3)), vI (xwr (x3 + 1))] [] (xup σ 9 x3.toNat 5 (σ 38 0 x3.toNat)) Q))) else Q x2 σ else Q x2 σ) := EvN_eq [17] 31 _ _ _ _ _ _ _
set_option maxRecDepth 100000 in
theorem b_S_castByRow_0 {d : Nat} {σ : xM} {Q : Int → xM → Prop} {i1 : Nat} {x2 : Int} : Ev d 62 0 [vR 5 0, vR 37 i1, vI x2, vR 0 0] [] σ Q = (Ev d 62 2 [vR 5 0, vR 37 i1, vI x2, vI 0] [] σ Q) := EvN_eq [2, 28] 4 _ _ _ _ _ _ _
set_option maxRecDepth 100000 in
theorem b_S_castByRow_2 {d : Nat} {σ : xM} {Q : Int → xM → Prop} {i1 : Nat} {x2 : Int} {x3 : Int} : Ev d 62 2 [vR 5 0, vR 37 i1, vI x2, vI x3] [] σ Q = (if x3 < (σ 5 0 1) then ((0 : Int) ≤ x3 ∧ x3 < 7) ∧ (Ev d 62 2 [vR 5 0, vR 37 i1, vI x2, vI (xwr (x3 + 1))] [] (xup σ 9 x3.toNat 5 (-1)) Q) else Ev d 62 28 [vR 5 0, vR 37 i1, vI x2, vI 0] [] σ Q) := EvN_eq [2, 28] 14 _ _ _ _ _ _ _
set_option maxRecDepth 100000 in
theorem b_S_castByRow_28 {d : Nat} {σ : xM} {Q : Int → xM → Prop} {i1 : Nat} {x2 : Int} {x3 : Int} : Ev (d + 1) 62 28 [vR 5 0, vR 37 i1, vI x2, vI x3] [] σ Q = (if x3 < x2 then if x3 < (24 : Int) then if x3 < (σ 5 0 1) then ((0 : Int) ≤ x3 ∧ x3 < 24) ∧ (Ev d 48 0 [vR 5 0, vI (σ 37 i1 x3.toNat)] [] σ (fun v1 s1 => if v1 = (0 : Int) then Q x3 s1 else ((0 : Int) ≤ x3 ∧ x3 < 24) ∧ (if (s1 37 i1 x3.toNat) = ((-1) : Int) then ((0 : Int) ≤ x3 ∧ x3 < 7) ∧ (((0 : Int) ≤ x3 ∧ x3 < 24) ∧ (Ev (d + 1) 62 28 [vR 5 0, vR 37 i1, vI x2, vI (xwr (x3 + 1))] [] (xup s1 9 x3.toNat 5 (s1 37 i1 x3.toNat)) Q)) else ((0 : Int) ≤ x3 ∧ x3 < 24) ∧ (Ev d 50 0 [vR 5 0, vI x3, vI (s1 37 i1 x3.toNat)] [] s1 (fun v2 s2 => if v2 = (0 : Int) then Q x3 s2 else ((0 : Int) ≤ x3 ∧ x3 < 24) ∧ (Ev d 51 0 [vR 5 0, vI (s2 37 i1 x3.toNat), vR 0 0] [] s2 (fun v3 s3 => if v3 = ((-1) : Int) then ((0 : Int) ≤ x3 ∧ x3 < 7) ∧ (((0 : Int) ≤ x3 ∧ x3 < 24) ∧ (Ev (d + 1) 62 28 [vR 5 0, vR 37 i1, vI x2, vI (xwr (x3 + 1))] [] (xup s3 9 x3.toNat 5 (s3 37 i1 x3.toNat)) Q)) else Q x3 s3))))))) else Q x3 σ else Q x2 σ else Q x2 σ) := EvN_eq [2, 28] 48 _ _ _ _ _ _ _
set_option maxRecDepth 100000 in
theorem b_S_rightInRow_0 {d : Nat} {σ : xM} {Q : Int → xM → Prop} {i1 : Nat} {x2 : Int} : Ev d 63 0 [vR 5 0, vR 37 i1, vI x2, vR 0 0] [] σ Q = (Ev d 63 2 [vR 5 0, vR 37 i1, vI x2, vI 0] [] σ Q) := EvN_eq [2] 4 _ _ _ _ _ _ _
set_option maxRecDepth 100000 in
theorem b_S_rightInRow_2 {d : Nat} {σ : xM} {Q : Int → xM → Prop} {i1 : Nat} {x2 : Int} {x3 : Int} : Ev d 63 2 [vR 5 0, vR 37 i1, vI x2, vI x3] [] σ Q = (if x3 < x2 then if x3 < (24 : Int) then if x3 < (σ 5 0 1) then ((0 : Int) ≤ x3 ∧ x3 < 7) ∧ (((0 : Int) ≤ x3 ∧ x3 < 24) ∧ (if (σ 9 x3.toNat 5) = (σ 37 i1 x3.toNat) then Ev d 63 2 [vR 5 0, vR 37 i1, vI x2, vI (xwr (x3 + 1))] [] σ Q else Q x3 σ)) else Q x3 σ else Q x2 σ else Q x2 σ) := EvN_eq [2] 24 _ _ _ _ _ _ _
set_option maxRecDepth 100000 in
theorem b_R_turnInto_0 {d : Nat} {σ : xM} {Q : Int → xM → Prop} {i0 : Nat} {x1 : Int} : Ev d 65 0 [vR 7 i0, vI x1] [] σ Q = ((10 : Int) ≠ 0 ∧ ((10 : Int) ≠ 0 ∧ (Q 0 (xup (xup σ 7 i0 0 (xwr (Int.tdiv x1 10))) 7 i0 1 (Int.tmod x1 10))))) := EvN_eq [] 12 _ _ _ _ _ _ _
set_option maxRecDepth 100000 in
theorem b_R_copyFrom_0 {d : Nat} {σ : xM} {Q : Int → xM → Prop} {i0 : Nat} {i1 : Nat} : Ev d 66 0 [vR 7 i0, vR 7 i1] [] σ Q = (Q 0 (xup (xup σ 7 i0 0 (σ 7 i1 0)) 7 i0 1 ((xup σ 7 i0 0 (σ 7 i1 0)) 7 i1 1))) := EvN_eq [] 10 _ _ _ _ _ _ _
set_option maxRecDepth 100000 in
theorem b_R_isOf_0 {d : Nat} {σ : xM} {Q : Int → xM → Prop} {i0 : Nat} {x1 : Int} : Ev d 67 0 [vR 7 i0, vI x1, vR 0 0, vR 0 0] [] σ Q = (Ev d 67 7 [vR 7 i0, vI x1, vI (σ 7 i0 0), vI 0] [] σ Q) := EvN_eq [7] 7 _ _ _ _ _ _ _
set_option maxRecDepth 100000 in
theorem b_R_isOf_7 {d : Nat} {σ : xM} {Q : Int → xM → Prop} {i0 : Nat} {x1 : Int} {x2 : Int} {x3 : Int} : Ev d 67 7 [vR 7 i0, vI x1, vI x2, vI x3] [] σ Q = (if x3 < (7 : Int) then if x2 < (0 : Int) then ((0 : Int) = 0 ∨ (0 : Int) = 1) ∧ Q 0 σ else if x2 < (7 : Int) then if x2 = x1 then ((1 : Int) = 0 ∨ (1 : Int) = 1) ∧ Q 1 σ else ((0 : Int) ≤ x2 ∧ x2 < 7) ∧ (Ev d 67 7 [vR 7 i0, vI x1, vI (xabv x2.toNat), vI (xwr (x3 + 1))] [] σ Q) else ((0 : Int) = 0 ∨ (0 : Int) = 1) ∧ Q 0 σ else ((0 : Int) = 0 ∨ (0 : Int) = 1) ∧ Q 0 σ) := EvN_eq [7] 19 _ _ _ _ _ _ _
set_option maxRecDepth 100000 in
theorem b_R_suits_0 {d : Nat} {σ : xM} {Q : Int → xM → Prop} {i0 : Nat} {i1 : Nat} : Ev d 68 0 [vR 7 i0, vR 9 i1] [] σ Q = (if (σ 9 i1 3) = (0 : Int) then if (σ 7 i0 0) = 1 then if (σ 9 i1 0) < (σ 7 i0 1) then ((0 : Int) = 0 ∨ (0 : Int) = 1) ∧ Q 0 σ else ((1 : Int) = 0 ∨ (1 : Int) = 1) ∧ Q 1 σ else if (σ 7 i0 0) = 2 then if (σ 7 i0 1) < (σ 9 i1 1) then ((0 : Int) = 0 ∨ (0 : Int) = 1) ∧ Q 0 σ else ((1 : Int) = 0 ∨ (1 : Int) = 1) ∧ Q 1 σ else if (σ 7 i0 0) = 3 then ((1 : Int) = 0 ∨ (1 : Int) = 1) ∧ Q 1 σ else if (σ 7 i0 0) = 4 then if (σ 9 i1 0) < (σ 7 i0 1) then ((0 : Int) = 0 ∨ (0 : Int) = 1) ∧ Q 0 σ else if (σ 9 i1 2) = (0 : Int) then ((1 : Int) = 0 ∨ (1 : Int) = 1) ∧ Q 1 σ else ((0 : Int) = 0 ∨ (0 : Int) = 1) ∧ Q 0 σ else if (σ 7 i0 0) = 5 then if (σ 7 i0 1) < (σ 9 i1 1) then ((0 : Int) = 0 ∨ (0 : Int) = 1) ∧ Q 0 σ else (2 : Int) ≠ 0 ∧ (if (xwr (Int.tdiv (σ 7 i0 1) 2)) < (σ 9 i1 1) then ((1 : Int) = 0 ∨ (1 : Int) = 1) ∧ Q 1 σ else ((0 : Int) = 0 ∨ (0 : Int) = 1) ∧ Q 0 σ) else if (σ 7 i0 0) = 6 then if (σ 9 i1 2) = (1 : Int) then ((1 : Int) = 0 ∨ (1 : Int) = 1) ∧ Q 1 σ else if (4 : Int) < (σ 7 i0 1) then ((1 : Int) = 0 ∨ (1 : Int) = 1) ∧ Q 1 σ else ((0 : Int) = 0 ∨ (0 : Int) = 1) ∧ Q 0 σ else ((1 : Int) = 0 ∨ (1 : Int) = 1) ∧ Q 1 σ else ((0 : Int) = 0 ∨ (0 : Int) = 1) ∧ Q 0 σ) := EvN_eq [] 22 _ _ _ _ _ _ _
set_option maxRecDepth 100000 in
theorem b_R_lines_0 {d : Nat} {σ : xM} {Q : Int → xM → Prop} {i0 : Nat} {x1 : Int} : Ev d 69 0 [vR 7 i0, vI x1] [] σ Q = (if (σ 7 i0 0) = 0 then Q (σ 7 i0 1) σ else if (σ 7 i0 0) = 1 then Q (xwr ((xwr (2 * (σ 7 i0 1))) + 1)) σ else if (σ 7 i0 0) = 2 then (2 : Int) ≠ 0 ∧ (Q (xwr (Int.tdiv (σ 7 i0 1) 2)) σ) else if (σ 7 i0 0) = 3 then Q 0 σ else if (σ 7 i0 0) = 4 then (3 : Int) ≠ 0 ∧ (Q (xwr ((xwr ((xwr (2 * (σ 7 i0 1))) + 1)) + (Int.tmod x1 3))) σ) else if (σ 7 i0 0) = 5 then (2 : Int) ≠ 0 ∧ (Q (xwr ((xwr (Int.tdiv (σ 7 i0 1) 2)) + 1)) σ) else Q 0 σ) := EvN_eq [] 15 _ _ _ _ _ _ _
set_option maxRecDepth 100000 in
theorem b_C_startAs_0 {d : Nat} {σ : xM} {Q : Int → xM → Prop} {i0 : Nat} {x1 : Int} {x2 : Int} {x3 : Int} : Ev d 71 0 [vR 9 i0, vI x1, vI x2, vI x3, vR 0 0] [] σ Q = (Ev d 71 33 [vR 9 i0, vI x1, vI x2, vI x3, vI 0] [] (xup (xup (xup (xup (xup (xup σ 9 i0 0 x1) 9 i0 1 x2) 9 i0 2 x3) 9 i0 3 0) 9 i0 4 (-1)) 9 i0 5 (-1)) Q) := EvN_eq [33] 22 _ _ _ _ _ _ _
set_option maxRecDepth 100000 in
theorem b_C_startAs_33 {d : Nat} {σ : xM} {Q : Int → xM → Prop} {i0 : Nat} {x1 : Int} {x2 : Int} {x3 : Int} {x4 : Int} : Ev d 71 33 [vR 9 i0, vI x1, vI x2, vI x3, vI x4] [] σ Q = (if x4 < (3 : Int) then ((0 : Int) ≤ x4 ∧ x4 < 3) ∧ (Ev d 71 33 [vR 9 i0, vI x1, vI x2, vI x3, vI (xwr (x4 + 1))] [] (xup σ 10 i0 x4.toNat (-1)) Q) else Q 0 σ) := EvN_eq [33] 12 _ _ _ _ _ _ _
set_option maxRecDepth 100000 in
theorem b_C_copyFrom_0 {d : Nat} {σ : xM} {Q : Int → xM → Prop} {i0 : Nat} {i1 : Nat} : Ev d 72 0 [vR 9 i0, vR 9 i1] [] σ Q = (((0 : Int) ≤ 0 ∧ (0 : Int) ≤ 0 ∧ (0 : Int) ≤ 3 ∧ (0 + 3 : Int) ≤ 3 ∧ (0 + 3 : Int) ≤ 3) ∧ (Q 0 (xcpy (xup (xup (xup (xup (xup (xup σ 9 i0 0 (σ 9 i1 0)) 9 i0 1 ((xup σ 9 i0 0 (σ 9 i1 0)) 9 i1 1)) 9 i0 2 ((xup (xup σ 9 i0 0 (σ 9 i1 0)) 9 i0 1 ((xup σ 9 i0 0 (σ 9 i1 0)) 9 i1 1)) 9 i1 2)) 9 i0 3 ((xup (xup (xup σ 9 i0 0 (σ 9 i1 0)) 9 i0 1 ((xup σ 9 i0 0 (σ 9 i1 0)) 9 i1 1)) 9 i0 2 ((xup (xup σ 9 i0 0 (σ 9 i1 0)) 9 i0 1 ((xup σ 9 i0 0 (σ 9 i1 0)) 9 i1 1)) 9 i1 2)) 9 i1 3)) 9 i0 4 ((xup (xup (xup (xup σ 9 i0 0 (σ 9 i1 0)) 9 i0 1 ((xup σ 9 i0 0 (σ 9 i1 0)) 9 i1 1)) 9 i0 2 ((xup (xup σ 9 i0 0 (σ 9 i1 0)) 9 i0 1 ((xup σ 9 i0 0 (σ 9 i1 0)) 9 i1 1)) 9 i1 2)) 9 i0 3 ((xup (xup (xup σ 9 i0 0 (σ 9 i1 0)) 9 i0 1 ((xup σ 9 i0 0 (σ 9 i1 0)) 9 i1 1)) 9 i0 2 ((xup (xup σ 9 i0 0 (σ 9 i1 0)) 9 i0 1 ((xup σ 9 i0 0 (σ 9 i1 0)) 9 i1 1)) 9 i1 2)) 9 i1 3)) 9 i1 4)) 9 i0 5 ((xup (xup (xup (xup (xup σ 9 i0 0 (σ 9 i1 0)) 9 i0 1 ((xup σ 9 i0 0 (σ 9 i1 0)) 9 i1 1)) 9 i0 2 ((xup (xup σ 9 i0 0 (σ 9 i1 0)) 9 i0 1 ((xup σ 9 i0 0 (σ 9 i1 0)) 9 i1 1)) 9 i1 2)) 9 i0 3 ((xup (xup (xup σ 9 i0 0 (σ 9 i1 0)) 9 i0 1 ((xup σ 9 i0 0 (σ 9 i1 0)) 9 i1 1)) 9 i0 2 ((xup (xup σ 9 i0 0 (σ 9 i1 0)) 9 i0 1 ((xup σ 9 i0 0 (σ 9 i1 0)) 9 i1 1)) 9 i1 2)) 9 i1 3)) 9 i0 4 ((xup (xup (xup (xup σ 9 i0 0 (σ 9 i1 0)) 9 i0 1 ((xup σ 9 i0 0 (σ 9 i1 0)) 9 i1 1)) 9 i0 2 ((xup (xup σ 9 i0 0 (σ 9 i1 0)) 9 i0 1 ((xup σ 9 i0 0 (σ 9 i1 0)) 9 i1 1)) 9 i1 2)) 9 i0 3 ((xup (xup (xup σ 9 i0 0 (σ 9 i1 0)) 9 i0 1 ((xup σ 9 i0 0 (σ 9 i1 0)) 9 i1 1)) 9 i0 2 ((xup (xup σ 9 i0 0 (σ 9 i1 0)) 9 i0 1 ((xup σ 9 i0 0 (σ 9 i1 0)) 9 i1 1)) 9 i1 2)) 9 i1 3)) 9 i1 4)) 9 i1 5)) 10 i1 (Int.toNat 0) 10 i0 (Int.toNat 0) (Int.toNat 3)))) := EvN_eq [] 34 _ _ _ _ _ _ _
set_option maxRecDepth 100000 in
theorem b_C_valueOf_0 {d : Nat} {σ : xM} {Q : Int → xM → Prop} {i0 : Nat} {x1 : Int} : Ev d 73 0 [vR 9 i0, vI x1, vR 0 0] [] σ Q = (if x1 = 0 then Q (σ 9 i0 0) σ else if x1 = 1 then Q (σ 9 i0 1) σ else if x1 = 2 then Q (σ 9 i0 2) σ else if x1 = 3 then Q (σ 9 i0 3) σ else if x1 = 4 then Q (σ 9 i0 4) σ else if x1 = 5 then Q (σ 9 i0 5) σ else if (xwr (x1 - 6)) < (0 : Int) then Q (-1) σ else if (xwr (x1 - 6)) < (3 : Int) then ((0 : Int) ≤ (xwr (x1 - 6)) ∧ (xwr (x1 - 6)) < 3) ∧ (Q (σ 10 i0 ((xwr (x1 - 6)).toNat)) σ) else Q (-1) σ) := EvN_eq [] 18 _ _ _ _ _ _ _
set_option maxRecDepth 100000 in
theorem b_C_dear_0 {d : Nat} {σ : xM} {Q : Int → xM → Prop} {i0 : Nat} {x1 : Int} : Ev d 74 0 [vR 9 i0, vI x1, vR 0 0] [] σ Q = (Ev d 74 2 [vR 9 i0, vI x1, vI 0] [] σ Q) := EvN_eq [2] 4 _ _ _ _ _ _ _
set_option maxRecDepth 100000 in
theorem b_C_dear_2 {d : Nat} {σ : xM} {Q : Int → xM → Prop} {i0 : Nat} {x1 : Int} {x2 : Int} : Ev d 74 2 [vR 9 i0, vI x1, vI x2] [] σ Q = (if x2 < (3 : Int) then ((0 : Int) ≤ x2 ∧ x2 < 3) ∧ (if (σ 10 i0 x2.toNat) = x1 then Q (xwr (3 - x2)) σ else Ev d 74 2 [vR 9 i0, vI x1, vI (xwr (x2 + 1))] [] σ Q) else Q 0 σ) := EvN_eq [2] 14 _ _ _ _ _ _ _
set_option maxRecDepth 100000 in
theorem b_C_wishSet_0 {d : Nat} {σ : xM} {Q : Int → xM → Prop} {i0 : Nat} : Ev d 75 0 [vR 9 i0, vR 0 0, vR 0 0] [] σ Q = (Ev d 75 4 [vR 9 i0, vI 0, vI 0] [] σ Q) := EvN_eq [4] 6 _ _ _ _ _ _ _
set_option maxRecDepth 100000 in
theorem b_C_wishSet_4 {d : Nat} {σ : xM} {Q : Int → xM → Prop} {i0 : Nat} {x1 : Int} {x2 : Int} : Ev d 75 4 [vR 9 i0, vI x1, vI x2] [] σ Q = (if x2 < (3 : Int) then ((0 : Int) ≤ x2 ∧ x2 < 3) ∧ (if (σ 10 i0 x2.toNat) = ((-1) : Int) then Ev d 75 4 [vR 9 i0, vI x1, vI (xwr (x2 + 1))] [] σ Q else ((0 : Int) ≤ x2 ∧ x2 < 3) ∧ (Ev d 75 4 [vR 9 i0, vI (xior x1 (xshl 1 (σ 10 i0 x2.toNat))), vI (xwr (x2 + 1))] [] σ Q)) else Q x1 σ) := EvN_eq [4] 22 _ _ _ _ _ _ _
set_option maxRecDepth 100000 in
theorem b_T_add_0 {d : Nat} {σ : xM} {Q : Int → xM → Prop} {i0 : Nat} {x1 : Int} : Ev d 77 0 [vR 13 i0, vI x1] [] σ Q = (if (σ 13 i0 0) < (60 : Int) then ((0 : Int) ≤ (σ 13 i0 0) ∧ (σ 13 i0 0) < 60) ∧ (Q 0 (xup (xup σ 14 i0 ((σ 13 i0 0).toNat) x1) 13 i0 0 (xwr (((xup σ 14 i0 ((σ 13 i0 0).toNat) x1) 13 i0 0) + 1)))) else Q 0 σ) := EvN_eq [] 18 _ _ _ _ _ _ _
set_option maxRecDepth 100000 in
theorem b_T_copyFrom_0 {d : Nat} {σ : xM} {Q : Int → xM → Prop} {i0 : Nat} {i1 : Nat} : Ev d 78 0 [vR 13 i0, vR 13 i1] [] σ Q = (((0 : Int) ≤ 0 ∧ (0 : Int) ≤ 0 ∧ (0 : Int) ≤ 60 ∧ (0 + 60 : Int) ≤ 60 ∧ (0 + 60 : Int) ≤ 60) ∧ (Q 0 (xup (xcpy σ 14 i1 (Int.toNat 0) 14 i0 (Int.toNat 0) (Int.toNat 60)) 13 i0 0 ((xcpy σ 14 i1 (Int.toNat 0) 14 i0 (Int.toNat 0) (Int.toNat 60)) 13 i1 0)))) := EvN_eq [] 14 _ _ _ _ _ _ _
set_option maxRecDepth 100000 in
theorem b_T_workOut_0 {d : Nat} {σ : xM} {Q : Int → xM → Prop} {i0 : Nat} {x1 : Int} {x2 : Int} {x3 : Int} : Ev d 79 0 [vR 13 i0, vI x1, vI x2, vI x3, vR 0 0, vR 0 0, vR 0 0] [] σ Q = (Ev d 79 6 [vR 13 i0, vI x1, vI x2, vI x3, vI (-1), vI 0, vR 0 0] [] σ Q) := EvN_eq [6] 6 _ _ _ _ _ _ _
set_option maxRecDepth 100000 in
theorem b_T_workOut_6 {d : Nat} {σ : xM} {Q : Int → xM → Prop} {i0 : Nat} {x1 : Int} {x2 : Int} {x3 : Int} {x4 : Int} {x5 : Int} {wx6 : xV} : Ev (d + 1) 79 6 [vR 13 i0, vI x1, vI x2, vI x3, vI x4, vI x5, wx6] [] σ Q = (if x5 < (σ 13 i0 0) then ((0 : Int) ≤ x5 ∧ x5 < 60) ∧ (if (σ 14 i0 x5.toNat) < ((-3) : Int) then if (σ 14 i0 x5.toNat) = ((-33) : Int) then if x4 < (0 : Int) then if x4 < (1 : Int) then Ev (d + 1) 79 6 [vR 13 i0, vI x1, vI x2, vI x3, vI x4, vI (xwr (x5 + 1)), vI (σ 14 i0 x5.toNat)] [] σ Q else ((0 : Int) ≤ (xwr (x4 + (-1))) ∧ (xwr (x4 + (-1))) < 60) ∧ (((0 : Int) ≤ (xwr ((xwr (x4 + (-1))) + 1)) ∧ (xwr ((xwr (x4 + (-1))) + 1)) < 60) ∧ (Ev d 81 0 [vI (xwr (-(σ 14 i0 x5.toNat))), vI (σ 15 i0 ((xwr (x4 + (-1))).toNat)), vI (σ 15 i0 ((xwr ((xwr (x4 + (-1))) + 1)).toNat))] [] σ (fun v1 s1 => ((0 : Int) ≤ (xwr (x4 + (-1))) ∧ (xwr (x4 + (-1))) < 60) ∧ (Ev (d + 1) 79 6 [vR 13 i0, vI x1, vI x2, vI x3, vI (xwr (x4 + (-1))), vI (xwr (x5 + 1)), vI (σ 14 i0 x5.toNat)] [] (xup s1 15 i0 ((xwr (x4 + (-1))).toNat) v1) Q)))) else ((0 : Int) ≤ x4 ∧ x4 < 60) ∧ (if (σ 15 i0 x4.toNat) = (0 : Int) then ((0 : Int) ≤ x4 ∧ x4 < 60) ∧ (Ev (d + 1) 79 6 [vR 13 i0, vI x1, vI x2, vI x3, vI x4, vI (xwr (x5 + 1)), vI (σ 14 i0 x5.toNat)] [] (xup σ 15 i0 x4.toNat 1) Q) else ((0 : Int) ≤ x4 ∧ x4 < 60) ∧ (Ev (d + 1) 79 6 [vR 13 i0, vI x1, vI x2, vI x3, vI x4, vI (xwr (x5 + 1)), vI (σ 14 i0 x5.toNat)] [] (xup σ 15 i0 x4.toNat 0) Q)) else if x4 < (1 : Int) then Ev (d + 1) 79 6 [vR 13 i0, vI x1, vI x2, vI x3, vI x4, vI (xwr (x5 + 1)), vI (σ 14 i0 x5.toNat)] [] σ Q else ((0 : Int) ≤ (xwr (x4 + (-1))) ∧ (xwr (x4 + (-1))) < 60) ∧ (((0 : Int) ≤ (xwr ((xwr (x4 + (-1))) + 1)) ∧ (xwr ((xwr (x4 + (-1))) + 1)) < 60) ∧ (Ev d 81 0 [vI (xwr (-(σ 14 i0 x5.toNat))), vI (σ 15 i0 ((xwr (x4 + (-1))).toNat)), vI (σ 15 i0 ((xwr ((xwr (x4 + (-1))) + 1)).toNat))] [] σ (fun v2 s2 => ((0 : Int) ≤ (xwr (x4 + (-1))) ∧ (xwr (x4 + (-1))) < 60) ∧ (Ev (d + 1) 79 6 [vR 13 i0, vI x1, vI x2, vI x3, vI (xwr (x4 + (-1))), vI (xwr (x5 + 1)), vI (σ 14 i0 x5.toNat)] [] (xup s2 15 i0 ((xwr (x4 + (-1))).toNat) v2) Q)))) else if (xwr (x4 + 1)) < (60 : Int) then if (σ 14 i0 x5.toNat) < (0 : Int) then Ev d 80 0 [vI (σ 14 i0 x5.toNat), vI x1, vI x2, vI x3] [] σ (fun v3 s3 => ((0 : Int) ≤ (xwr (x4 + 1)) ∧ (xwr (x4 + 1)) < 60) ∧ (Ev (d + 1) 79 6 [vR 13 i0, vI x1, vI x2, vI x3, vI (xwr (x4 + 1)), vI (xwr (x5 + 1)), vI (σ 14 i0 x5.toNat)] [] (xup s3 15 i0 ((xwr (x4 + 1)).toNat) v3) Q)) else ((0 : Int) ≤ (xwr (x4 + 1)) ∧ (xwr (x4 + 1)) < 60) ∧ (Ev (d + 1) 79 6 [vR 13 i0, vI x1, vI x2, vI x3, vI (xwr (x4 + 1)), vI (xwr (x5 + 1)), vI (σ 14 i0 x5.toNat)] [] (xup σ 15 i0 ((xwr (x4 + 1)).toNat) (σ 14 i0 x5.toNat)) Q) else if (σ 14 i0 x5.toNat) = ((-33) : Int) then if x4 < (0 : Int) then if x4 < (1 : Int) then Ev (d + 1) 79 6 [vR 13 i0, vI x1, vI x2, vI x3, vI x4, vI (xwr (x5 + 1)), vI (σ 14 i0 x5.toNat)] [] σ Q else ((0 : Int) ≤ (xwr (x4 + (-1))) ∧ (xwr (x4 + (-1))) < 60) ∧ (((0 : Int) ≤ (xwr ((xwr (x4 + (-1))) + 1)) ∧ (xwr ((xwr (x4 + (-1))) + 1)) < 60) ∧ (Ev d 81 0 [vI (xwr (-(σ 14 i0 x5.toNat))), vI (σ 15 i0 ((xwr (x4 + (-1))).toNat)), vI (σ 15 i0 ((xwr ((xwr (x4 + (-1))) + 1)).toNat))] [] σ (fun v4 s4 => ((0 : Int) ≤ (xwr (x4 + (-1))) ∧ (xwr (x4 + (-1))) < 60) ∧ (Ev (d + 1) 79 6 [vR 13 i0, vI x1, vI x2, vI x3, vI (xwr (x4 + (-1))), vI (xwr (x5 + 1)), vI (σ 14 i0 x5.toNat)] [] (xup s4 15 i0 ((xwr (x4 + (-1))).toNat) v4) Q)))) else ((0 : Int) ≤ x4 ∧ x4 < 60) ∧ (if (σ 15 i0 x4.toNat) = (0 : Int) then ((0 : Int) ≤ x4 ∧ x4 < 60) ∧ (Ev (d + 1) 79 6 [vR 13 i0, vI x1, vI x2, vI x3, vI x4, vI (xwr (x5 + 1)), vI (σ 14 i0 x5.toNat)] [] (xup σ 15 i0 x4.toNat 1) Q) else ((0 : Int) ≤ x4 ∧ x4 < 60) ∧ (Ev (d + 1) 79 6 [vR 13 i0, vI x1, vI x2, vI x3, vI x4, vI (xwr (x5 + 1)), vI (σ 14 i0 x5.toNat)] [] (xup σ 15 i0 x4.toNat 0) Q)) else if x4 < (1 : Int) then Ev (d + 1) 79 6 [vR 13 i0, vI x1, vI x2, vI x3, vI x4, vI (xwr (x5 + 1)), vI (σ 14 i0 x5.toNat)] [] σ Q else ((0 : Int) ≤ (xwr (x4 + (-1))) ∧ (xwr (x4 + (-1))) < 60) ∧ (((0 : Int) ≤ (xwr ((xwr (x4 + (-1))) + 1)) ∧ (xwr ((xwr (x4 + (-1))) + 1)) < 60) ∧ (Ev d 81 0 [vI (xwr (-(σ 14 i0 x5.toNat))), vI (σ 15 i0 ((xwr (x4 + (-1))).toNat)), vI (σ 15 i0 ((xwr ((xwr (x4 + (-1))) + 1)).toNat))] [] σ (fun v5 s5 => ((0 : Int) ≤ (xwr (x4 + (-1))) ∧ (xwr (x4 + (-1))) < 60) ∧ (Ev (d + 1) 79 6 [vR 13 i0, vI x1, vI x2, vI x3, vI (xwr (x4 + (-1))), vI (xwr (x5 + 1)), vI (σ 14 i0 x5.toNat)] [] (xup s5 15 i0 ((xwr (x4 + (-1))).toNat) v5) Q))))) else if x4 < (0 : Int) then Q 0 σ else ((0 : Int) ≤ x4 ∧ x4 < 60) ∧ (Q (σ 15 i0 x4.toNat) σ)) := EvN_eq [6] 47 _ _ _ _ _ _ _
set_option maxRecDepth 100000 in
theorem b_T_named_0 {d : Nat} {σ : xM} {Q : Int → xM → Prop} {x0 : Int} {x1 : Int} {x2 : Int} {x3 : Int} : Ev d 80 0 [vI x0, vI x1, vI x2, vI x3] [] σ Q = (if x0 = ((-1) : Int) then Q x1 σ else if x0 = ((-2) : Int) then Q x2 σ else Q x3 σ) := EvN_eq [] 10 _ _ _ _ _ _ _
set_option maxRecDepth 100000 in
theorem b_T_apply_0 {d : Nat} {σ : xM} {Q : Int → xM → Prop} {x0 : Int} {x1 : Int} {x2 : Int} : Ev d 81 0 [vI x0, vI x1, vI x2] [] σ Q = (if x0 = 38 then if x1 = (0 : Int) then Q 0 σ else if x2 = (0 : Int) then Q 0 σ else Q 1 σ else if x0 = 42 then Q (xwr (x1 * x2)) σ else if x0 = 43 then Q (xwr (x1 + x2)) σ else if x0 = 45 then Q (xwr (x1 - x2)) σ else if x0 = 47 then if x2 = (0 : Int) then Q 0 σ else x2 ≠ 0 ∧ (Q (xwr (Int.tdiv x1 x2)) σ) else if x0 = 60 then if x1 < x2 then Q 1 σ else Q 0 σ else if x0 = 61 then if x1 = x2 then Q 1 σ else Q 0 σ else if x0 = 62 then if x2 < x1 then Q 1 σ else Q 0 σ else if x0 = 124 then if x1 = (0 : Int) then if x2 = (0 : Int) then Q 0 σ else Q 1 σ else Q 1 σ else if x2 = (0 : Int) then Q 0 σ else x2 ≠ 0 ∧ (Q (Int.tmod x1 x2) σ)) := EvN_eq [] 10 _ _ _ _ _ _ _
set_option maxRecDepth 100000 in
theorem b_D_read_0 {d : Nat} {σ : xM} {Q : Int → xM → Prop} {i1 : Nat} {x2 : Int} {x3 : Int} : Ev (d + 1) 83 0 [vR 17 0, vR 11 i1, vI x2, vI x3] [] σ Q = (Ev d 44 0 [vI x2, vI 0, vI (if (60 : Int) < 60 then 60 else 60)] [] σ (fun v1 s1 => ((0 : Int) ≤ 0 ∧ (0 : Int) ≤ 0 ∧ (0 : Int) ≤ ((xup s1 17 0 0 v1) 17 0 0) ∧ (0 + ((xup s1 17 0 0 v1) 17 0 0) : Int) ≤ 60 ∧ (0 + ((xup s1 17 0 0 v1) 17 0 0) : Int) ≤ 60) ∧ (if x3 = (0 : Int) then Ev d 88 0 [vR 17 0, vI 0, vI 0, vR 0 0, vR 0 0, vR 0 0] [] (xup (xup (xup (xup (xcpy (xup s1 17 0 0 v1) 11 i1 (Int.toNat 0) 18 0 (Int.toNat 0) (((xup s1 17 0 0 v1) 17 0 0).toNat)) 17 0 3 (2 : Nat)) 13 4 0 0) 17 0 1 0) 17 0 2 (-1)) (fun v2 s2 => if (s2 17 0 1) < (s2 17 0 0) then Ev d 84 0 [vR 17 0] [] s2 (fun v3 s3 => Q (s3 17 0 2) s3) else Q (s2 17 0 2) s2) else Ev d 88 0 [vR 17 0, vI 0, vI 0, vR 0 0, vR 0 0, vR 0 0] [] (xup (xup (xup (xup (xcpy (xup s1 17 0 0 v1) 11 i1 (Int.toNat 0) 18 0 (Int.toNat 0) (((xup s1 17 0 0 v1) 17 0 0).toNat)) 17 0 3 (3 : Nat)) 13 4 0 0) 17 0 1 0) 17 0 2 (-1)) (fun v4 s4 => if (s4 17 0 1) < (s4 17 0 0) then Ev d 84 0 [vR 17 0] [] s4 (fun v5 s5 => Q (s5 17 0 2) s5) else Q (s4 17 0 2) s4)))) := EvN_eq [] 48 _ _ _ _ _ _ _
set_option maxRecDepth 100000 in
theorem b_D_failHere_0 {d : Nat} {σ : xM} {Q : Int → xM → Prop} : Ev d 84 0 [vR 17 0] [] σ Q = (if (σ 17 0 2) < (0 : Int) then Q 0 (xup σ 17 0 2 (σ 17 0 1)) else Q 0 σ) := EvN_eq [] 9 _ _ _ _ _ _ _
set_option maxRecDepth 100000 in
theorem b_D_next_0 {d : Nat} {σ : xM} {Q : Int → xM → Prop} : Ev d 85 0 [vR 17 0] [] σ Q = (if (σ 17 0 1) < (0 : Int) then Q (-1) σ else if (σ 17 0 1) < (σ 17 0 0) then ((0 : Int) ≤ (σ 17 0 1) ∧ (σ 17 0 1) < 60) ∧ (Q (σ 18 0 ((σ 17 0 1).toNat)) σ) else Q (-1) σ) := EvN_eq [] 16 _ _ _ _ _ _ _
set_option maxRecDepth 100000 in
theorem b_D_isDigit_0 {d : Nat} {σ : xM} {Q : Int → xM → Prop} {x0 : Int} : Ev d 86 0 [vI x0] [] σ Q = (if x0 < (48 : Int) then ((0 : Int) = 0 ∨ (0 : Int) = 1) ∧ Q 0 σ else if (57 : Int) < x0 then ((0 : Int) = 0 ∨ (0 : Int) = 1) ∧ Q 0 σ else ((1 : Int) = 0 ∨ (1 : Int) = 1) ∧ Q 1 σ) := EvN_eq [] 10 _ _ _ _ _ _ _
set_option maxRecDepth 100000 in
theorem b_D_levelOf_0 {d : Nat} {σ : xM} {Q : Int → xM → Prop} {x0 : Int} : Ev d 87 0 [vI x0] [] σ Q = (if x0 = 37 then Q 4 σ else if x0 = 38 then Q 1 σ else if x0 = 42 then Q 4 σ else if x0 = 43 then Q 3 σ else if x0 = 45 then Q 3 σ else if x0 = 47 then Q 4 σ else if x0 = 60 then Q 2 σ else if x0 = 61 then Q 2 σ else if x0 = 62 then Q 2 σ else if x0 = 124 then Q 0 σ else Q (-1) σ) := EvN_eq [] 5 _ _ _ _ _ _ _
set_option maxRecDepth 100000 in
theorem b_D_readLevel_0 {d : Nat} {σ : xM} {Q : Int → xM → Prop} {x1 : Int} {x2 : Int} : Ev (d + 1) 88 0 [vR 17 0, vI x1, vI x2, vR 0 0, vR 0 0, vR 0 0] [] σ Q = (if x1 < (5 : Int) then Ev d 88 0 [vR 17 0, vI (xwr (x1 + 1)), vI x2, vR 0 0, vR 0 0, vR 0 0] [] σ (fun v1 s1 => if x1 = (2 : Int) then Ev (d + 1) 88 34 [vR 17 0, vI x1, vI x2, vI 1, vI 0, vR 0 0] [] s1 Q else Ev (d + 1) 88 34 [vR 17 0, vI x1, vI x2, vI 60, vI 0, vR 0 0] [] s1 Q) else Ev d 89 0 [vR 17 0, vI x2, vR 0 0] [] σ (fun v2 s2 => Q 0 s2)) := EvN_eq [34] 19 _ _ _ _ _ _ _
set_option maxRecDepth 100000 in
theorem b_D_readLevel_34 {d : Nat} {σ : xM} {Q : Int → xM → Prop} {x1 : Int} {x2 : Int} {x3 : Int} {x4 : Int} {wx5 : xV} : Ev (d + 1) 88 34 [vR 17 0, vI x1, vI x2, vI x3, vI x4, wx5] [] σ Q = (if x4 < x3 then if (σ 17 0 2) < (0 : Int) then Ev d 85 0 [vR 17 0] [] σ (fun v1 s1 => Ev d 87 0 [vI v1] [] s1 (fun v2 s2 => if v2 = x1 then Ev d 88 0 [vR 17 0, vI (xwr (x1 + 1)), vI x2, vR 0 0, vR 0 0, vR 0 0] [] (xup s2 17 0 1 (xwr ((s2 17 0 1) + 1))) (fun v3 s3 => Ev d 77 0 [vR 13 4, vI (xwr (-v1))] [] s3 (fun v4 s4 => Ev (d + 1) 88 34 [vR 17 0, vI x1, vI x2, vI x3, vI (xwr (x4 + 1)), vI v1] [] s4 Q)) else Q 0 s2)) else Q 0 σ else Q 0 σ) := EvN_eq [34] 34 _ _ _ _ _ _ _
set_option maxRecDepth 100000 in
theorem b_D_readFactor_0 {d : Nat} {σ : xM} {Q : Int → xM → Prop} {x1 : Int} : Ev (d + 1) 89 0 [vR 17 0, vI x1, vR 0 0] [] σ Q = (Ev d 85 0 [vR 17 0] [] σ (fun v1 s1 => Ev d 86 0 [vI v1] [] s1 (fun v2 s2 => if v2 = (0 : Int) then if v1 < (0 : Int) then if v1 = (33 : Int) then if x1 < (5 : Int) then Ev d 89 0 [vR 17 0, vI (xwr (x1 + 1)), vR 0 0] [] (xup s2 17 0 1 (xwr ((s2 17 0 1) + 1))) (fun v3 s3 => Ev d 77 0 [vR 13 4, vI (-33)] [] s3 (fun v4 s4 => Q 0 s4)) else if v1 = (40 : Int) then if x1 < (5 : Int) then Ev d 88 0 [vR 17 0, vI 0, vI (xwr (x1 + 1)), vR 0 0, vR 0 0, vR 0 0] [] (xup s2 17 0 1 (xwr ((s2 17 0 1) + 1))) (fun v5 s5 => Ev d 90 0 [vR 17 0] [] s5 (fun v6 s6 => Q 0 s6)) else Ev d 84 0 [vR 17 0] [] s2 (fun v7 s7 => Q 0 s7) else Ev d 84 0 [vR 17 0] [] s2 (fun v8 s8 => Q 0 s8) else if v1 = (40 : Int) then if x1 < (5 : Int) then Ev d 88 0 [vR 17 0, vI 0, vI (xwr (x1 + 1)), vR 0 0, vR 0 0, vR 0 0] [] (xup s2 17 0 1 (xwr ((s2 17 0 1) + 1))) (fun v9 s9 => Ev d 90 0 [vR 17 0] [] s9 (fun v10 s10 => Q 0 s10)) else Ev d 84 0 [vR 17 0] [] s2 (fun v11 s11 => Q 0 s11) else Ev d 84 0 [vR 17 0] [] s2 (fun v12 s12 => Q 0 s12) else (1 ≤ s2 17 0 3 ∧ s2 17 0 3 ≤ 3) ∧ (Ev d 222 0 [vR 1 ((s2 17 0 3).toNat), vI (xi2c v1)] [] s2 (fun v13 s13 => if v13 < (0 : Int) then if v1 = (33 : Int) then if x1 < (5 : Int) then Ev d 89 0 [vR 17 0, vI (xwr (x1 + 1)), vR 0 0] [] (xup s13 17 0 1 (xwr ((s13 17 0 1) + 1))) (fun v14 s14 => Ev d 77 0 [vR 13 4, vI (-33)] [] s14 (fun v15 s15 => Q 0 s15)) else if v1 = (40 : Int) then if x1 < (5 : Int) then Ev d 88 0 [vR 17 0, vI 0, vI (xwr (x1 + 1)), vR 0 0, vR 0 0, vR 0 0] [] (xup s13 17 0 1 (xwr ((s13 17 0 1) + 1))) (fun v16 s16 => Ev d 90 0 [vR 17 0] [] s16 (fun v17 s17 => Q 0 s17)) else Ev d 84 0 [vR 17 0] [] s13 (fun v18 s18 => Q 0 s18) else Ev d 84 0 [vR 17 0] [] s13 (fun v19 s19 => Q 0 s19) else if v1 = (40 : Int) then if x1 < (5 : Int) then Ev d 88 0 [vR 17 0, vI 0, vI (xwr (x1 + 1)), vR 0 0, vR 0 0, vR 0 0] [] (xup s13 17 0 1 (xwr ((s13 17 0 1) + 1))) (fun v20 s20 => Ev d 90 0 [vR 17 0] [] s20 (fun v21 s21 => Q 0 s21)) else Ev d 84 0 [vR 17 0] [] s13 (fun v22 s22 => Q 0 s22) else Ev d 84 0 [vR 17 0] [] s13 (fun v23 s23 => Q 0 s23) else (1 ≤ s13 17 0 3 ∧ s13 17 0 3 ≤ 3) ∧ (Ev d 222 0 [vR 1 ((s13 17 0 3).toNat), vI (xi2c v1)] [] s13 (fun v24 s24 => Ev d 77 0 [vR 13 4, vI (xwr ((-1) - v24))] [] s24 (fun v25 s25 => Q 0 (xup s25 17 0 1 (xwr ((s25 17 0 1) + 1)))))))) else Ev d 91 0 [vR 17 0, vR 0 0, vR 0 0] [] s2 (fun v26 s26 => Q 0 s26)))) := EvN_eq [] 43 _ _ _ _ _ _ _
set_option maxRecDepth 100000 in
theorem b_D_readClosing_0 {d : Nat} {σ : xM} {Q : Int → xM → Prop} : Ev (d + 1) 90 0 [vR 17 0] [] σ Q = (if (σ 17 0 2) < (0 : Int) then Ev d 85 0 [vR 17 0] [] σ (fun v1 s1 => if v1 = (41 : Int) then Q 0 (xup s1 17 0 1 (xwr ((s1 17 0 1) + 1))) else Ev d 84 0 [vR 17 0] [] s1 (fun v2 s2 => Q 0 s2)) else Ev d 84 0 [vR 17 0] [] σ (fun v3 s3 => Q 0 s3)) := EvN_eq [] 16 _ _ _ _ _ _ _
set_option maxRecDepth 100000 in
theorem b_D_readNumber_0 {d : Nat} {σ : xM} {Q : Int → xM → Prop} : Ev d 91 0 [vR 17 0, vR 0 0, vR 0 0] [] σ Q = (Ev d 91 4 [vR 17 0, vI 0, vI 0] [] σ Q) := EvN_eq [4] 6 _ _ _ _ _ _ _
set_option maxRecDepth 100000 in
theorem b_D_readNumber_4 {d : Nat} {σ : xM} {Q : Int → xM → Prop} {x1 : Int} {x2 : Int} : Ev (d + 1) 91 4 [vR 17 0, vI x1, vI x2] [] σ Q = (if x2 < (4 : Int) then Ev d 85 0 [vR 17 0] [] σ (fun v1 s1 => Ev d 86 0 [vI v1] [] s1 (fun v2 s2 => if v2 = (0 : Int) then Ev d 77 0 [vR 13 4, vI x1] [] s2 (fun v3 s3 => Q 0 s3) else Ev d 85 0 [vR 17 0] [] s2 (fun v4 s4 => Ev (d + 1) 91 4 [vR 17 0, vI (xwr ((xwr ((xwr (x1 * 10)) + v4)) - 48)), vI (xwr (x2 + 1))] [] (xup s4 17 0 1 (xwr ((s4 17 0 1) + 1))) Q))) else Ev d 77 0 [vR 13 4, vI x1] [] σ (fun v5 s5 => Q 0 s5)) := EvN_eq [4] 26 _ _ _ _ _ _ _
set_option maxRecDepth 100000 in
theorem b_A_weighByWorth_0 {d : Nat} {σ : xM} {Q : Int → xM → Prop} : Ev d 93 0 [vR 19 0, vR 5 0, vR 0 0, vR 0 0] [] σ Q = (Ev d 93 18 [vR 19 0, vR 5 0, vI 0, vR 0 0] [] (xup (xup σ 19 0 0 (σ 5 0 1)) 19 0 1 ((xup σ 19 0 0 (σ 5 0 1)) 5 0 0)) Q) := EvN_eq [18, 28] 12 _ _ _ _ _ _ _
set_option maxRecDepth 100000 in
theorem b_A_weighByWorth_18 {d : Nat} {σ : xM} {Q : Int → xM → Prop} {x2 : Int} {wx3 : xV} : Ev d 93 18 [vR 19 0, vR 5 0, vI x2, wx3] [] σ Q = (if x2 < (σ 19 0 0) then Ev d 93 28 [vR 19 0, vR 5 0, vI x2, vI 0] [] σ Q else Q 0 σ) := EvN_eq [18, 28] 8 _ _ _ _ _ _ _
set_option maxRecDepth 100000 in
theorem b_A_weighByWorth_28 {d : Nat} {σ : xM} {Q : Int → xM → Prop} {x2 : Int} {x3 : Int} : Ev (d + 1) 93 28 [vR 19 0, vR 5 0, vI x2, vI x3] [] σ Q = (if x3 < (σ 19 0 1) then ((0 : Int) ≤ x2 ∧ x2 < 7) ∧ (Ev d 50 0 [vR 5 0, vI x2, vI x3] [] σ (fun v1 s1 => if v1 = (0 : Int) then ((0 : Int) ≤ x3 ∧ x3 < 7) ∧ (Ev (d + 1) 93 28 [vR 19 0, vR 5 0, vI x2, vI (xwr (x3 + 1))] [] (xup s1 21 x2.toNat x3.toNat (-1)) Q) else Ev d 55 0 [vR 5 0, vI x2, vI x3, vR 0 0] [] s1 (fun v2 s2 => ((0 : Int) ≤ x3 ∧ x3 < 7) ∧ (Ev (d + 1) 93 28 [vR 19 0, vR 5 0, vI x2, vI (xwr (x3 + 1))] [] (xup s2 21 x2.toNat x3.toNat v2) Q)))) else Ev (d + 1) 93 18 [vR 19 0, vR 5 0, vI (xwr (x2 + 1)), vI x3] [] σ Q) := EvN_eq [18, 28] 24 _ _ _ _ _ _ _
set_option maxRecDepth 100000 in
theorem b_A_weighByWishes_0 {d : Nat} {σ : xM} {Q : Int → xM → Prop} : Ev d 94 0 [vR 19 0, vR 5 0, vR 0 0, vR 0 0, vR 0 0] [] σ Q = (Ev d 94 18 [vR 19 0, vR 5 0, vI 0, vR 0 0, vR 0 0] [] (xup (xup σ 19 0 0 (σ 5 0 1)) 19 0 1 ((xup σ 19 0 0 (σ 5 0 1)) 5 0 0)) Q) := EvN_eq [18, 28] 12 _ _ _ _ _ _ _
set_option maxRecDepth 100000 in
theorem b_A_weighByWishes_18 {d : Nat} {σ : xM} {Q : Int → xM → Prop} {x2 : Int} {wx3 : xV} {wx4 : xV} : Ev d 94 18 [vR 19 0, vR 5 0, vI x2, wx3, wx4] [] σ Q = (if x2 < (σ 19 0 0) then Ev d 94 28 [vR 19 0, vR 5 0, vI x2, vI 0, wx4] [] σ Q else Q 0 σ) := EvN_eq [18, 28] 8 _ _ _ _ _ _ _
set_option maxRecDepth 100000 in
theorem b_A_weighByWishes_28 {d : Nat} {σ : xM} {Q : Int → xM → Prop} {x2 : Int} {x3 : Int} {wx4 : xV} : Ev (d + 1) 94 28 [vR 19 0, vR 5 0, vI x2, vI x3, wx4] [] σ Q = (if x3 < (σ 19 0 1) then Ev d 50 0 [vR 5 0, vI x2, vI x3] [] σ (fun v1 s1 => if v1 = (0 : Int) then ((0 : Int) ≤ x2 ∧ x2 < 7) ∧ (if (0 : Int) = (0 : Int) then ((0 : Int) ≤ x3 ∧ x3 < 7) ∧ (Ev (d + 1) 94 28 [vR 19 0, vR 5 0, vI x2, vI (xwr (x3 + 1)), vI 0] [] (xup s1 21 x2.toNat x3.toNat (-1)) Q) else ((0 : Int) ≤ x3 ∧ x3 < 7) ∧ (Ev (d + 1) 94 28 [vR 19 0, vR 5 0, vI x2, vI (xwr (x3 + 1)), vI 0] [] (xup s1 21 x2.toNat x3.toNat 1) Q)) else ((0 : Int) ≤ x2 ∧ x2 < 7) ∧ (Ev d 74 0 [vR 9 x2.toNat, vI x3, vR 0 0] [] s1 (fun v2 s2 => if (0 : Int) < v2 then ((0 : Int) ≤ x2 ∧ x2 < 7) ∧ (if (1 : Int) = (0 : Int) then ((0 : Int) ≤ x3 ∧ x3 < 7) ∧ (Ev (d + 1) 94 28 [vR 19 0, vR 5 0, vI x2, vI (xwr (x3 + 1)), vI 1] [] (xup s2 21 x2.toNat x3.toNat (-1)) Q) else ((0 : Int) ≤ x3 ∧ x3 < 7) ∧ (Ev (d + 1) 94 28 [vR 19 0, vR 5 0, vI x2, vI (xwr (x3 + 1)), vI 1] [] (xup s2 21 x2.toNat x3.toNat 1) Q)) else ((0 : Int) ≤ x2 ∧ x2 < 7) ∧ (if (0 : Int) = (0 : Int) then ((0 : Int) ≤ x3 ∧ x3 < 7) ∧ (Ev (d + 1) 94 28 [vR 19 0, vR 5 0, vI x2, vI (xwr (x3 + 1)), vI 0] [] (xup s2 21 x2.toNat x3.toNat (-1)) Q) else ((0 : Int) ≤ x3 ∧ x3 < 7) ∧ (Ev (d + 1) 94 28 [vR 19 0, vR 5 0, vI x2, vI (xwr (x3 + 1)), vI 0] [] (xup s2 21 x2.toNat x3.toNat 1) Q))))) else Ev (d + 1) 94 18 [vR 19 0, vR 5 0, vI (xwr (x2 + 1)), vI x3, wx4] [] σ Q) := EvN_eq [18, 28] 33 _ _ _ _ _ _ _
set_option maxRecDepth 100000 in
theorem b_A_leaveOut_0 {d : Nat} {σ : xM} {Q : Int → xM → Prop} {x1 : Int} : Ev d 95 0 [vR 19 0, vI x1, vR 0 0] [] σ Q = (Ev d 95 2 [vR 19 0, vI x1, vI 0] [] σ Q) := EvN_eq [2] 4 _ _ _ _ _ _ _
set_option maxRecDepth 100000 in
theorem b_A_leaveOut_2 {d : Nat} {σ : xM} {Q : Int → xM → Prop} {x1 : Int} {x2 : Int} : Ev d 95 2 [vR 19 0, vI x1, vI x2] [] σ Q = (if x2 < (σ 19 0 1) then ((0 : Int) ≤ x1 ∧ x1 < 7) ∧ (((0 : Int) ≤ x2 ∧ x2 < 7) ∧ (Ev d 95 2 [vR 19 0, vI x1, vI (xwr (x2 + 1))] [] (xup σ 21 x1.toNat x2.toNat (-1)) Q)) else Q 0 σ) := EvN_eq [2] 15 _ _ _ _ _ _ _
set_option maxRecDepth 100000 in
theorem b_A_workOut_0 {d : Nat} {σ : xM} {Q : Int → xM → Prop} : Ev d 96 0 [vR 19 0, vR 0 0, vR 0 0, vR 0 0] [] σ Q = (Ev d 96 9 [vR 19 0, vI (xshl 1 (σ 19 0 1)), vI 0, vR 0 0] [] σ Q) := EvN_eq [9, 39, 45] 9 _ _ _ _ _ _ _
set_option maxRecDepth 100000 in
theorem b_A_workOut_9 {d : Nat} {σ : xM} {Q : Int → xM → Prop} {x1 : Int} {x2 : Int} {wx3 : xV} : Ev d 96 9 [vR 19 0, vI x1, vI x2, wx3] [] σ Q = (if x2 < x1 then ((0 : Int) ≤ (σ 19 0 0) ∧ (σ 19 0 0) < 8) ∧ (((0 : Int) ≤ x2 ∧ x2 < 128) ∧ (Ev d 96 9 [vR 19 0, vI x1, vI (xwr (x2 + 1)), wx3] [] (xup σ 23 ((σ 19 0 0).toNat) x2.toNat 0) Q)) else Ev d 96 39 [vR 19 0, vI x1, vI (xwr ((σ 19 0 0) - 1)), wx3] [] σ Q) := EvN_eq [9, 39, 45] 15 _ _ _ _ _ _ _
set_option maxRecDepth 100000 in
theorem b_A_workOut_39 {d : Nat} {σ : xM} {Q : Int → xM → Prop} {x1 : Int} {x2 : Int} {wx3 : xV} : Ev d 96 39 [vR 19 0, vI x1, vI x2, wx3] [] σ Q = (if x2 < (0 : Int) then Q 0 σ else Ev d 96 45 [vR 19 0, vI x1, vI x2, vI 0] [] σ Q) := EvN_eq [9, 39, 45] 6 _ _ _ _ _ _ _
set_option maxRecDepth 100000 in
theorem b_A_workOut_45 {d : Nat} {σ : xM} {Q : Int → xM → Prop} {x1 : Int} {x2 : Int} {x3 : Int} : Ev (d + 1) 96 45 [vR 19 0, vI x1, vI x2, vI x3] [] σ Q = (if x3 < x1 then ((0 : Int) ≤ x2 ∧ x2 < 8) ∧ (Ev d 97 0 [vR 19 0, vI x2, vI x3, vR 0 0, vR 0 0] [] σ (fun v1 s1 => ((0 : Int) ≤ x3 ∧ x3 < 128) ∧ (Ev (d + 1) 96 45 [vR 19 0, vI x1, vI x2, vI (xwr (x3 + 1))] [] (xup s1 23 x2.toNat x3.toNat v1) Q))) else Ev (d + 1) 96 39 [vR 19 0, vI x1, vI (xwr (x2 + (-1))), vI x3] [] σ Q) := EvN_eq [9, 39, 45] 17 _ _ _ _ _ _ _
set_option maxRecDepth 100000 in
theorem b_A_mostFrom_0 {d : Nat} {σ : xM} {Q : Int → xM → Prop} {x1 : Int} {x2 : Int} : Ev d 97 0 [vR 19 0, vI x1, vI x2, vR 0 0, vR 0 0] [] σ Q = (((0 : Int) ≤ (xwr (x1 + 1)) ∧ (xwr (x1 + 1)) < 8) ∧ (((0 : Int) ≤ x2 ∧ x2 < 128) ∧ (Ev d 97 14 [vR 19 0, vI x1, vI x2, vI (σ 23 ((xwr (x1 + 1)).toNat) x2.toNat), vI 0] [] σ Q))) := EvN_eq [14] 13 _ _ _ _ _ _ _
set_option maxRecDepth 100000 in
theorem b_A_mostFrom_14 {d : Nat} {σ : xM} {Q : Int → xM → Prop} {x1 : Int} {x2 : Int} {x3 : Int} {x4 : Int} : Ev (d + 1) 97 14 [vR 19 0, vI x1, vI x2, vI x3, vI x4] [] σ Q = (if x4 < (σ 19 0 1) then Ev d 98 0 [vR 19 0, vI x1, vI x4, vI x2] [] σ (fun v1 s1 => if v1 = (0 : Int) then Ev (d + 1) 97 14 [vR 19 0, vI x1, vI x2, vI x3, vI (xwr (x4 + 1))] [] s1 Q else Ev d 99 0 [vR 19 0, vI x1, vI x4, vI x2] [] s1 (fun v2 s2 => Ev (d + 1) 97 14 [vR 19 0, vI x1, vI x2, vI (if x3 < v2 then v2 else x3), vI (xwr (x4 + 1))] [] s2 Q)) else Q x3 σ) := EvN_eq [14] 22 _ _ _ _ _ _ _
set_option maxRecDepth 100000 in
theorem b_A_isFree_0 {d : Nat} {σ : xM} {Q : Int → xM → Prop} {x1 : Int} {x2 : Int} {x3 : Int} : Ev d 98 0 [vR 19 0, vI x1, vI x2, vI x3] [] σ Q = (if (xand (xshr x3 x2) 1) = (0 : Int) then ((0 : Int) ≤ x1 ∧ x1 < 7) ∧ (((0 : Int) ≤ x2 ∧ x2 < 7) ∧ (if (σ 21 x1.toNat x2.toNat) = ((-1) : Int) then ((0 : Int) = 0 ∨ (0 : Int) = 1) ∧ Q 0 σ else ((1 : Int) = 0 ∨ (1 : Int) = 1) ∧ Q 1 σ)) else ((0 : Int) = 0 ∨ (0 : Int) = 1) ∧ Q 0 σ) := EvN_eq [] 18 _ _ _ _ _ _ _
set_option maxRecDepth 100000 in
theorem b_A_comesTo_0 {d : Nat} {σ : xM} {Q : Int → xM → Prop} {x1 : Int} {x2 : Int} {x3 : Int} : Ev d 99 0 [vR 19 0, vI x1, vI x2, vI x3] [] σ Q = (((0 : Int) ≤ x1 ∧ x1 < 7) ∧ (((0 : Int) ≤ x2 ∧ x2 < 7) ∧ (((0 : Int) ≤ (xwr (x1 + 1)) ∧ (xwr (x1 + 1)) < 8) ∧ (((0 : Int) ≤ (xior x3 (xshl 1 x2)) ∧ (xior x3 (xshl 1 x2)) < 128) ∧ (Q (xwr ((σ 21 x1.toNat x2.toNat) + (σ 23 ((xwr (x1 + 1)).toNat) ((xior x3 (xshl 1 x2)).toNat)))) σ))))) := EvN_eq [] 21 _ _ _ _ _ _ _
set_option maxRecDepth 100000 in
theorem b_A_mostWithout_0 {d : Nat} {σ : xM} {Q : Int → xM → Prop} {x1 : Int} : Ev d 100 0 [vR 19 0, vI x1] [] σ Q = (((0 : Int) ≤ 0 ∧ (0 : Int) < 8) ∧ (((0 : Int) ≤ x1 ∧ x1 < 128) ∧ (Q (σ 23 (Int.toNat 0) x1.toNat) σ))) := EvN_eq [] 8 _ _ _ _ _ _ _
set_option maxRecDepth 100000 in
theorem b_A_assignWithout_0 {d : Nat} {σ : xM} {Q : Int → xM → Prop} {x1 : Int} : Ev d 101 0 [vR 19 0, vI x1, vR 0 0, vR 0 0] [] σ Q = (Ev d 101 4 [vR 19 0, vI x1, vI x1, vI 0] [] σ Q) := EvN_eq [4] 6 _ _ _ _ _ _ _
set_option maxRecDepth 100000 in
theorem b_A_assignWithout_4 {d : Nat} {σ : xM} {Q : Int → xM → Prop} {x1 : Int} {x2 : Int} {x3 : Int} : Ev (d + 1) 101 4 [vR 19 0, vI x1, vI x2, vI x3] [] σ Q = (if x3 < (σ 19 0 0) then Ev d 102 0 [vR 19 0, vI x3, vI x2, vR 0 0] [] σ (fun v1 s1 => ((0 : Int) ≤ x3 ∧ x3 < 7) ∧ (((0 : Int) ≤ x3 ∧ x3 < 7) ∧ (if ((xup s1 24 0 x3.toNat v1) 24 0 x3.toNat) = ((-1) : Int) then Ev (d + 1) 101 4 [vR 19 0, vI x1, vI x2, vI (xwr (x3 + 1))] [] (xup s1 24 0 x3.toNat v1) Q else ((0 : Int) ≤ x3 ∧ x3 < 7) ∧ (Ev (d + 1) 101 4 [vR 19 0, vI x1, vI (xior x2 (xshl 1 ((xup s1 24 0 x3.toNat v1) 24 0 x3.toNat))), vI (xwr (x3 + 1))] [] (xup s1 24 0 x3.toNat v1) Q)))) else Q 0 σ) := EvN_eq [4] 31 _ _ _ _ _ _ _
set_option maxRecDepth 100000 in
theorem b_A_leastPart_0 {d : Nat} {σ : xM} {Q : Int → xM → Prop} {x1 : Int} {x2 : Int} : Ev d 102 0 [vR 19 0, vI x1, vI x2, vR 0 0] [] σ Q = (Ev d 102 2 [vR 19 0, vI x1, vI x2, vI 0] [] σ Q) := EvN_eq [2] 4 _ _ _ _ _ _ _
set_option maxRecDepth 100000 in
theorem b_A_leastPart_2 {d : Nat} {σ : xM} {Q : Int → xM → Prop} {x1 : Int} {x2 : Int} {x3 : Int} : Ev (d + 1) 102 2 [vR 19 0, vI x1, vI x2, vI x3] [] σ Q = (if x3 < (σ 19 0 1) then Ev d 98 0 [vR 19 0, vI x1, vI x3, vI x2] [] σ (fun v1 s1 => if v1 = (0 : Int) then Ev (d + 1) 102 2 [vR 19 0, vI x1, vI x2, vI (xwr (x3 + 1))] [] s1 Q else Ev d 99 0 [vR 19 0, vI x1, vI x3, vI x2] [] s1 (fun v2 s2 => ((0 : Int) ≤ x1 ∧ x1 < 8) ∧ (((0 : Int) ≤ x2 ∧ x2 < 128) ∧ (if v2 = (s2 23 x1.toNat x2.toNat) then Q x3 s2 else Ev (d + 1) 102 2 [vR 19 0, vI x1, vI x2, vI (xwr (x3 + 1))] [] s2 Q)))) else Q (-1) σ) := EvN_eq [2] 26 _ _ _ _ _ _ _
set_option maxRecDepth 100000 in
theorem b_L_tryAll_0 {d : Nat} {σ : xM} {Q : Int → xM → Prop} {x3 : Int} : Ev (d + 1) 104 0 [vR 25 0, vR 5 0, vR 19 0, vI x3, vR 0 0, vR 0 0, vR 0 0, vR 0 0] [] σ Q = (Ev d 105 0 [vR 25 0, vR 5 0, vR 19 0, vI x3, vR 0 0, vR 0 0] [] (xup (xup (xup σ 25 0 0 (σ 5 0 0)) 25 0 1 (-1)) 25 0 2 0) (fun v1 s1 => Ev d 107 0 [vR 25 0, vR 5 0, vI x3, vR 0 0, vR 0 0] [] s1 (fun v2 s2 => Ev d 109 0 [vR 25 0, vR 29 0, vR 0 0, vR 0 0, vR 0 0] [] s2 (fun v3 s3 => ((0 : Int) ≤ v3 ∧ v3 < 8) ∧ (Ev (d + 1) 104 49 [vR 25 0, vR 5 0, vR 19 0, vI x3, vI (s3 29 0 v3.toNat), vI 0, vR 0 0, vR 0 0] [] s3 Q))))) := EvN_eq [49, 61] 31 _ _ _ _ _ _ _
set_option maxRecDepth 100000 in
theorem b_L_tryAll_49 {d : Nat} {σ : xM} {Q : Int → xM → Prop} {x3 : Int} {x4 : Int} {x5 : Int} {wx6 : xV} {wx7 : xV} : Ev d 104 49 [vR 25 0, vR 5 0, vR 19 0, vI x3, vI x4, vI x5, wx6, wx7] [] σ Q = (if x5 < (σ 25 0 0) then Ev d 104 61 [vR 25 0, vR 5 0, vR 19 0, vI x3, vI x4, vI x5, vI 0, wx7] [] σ Q else Q 0 σ) := EvN_eq [49, 61] 8 _ _ _ _ _ _ _
set_option maxRecDepth 100000 in
theorem b_L_tryAll_61 {d : Nat} {σ : xM} {Q : Int → xM → Prop} {x3 : Int} {x4 : Int} {x5 : Int} {x6 : Int} {wx7 : xV} : Ev (d + 1) 104 61 [vR 25 0, vR 5 0, vR 19 0, vI x3, vI x4, vI x5, vI x6, wx7] [] σ Q = (if x6 < (σ 25 0 0) then Ev d 108 0 [vR 25 0, vI x5, vI x6, vR 0 0, vR 0 0] [] σ (fun v1 s1 => Ev d 109 0 [vR 25 0, vR 32 0, vR 0 0, vR 0 0, vR 0 0] [] s1 (fun v2 s2 => ((0 : Int) ≤ v2 ∧ v2 < 8) ∧ (if (s2 25 0 2) < (xwr ((s2 29 0 v2.toNat) - x4)) then Ev (d + 1) 104 61 [vR 25 0, vR 5 0, vR 19 0, vI x3, vI x4, vI x5, vI (xwr (x6 + 1)), vI (xwr ((s2 29 0 v2.toNat) - x4))] [] (xup (xup s2 25 0 2 (xwr ((s2 29 0 v2.toNat) - x4))) 25 0 1 (xwr ((xwr (10 * x5)) + x6))) Q else Ev (d + 1) 104 61 [vR 25 0, vR 5 0, vR 19 0, vI x3, vI x4, vI x5, vI (xwr (x6 + 1)), vI (xwr ((s2 29 0 v2.toNat) - x4))] [] s2 Q))) else Ev (d + 1) 104 49 [vR 25 0, vR 5 0, vR 19 0, vI x3, vI x4, vI (xwr (x5 + 1)), vI x6, wx7] [] σ Q) := EvN_eq [49, 61] 36 _ _ _ _ _ _ _
set_option maxRecDepth 100000 in
theorem b_L_learnOthers_0 {d : Nat} {σ : xM} {Q : Int → xM → Prop} {x3 : Int} : Ev (d + 1) 105 0 [vR 25 0, vR 5 0, vR 19 0, vI x3, vR 0 0, vR 0 0] [] σ Q = (Ev d 95 0 [vR 19 0, vI x3, vR 0 0] [] σ (fun v1 s1 => Ev d 96 0 [vR 19 0, vR 0 0, vR 0 0, vR 0 0] [] s1 (fun v2 s2 => Ev (d + 1) 105 12 [vR 25 0, vR 5 0, vR 19 0, vI x3, vI 0, vR 0 0] [] s2 Q))) := EvN_eq [12] 9 _ _ _ _ _ _ _
set_option maxRecDepth 100000 in
theorem b_L_learnOthers_12 {d : Nat} {σ : xM} {Q : Int → xM → Prop} {x3 : Int} {x4 : Int} {wx5 : xV} : Ev (d + 1) 105 12 [vR 25 0, vR 5 0, vR 19 0, vI x3, vI x4, wx5] [] σ Q = (if (σ 25 0 0) < x4 then Q 0 σ else if x4 < (σ 25 0 0) then if x4 = (σ 25 0 0) then ((0 : Int) ≤ x4 ∧ x4 < 8) ∧ ((1 : Int) = 0 ∨ (1 : Int) = 1) ∧ (Ev d 100 0 [vR 19 0, vI (xshl 1 x4)] [] (xup σ 28 0 x4.toNat 1) (fun v1 s1 => ((0 : Int) ≤ x4 ∧ x4 < 8) ∧ (Ev d 101 0 [vR 19 0, vI (xshl 1 x4), vR 0 0, vR 0 0] [] (xup s1 26 0 x4.toNat v1) (fun v2 s2 => if x4 < (s2 25 0 0) then ((0 : Int) ≤ x3 ∧ x3 < 7) ∧ (Ev d 106 0 [vR 24 0, vI ((xup s2 24 0 x3.toNat x4) 5 0 1), vR 0 0, vR 0 0] [] (xup s2 24 0 x3.toNat x4) (fun v3 s3 => ((0 : Int) ≤ x4 ∧ x4 < 8) ∧ (Ev (d + 1) 105 12 [vR 25 0, vR 5 0, vR 19 0, vI x3, vI (xwr (x4 + 1)), vI (xshl 1 x4)] [] (xup s3 27 0 x4.toNat v3) Q))) else ((0 : Int) ≤ x3 ∧ x3 < 7) ∧ (Ev d 106 0 [vR 24 0, vI ((xup s2 24 0 x3.toNat (-1)) 5 0 1), vR 0 0, vR 0 0] [] (xup s2 24 0 x3.toNat (-1)) (fun v4 s4 => ((0 : Int) ≤ x4 ∧ x4 < 8) ∧ (Ev (d + 1) 105 12 [vR 25 0, vR 5 0, vR 19 0, vI x3, vI (xwr (x4 + 1)), vI (xshl 1 x4)] [] (xup s4 27 0 x4.toNat v4) Q))))))) else Ev d 50 0 [vR 5 0, vI x3, vI x4] [] σ (fun v5 s5 => if v5 = (0 : Int) then ((0 : Int) ≤ x4 ∧ x4 < 8) ∧ ((0 : Int) = 0 ∨ (0 : Int) = 1) ∧ (Ev d 100 0 [vR 19 0, vI (xshl 1 x4)] [] (xup s5 28 0 x4.toNat 0) (fun v6 s6 => ((0 : Int) ≤ x4 ∧ x4 < 8) ∧ (Ev d 101 0 [vR 19 0, vI (xshl 1 x4), vR 0 0, vR 0 0] [] (xup s6 26 0 x4.toNat v6) (fun v7 s7 => if x4 < (s7 25 0 0) then ((0 : Int) ≤ x3 ∧ x3 < 7) ∧ (Ev d 106 0 [vR 24 0, vI ((xup s7 24 0 x3.toNat x4) 5 0 1), vR 0 0, vR 0 0] [] (xup s7 24 0 x3.toNat x4) (fun v8 s8 => ((0 : Int) ≤ x4 ∧ x4 < 8) ∧ (Ev (d + 1) 105 12 [vR 25 0, vR 5 0, vR 19 0, vI x3, vI (xwr (x4 + 1)), vI (xshl 1 x4)] [] (xup s8 27 0 x4.toNat v8) Q))) else ((0 : Int) ≤ x3 ∧ x3 < 7) ∧ (Ev d 106 0 [vR 24 0, vI ((xup s7 24 0 x3.toNat (-1)) 5 0 1), vR 0 0, vR 0 0] [] (xup s7 24 0 x3.toNat (-1)) (fun v9 s9 => ((0 : Int) ≤ x4 ∧ x4 < 8) ∧ (Ev (d + 1) 105 12 [vR 25 0, vR 5 0, vR 19 0, vI x3, vI (xwr (x4 + 1)), vI (xshl 1 x4)] [] (xup s9 27 0 x4.toNat v9) Q))))))) else ((0 : Int) ≤ x4 ∧ x4 < 8) ∧ ((1 : Int) = 0 ∨ (1 : Int) = 1) ∧ (Ev d 100 0 [vR 19 0, vI (xshl 1 x4)] [] (xup s5 28 0 x4.toNat 1) (fun v10 s10 => ((0 : Int) ≤ x4 ∧ x4 < 8) ∧ (Ev d 101 0 [vR 19 0, vI (xshl 1 x4), vR 0 0, vR 0 0] [] (xup s10 26 0 x4.toNat v10) (fun v11 s11 => if x4 < (s11 25 0 0) then ((0 : Int) ≤ x3 ∧ x3 < 7) ∧ (Ev d 106 0 [vR 24 0, vI ((xup s11 24 0 x3.toNat x4) 5 0 1), vR 0 0, vR 0 0] [] (xup s11 24 0 x3.toNat x4) (fun v12 s12 => ((0 : Int) ≤ x4 ∧ x4 < 8) ∧ (Ev (d + 1) 105 12 [vR 25 0, vR 5 0, vR 19 0, vI x3, vI (xwr (x4 + 1)), vI (xshl 1 x4)] [] (xup s12 27 0 x4.toNat v12) Q))) else ((0 : Int) ≤ x3 ∧ x3 < 7) ∧ (Ev d 106 0 [vR 24 0, vI ((xup s11 24 0 x3.toNat (-1)) 5 0 1), vR 0 0, vR 0 0] [] (xup s11 24 0 x3.toNat (-1)) (fun v13 s13 => ((0 : Int) ≤ x4 ∧ x4 < 8) ∧ (Ev (d + 1) 105 12 [vR 25 0, vR 5 0, vR 19 0, vI x3, vI (xwr (x4 + 1)), vI (xshl 1 x4)] [] (xup s13 27 0 x4.toNat v13) Q)))))))) else if x4 = (σ 25 0 0) then ((0 : Int) ≤ x4 ∧ x4 < 8) ∧ ((1 : Int) = 0 ∨ (1 : Int) = 1) ∧ (Ev d 100 0 [vR 19 0, vI 0] [] (xup σ 28 0 x4.toNat 1) (fun v14 s14 => ((0 : Int) ≤ x4 ∧ x4 < 8) ∧ (Ev d 101 0 [vR 19 0, vI 0, vR 0 0, vR 0 0] [] (xup s14 26 0 x4.toNat v14) (fun v15 s15 => if x4 < (s15 25 0 0) then ((0 : Int) ≤ x3 ∧ x3 < 7) ∧ (Ev d 106 0 [vR 24 0, vI ((xup s15 24 0 x3.toNat x4) 5 0 1), vR 0 0, vR 0 0] [] (xup s15 24 0 x3.toNat x4) (fun v16 s16 => ((0 : Int) ≤ x4 ∧ x4 < 8) ∧ (Ev (d + 1) 105 12 [vR 25 0, vR 5 0, vR 19 0, vI x3, vI (xwr (x4 + 1)), vI 0] [] (xup s16 27 0 x4.toNat v16) Q))) else ((0 : Int) ≤ x3 ∧ x3 < 7) ∧ (Ev d 106 0 [vR 24 0, vI ((xup s15 24 0 x3.toNat (-1)) 5 0 1), vR 0 0, vR 0 0] [] (xup s15 24 0 x3.toNat (-1)) (fun v17 s17 => ((0 : Int) ≤ x4 ∧ x4 < 8) ∧ (Ev (d + 1) 105 12 [vR 25 0, vR 5 0, vR 19 0, vI x3, vI (xwr (x4 + 1)), vI 0] [] (xup s17 27 0 x4.toNat v17) Q))))))) else Ev d 50 0 [vR 5 0, vI x3, vI x4] [] σ (fun v18 s18 => if v18 = (0 : Int) then ((0 : Int) ≤ x4 ∧ x4 < 8) ∧ ((0 : Int) = 0 ∨ (0 : Int) = 1) ∧ (Ev d 100 0 [vR 19 0, vI 0] [] (xup s18 28 0 x4.toNat 0) (fun v19 s19 => ((0 : Int) ≤ x4 ∧ x4 < 8) ∧ (Ev d 101 0 [vR 19 0, vI 0, vR 0 0, vR 0 0] [] (xup s19 26 0 x4.toNat v19) (fun v20 s20 => if x4 < (s20 25 0 0) then ((0 : Int) ≤ x3 ∧ x3 < 7) ∧ (Ev d 106 0 [vR 24 0, vI ((xup s20 24 0 x3.toNat x4) 5 0 1), vR 0 0, vR 0 0] [] (xup s20 24 0 x3.toNat x4) (fun v21 s21 => ((0 : Int) ≤ x4 ∧ x4 < 8) ∧ (Ev (d + 1) 105 12 [vR 25 0, vR 5 0, vR 19 0, vI x3, vI (xwr (x4 + 1)), vI 0] [] (xup s21 27 0 x4.toNat v21) Q))) else ((0 : Int) ≤ x3 ∧ x3 < 7) ∧ (Ev d 106 0 [vR 24 0, vI ((xup s20 24 0 x3.toNat (-1)) 5 0 1), vR 0 0, vR 0 0] [] (xup s20 24 0 x3.toNat (-1)) (fun v22 s22 => ((0 : Int) ≤ x4 ∧ x4 < 8) ∧ (Ev (d + 1) 105 12 [vR 25 0, vR 5 0, vR 19 0, vI x3, vI (xwr (x4 + 1)), vI 0] [] (xup s22 27 0 x4.toNat v22) Q))))))) else ((0 : Int) ≤ x4 ∧ x4 < 8) ∧ ((1 : Int) = 0 ∨ (1 : Int) = 1) ∧ (Ev d 100 0 [vR 19 0, vI 0] [] (xup s18 28 0 x4.toNat 1) (fun v23 s23 => ((0 : Int) ≤ x4 ∧ x4 < 8) ∧ (Ev d 101 0 [vR 19 0, vI 0, vR 0 0, vR 0 0] [] (xup s23 26 0 x4.toNat v23) (fun v24 s24 => if x4 < (s24 25 0 0) then ((0 : Int) ≤ x3 ∧ x3 < 7) ∧ (Ev d 106 0 [vR 24 0, vI ((xup s24 24 0 x3.toNat x4) 5 0 1), vR 0 0, vR 0 0] [] (xup s24 24 0 x3.toNat x4) (fun v25 s25 => ((0 : Int) ≤ x4 ∧ x4 < 8) ∧ (Ev (d + 1) 105 12 [vR 25 0, vR 5 0, vR 19 0, vI x3, vI (xwr (x4 + 1)), vI 0] [] (xup s25 27 0 x4.toNat v25) Q))) else ((0 : Int) ≤ x3 ∧ x3 < 7) ∧ (Ev d 106 0 [vR 24 0, vI ((xup s24 24 0 x3.toNat (-1)) 5 0 1), vR 0 0, vR 0 0] [] (xup s24 24 0 x3.toNat (-1)) (fun v26 s26 => ((0 : Int) ≤ x4 ∧ x4 < 8) ∧ (Ev (d + 1) 105 12 [vR 25 0, vR 5 0, vR 19 0, vI x3, vI (xwr (x4 + 1)), vI 0] [] (xup s26 27 0 x4.toNat v26) Q))))))))) := EvN_eq [12] 61 _ _ _ _ _ _ _
set_option maxRecDepth 100000 in
theorem b_L_rankOf_0 {d : Nat} {σ : xM} {Q : Int → xM → Prop} {x1 : Int} : Ev d 106 0 [vR 24 0, vI x1, vR 0 0, vR 0 0] [] σ Q = (Ev d 106 4 [vR 24 0, vI x1, vI 0, vI 0] [] σ Q) := EvN_eq [4] 6 _ _ _ _ _ _ _
set_option maxRecDepth 100000 in
theorem b_L_rankOf_4 {d : Nat} {σ : xM} {Q : Int → xM → Prop} {x1 : Int} {x2 : Int} {x3 : Int} : Ev d 106 4 [vR 24 0, vI x1, vI x2, vI x3] [] σ Q = (if x3 < x1 then ((0 : Int) ≤ x3 ∧ x3 < 7) ∧ (if (σ 24 0 x3.toNat) = ((-1) : Int) then Ev d 106 4 [vR 24 0, vI x1, vI (xwr ((xwr (x2 * 8)) + 7)), vI (xwr (x3 + 1))] [] σ Q else ((0 : Int) ≤ x3 ∧ x3 < 7) ∧ (Ev d 106 4 [vR 24 0, vI x1, vI (xwr ((xwr (x2 * 8)) + (σ 24 0 x3.toNat))), vI (xwr (x3 + 1))] [] σ Q)) else Q x2 σ) := EvN_eq [4] 20 _ _ _ _ _ _ _
set_option maxRecDepth 100000 in
theorem b_L_learnWorth_0 {d : Nat} {σ : xM} {Q : Int → xM → Prop} {x2 : Int} : Ev d 107 0 [vR 25 0, vR 5 0, vI x2, vR 0 0, vR 0 0] [] σ Q = (Ev d 107 2 [vR 25 0, vR 5 0, vI x2, vI 0, vR 0 0] [] σ Q) := EvN_eq [2, 25] 4 _ _ _ _ _ _ _
set_option maxRecDepth 100000 in
theorem b_L_learnWorth_2 {d : Nat} {σ : xM} {Q : Int → xM → Prop} {x2 : Int} {x3 : Int} {wx4 : xV} : Ev (d + 1) 107 2 [vR 25 0, vR 5 0, vI x2, vI x3, wx4] [] σ Q = (if x3 < (σ 25 0 0) then Ev d 55 0 [vR 5 0, vI x2, vI x3, vR 0 0] [] σ (fun v1 s1 => ((0 : Int) ≤ x3 ∧ x3 < 8) ∧ (Ev (d + 1) 107 25 [vR 25 0, vR 5 0, vI x2, vI x3, vI 0] [] (xup s1 29 0 x3.toNat v1) Q)) else ((0 : Int) ≤ (σ 25 0 0) ∧ (σ 25 0 0) < 8) ∧ (((0 : Int) ≤ ((xup σ 29 0 ((σ 25 0 0).toNat) 0) 25 0 0) ∧ ((xup σ 29 0 ((σ 25 0 0).toNat) 0) 25 0 0) < 8) ∧ (Q 0 (xup (xup σ 29 0 ((σ 25 0 0).toNat) 0) 32 0 (((xup σ 29 0 ((σ 25 0 0).toNat) 0) 25 0 0).toNat) 0)))) := EvN_eq [2, 25] 18 _ _ _ _ _ _ _
set_option maxRecDepth 100000 in
theorem b_L_learnWorth_25 {d : Nat} {σ : xM} {Q : Int → xM → Prop} {x2 : Int} {x3 : Int} {x4 : Int} : Ev (d + 1) 107 25 [vR 25 0, vR 5 0, vI x2, vI x3, vI x4] [] σ Q = (if (3 : Int) < x4 then Ev (d + 1) 107 2 [vR 25 0, vR 5 0, vI x2, vI (xwr (x3 + 1)), vI x4] [] σ Q else ((0 : Int) ≤ x4 ∧ x4 < 4) ∧ (Ev d 56 0 [vR 5 0, vI x2, vI x3, vI x4, vR 0 0] [] σ (fun v1 s1 => ((0 : Int) ≤ x3 ∧ x3 < 8) ∧ (Ev (d + 1) 107 25 [vR 25 0, vR 5 0, vI x2, vI x3, vI (xwr (x4 + 1))] [] (xup s1 31 x4.toNat x3.toNat v1) Q)))) := EvN_eq [2, 25] 18 _ _ _ _ _ _ _
set_option maxRecDepth 100000 in
theorem b_L_claim_0 {d : Nat} {σ : xM} {Q : Int → xM → Prop} {x1 : Int} {x2 : Int} : Ev d 108 0 [vR 25 0, vI x1, vI x2, vR 0 0, vR 0 0] [] σ Q = (Ev d 108 2 [vR 25 0, vI x1, vI x2, vI 0, vR 0 0] [] σ Q) := EvN_eq [2] 4 _ _ _ _ _ _ _
set_option maxRecDepth 100000 in
theorem b_L_claim_2 {d : Nat} {σ : xM} {Q : Int → xM → Prop} {x1 : Int} {x2 : Int} {x3 : Int} {wx4 : xV} : Ev d 108 2 [vR 25 0, vI x1, vI x2, vI x3, wx4] [] σ Q = (if x3 < (σ 25 0 0) then if x3 = x1 then ((0 : Int) ≤ 3 ∧ (3 : Int) < 4) ∧ (((0 : Int) ≤ x3 ∧ x3 < 8) ∧ (((0 : Int) ≤ x3 ∧ x3 < 8) ∧ (Ev d 108 2 [vR 25 0, vI x1, vI x2, vI (xwr (x3 + 1)), vI 3] [] (xup σ 32 0 x3.toNat (σ 31 (Int.toNat 3) x3.toNat)) Q))) else if x3 = x2 then ((0 : Int) ≤ 2 ∧ (2 : Int) < 4) ∧ (((0 : Int) ≤ x3 ∧ x3 < 8) ∧ (((0 : Int) ≤ x3 ∧ x3 < 8) ∧ (Ev d 108 2 [vR 25 0, vI x1, vI x2, vI (xwr (x3 + 1)), vI 2] [] (xup σ 32 0 x3.toNat (σ 31 (Int.toNat 2) x3.toNat)) Q))) else ((0 : Int) ≤ 0 ∧ (0 : Int) < 4) ∧ (((0 : Int) ≤ x3 ∧ x3 < 8) ∧ (((0 : Int) ≤ x3 ∧ x3 < 8) ∧ (Ev d 108 2 [vR 25 0, vI x1, vI x2, vI (xwr (x3 + 1)), vI 0] [] (xup σ 32 0 x3.toNat (σ 31 (Int.toNat 0) x3.toNat)) Q))) else Q 0 σ) := EvN_eq [2] 27 _ _ _ _ _ _ _
set_option maxRecDepth 100000 in
theorem b_L_chosenBy_0 {d : Nat} {σ : xM} {Q : Int → xM → Prop} : Ev d 109 0 [vR 25 0, vR 29 0, vR 0 0, vR 0 0, vR 0 0] [] σ Q = (Ev d 109 7 [vR 25 0, vR 29 0, vI (σ 25 0 0), vI 0, vR 0 0] [] σ Q) := EvN_eq [7] 7 _ _ _ _ _ _ _
set_option maxRecDepth 100000 in
theorem b_L_chosenBy_7 {d : Nat} {σ : xM} {Q : Int → xM → Prop} {x2 : Int} {x3 : Int} {wx4 : xV} : Ev d 109 7 [vR 25 0, vR 29 0, vI x2, vI x3, wx4] [] σ Q = (if x3 < (σ 25 0 0) then ((0 : Int) ≤ x3 ∧ x3 < 8) ∧ (((0 : Int) ≤ x3 ∧ x3 < 8) ∧ (((0 : Int) ≤ x2 ∧ x2 < 8) ∧ (((0 : Int) ≤ x2 ∧ x2 < 8) ∧ (((0 : Int) ≤ x3 ∧ x3 < 8) ∧ (if (σ 28 0 x3.toNat) = (0 : Int) then Ev d 109 7 [vR 25 0, vR 29 0, vI x2, vI (xwr (x3 + 1)), vI (xwr ((xwr ((xwr ((σ 29 0 x3.toNat) + (σ 26 0 x3.toNat))) - (σ 29 0 x2.toNat))) - (σ 26 0 x2.toNat)))] [] σ Q else if (0 : Int) < (xwr ((xwr ((xwr ((σ 29 0 x3.toNat) + (σ 26 0 x3.toNat))) - (σ 29 0 x2.toNat))) - (σ 26 0 x2.toNat))) then Ev d 109 7 [vR 25 0, vR 29 0, vI x3, vI (xwr (x3 + 1)), vI (xwr ((xwr ((xwr ((σ 29 0 x3.toNat) + (σ 26 0 x3.toNat))) - (σ 29 0 x2.toNat))) - (σ 26 0 x2.toNat)))] [] σ Q else if (xwr ((xwr ((xwr ((σ 29 0 x3.toNat) + (σ 26 0 x3.toNat))) - (σ 29 0 x2.toNat))) - (σ 26 0 x2.toNat))) = (0 : Int) then ((0 : Int) ≤ x3 ∧ x3 < 8) ∧ (((0 : Int) ≤ x2 ∧ x2 < 8) ∧ (if (σ 27 0 x3.toNat) < (σ 27 0 x2.toNat) then Ev d 109 7 [vR 25 0, vR 29 0, vI x3, vI (xwr (x3 + 1)), vI (xwr ((xwr ((xwr ((σ 29 0 x3.toNat) + (σ 26 0 x3.toNat))) - (σ 29 0 x2.toNat))) - (σ 26 0 x2.toNat)))] [] σ Q else Ev d 109 7 [vR 25 0, vR 29 0, vI x2, vI (xwr (x3 + 1)), vI (xwr ((xwr ((xwr ((σ 29 0 x3.toNat) + (σ 26 0 x3.toNat))) - (σ 29 0 x2.toNat))) - (σ 26 0 x2.toNat)))] [] σ Q)) else Ev d 109 7 [vR 25 0, vR 29 0, vI x2, vI (xwr (x3 + 1)), vI (xwr ((xwr ((xwr ((σ 29 0 x3.toNat) + (σ 26 0 x3.toNat))) - (σ 29 0 x2.toNat))) - (σ 26 0 x2.toNat)))] [] σ Q))))) else Q x2 σ) := EvN_eq [7] 46 _ _ _ _ _ _ _
set_option maxRecDepth 100000 in
theorem b_L_chosenByA_0 {d : Nat} {σ : xM} {Q : Int → xM → Prop} : Ev d 109 0 [vR 25 0, vR 32 0, vR 0 0, vR 0 0, vR 0 0] [] σ Q = (Ev d 109 7 [vR 25 0, vR 32 0, vI (σ 25 0 0), vI 0, vR 0 0] [] σ Q) := EvN_eq [7] 7 _ _ _ _ _ _ _
set_option maxRecDepth 100000 in
theorem b_L_chosenByA_7 {d : Nat} {σ : xM} {Q : Int → xM → Prop} {x2 : Int} {x3 : Int} {wx4 : xV} : Ev d 109 7 [vR 25 0, vR 32 0, vI x2, vI x3, wx4] [] σ Q = (if x3 < (σ 25 0 0) then ((0 : Int) ≤ x3 ∧ x3 < 8) ∧ (((0 : Int) ≤ x3 ∧ x3 < 8) ∧ (((0 : Int) ≤ x2 ∧ x2 < 8) ∧ (((0 : Int) ≤ x2 ∧ x2 < 8) ∧ (((0 : Int) ≤ x3 ∧ x3 < 8) ∧ (if (σ 28 0 x3.toNat) = (0 : Int) then Ev d 109 7 [vR 25 0, vR 32 0, vI x2, vI (xwr (x3 + 1)), vI (xwr ((xwr ((xwr ((σ 32 0 x3.toNat) + (σ 26 0 x3.toNat))) - (σ 32 0 x2.toNat))) - (σ 26 0 x2.toNat)))] [] σ Q else if (0 : Int) < (xwr ((xwr ((xwr ((σ 32 0 x3.toNat) + (σ 26 0 x3.toNat))) - (σ 32 0 x2.toNat))) - (σ 26 0 x2.toNat))) then Ev d 109 7 [vR 25 0, vR 32 0, vI x3, vI (xwr (x3 + 1)), vI (xwr ((xwr ((xwr ((σ 32 0 x3.toNat) + (σ 26 0 x3.toNat))) - (σ 32 0 x2.toNat))) - (σ 26 0 x2.toNat)))] [] σ Q else if (xwr ((xwr ((xwr ((σ 32 0 x3.toNat) + (σ 26 0 x3.toNat))) - (σ 32 0 x2.toNat))) - (σ 26 0 x2.toNat))) = (0 : Int) then ((0 : Int) ≤ x3 ∧ x3 < 8) ∧ (((0 : Int) ≤ x2 ∧ x2 < 8) ∧ (if (σ 27 0 x3.toNat) < (σ 27 0 x2.toNat) then Ev d 109 7 [vR 25 0, vR 32 0, vI x3, vI (xwr (x3 + 1)), vI (xwr ((xwr ((xwr ((σ 32 0 x3.toNat) + (σ 26 0 x3.toNat))) - (σ 32 0 x2.toNat))) - (σ 26 0 x2.toNat)))] [] σ Q else Ev d 109 7 [vR 25 0, vR 32 0, vI x2, vI (xwr (x3 + 1)), vI (xwr ((xwr ((xwr ((σ 32 0 x3.toNat) + (σ 26 0 x3.toNat))) - (σ 32 0 x2.toNat))) - (σ 26 0 x2.toNat)))] [] σ Q)) else Ev d 109 7 [vR 25 0, vR 32 0, vI x2, vI (xwr (x3 + 1)), vI (xwr ((xwr ((xwr ((σ 32 0 x3.toNat) + (σ 26 0 x3.toNat))) - (σ 32 0 x2.toNat))) - (σ 26 0 x2.toNat)))] [] σ Q))))) else Q x2 σ) := EvN_eq [7] 46 _ _ _ _ _ _ _
set_option maxRecDepth 100000 in
theorem b_V_speak_0 {d : Nat} {σ : xM} {Q : Int → xM → Prop} {x1 : Int} {i2 : Nat} {x3 : Int} {x4 : Int} : Ev (d + 1) 111 0 [vR 33 0, vI x1, vR 7 i2, vI x3, vI x4] [] σ Q = (((0 : Int) = 0 ∨ (0 : Int) = 1) ∧ (if x3 = 0 then Ev d 114 0 [vR 33 0, vI ((xup (xup (xup (xup (xup σ 33 0 2 x1) 33 0 3 ((xup σ 33 0 2 x1) 7 i2 0)) 33 0 4 ((xup (xup σ 33 0 2 x1) 33 0 3 ((xup σ 33 0 2 x1) 7 i2 0)) 7 i2 1)) 33 0 0 0) 33 0 1 0) 33 0 3), vI x4] [] (xup (xup (xup (xup (xup σ 33 0 2 x1) 33 0 3 ((xup σ 33 0 2 x1) 7 i2 0)) 33 0 4 ((xup (xup σ 33 0 2 x1) 33 0 3 ((xup σ 33 0 2 x1) 7 i2 0)) 7 i2 1)) 33 0 0 0) 33 0 1 0) (fun v1 s1 => Q v1 s1) else if x3 = 1 then Ev d 115 0 [vR 33 0, vI ((xup (xup (xup (xup (xup σ 33 0 2 x1) 33 0 3 ((xup σ 33 0 2 x1) 7 i2 0)) 33 0 4 ((xup (xup σ 33 0 2 x1) 33 0 3 ((xup σ 33 0 2 x1) 7 i2 0)) 7 i2 1)) 33 0 0 0) 33 0 1 0) 33 0 3), vI x4] [] (xup (xup (xup (xup (xup σ 33 0 2 x1) 33 0 3 ((xup σ 33 0 2 x1) 7 i2 0)) 33 0 4 ((xup (xup σ 33 0 2 x1) 33 0 3 ((xup σ 33 0 2 x1) 7 i2 0)) 7 i2 1)) 33 0 0 0) 33 0 1 0) (fun v2 s2 => Q v2 s2) else if x3 = 2 then Ev d 116 0 [vR 33 0, vI ((xup (xup (xup (xup (xup σ 33 0 2 x1) 33 0 3 ((xup σ 33 0 2 x1) 7 i2 0)) 33 0 4 ((xup (xup σ 33 0 2 x1) 33 0 3 ((xup σ 33 0 2 x1) 7 i2 0)) 7 i2 1)) 33 0 0 0) 33 0 1 0) 33 0 3), vI x4] [] (xup (xup (xup (xup (xup σ 33 0 2 x1) 33 0 3 ((xup σ 33 0 2 x1) 7 i2 0)) 33 0 4 ((xup (xup σ 33 0 2 x1) 33 0 3 ((xup σ 33 0 2 x1) 7 i2 0)) 7 i2 1)) 33 0 0 0) 33 0 1 0) (fun v3 s3 => Q v3 s3) else Ev d 117 0 [vR 33 0, vI ((xup (xup (xup (xup (xup σ 33 0 2 x1) 33 0 3 ((xup σ 33 0 2 x1) 7 i2 0)) 33 0 4 ((xup (xup σ 33 0 2 x1) 33 0 3 ((xup σ 33 0 2 x1) 7 i2 0)) 7 i2 1)) 33 0 0 0) 33 0 1 0) 33 0 3), vI x4, vR 0 0] [] (xup (xup (xup (xup (xup σ 33 0 2 x1) 33 0 3 ((xup σ 33 0 2 x1) 7 i2 0)) 33 0 4 ((xup (xup σ 33 0 2 x1) 33 0 3 ((xup σ 33 0 2 x1) 7 i2 0)) 7 i2 1)) 33 0 0 0) 33 0 1 0) (fun v4 s4 => Q v4 s4))) := EvN_eq [] 26 _ _ _ _ _ _ _
set_option maxRecDepth 100000 in
theorem b_V_begin_0 {d : Nat} {σ : xM} {Q : Int → xM → Prop} {x1 : Int} : Ev d 112 0 [vR 33 0, vI x1] [] σ Q = (if (σ 33 0 0) < (30 : Int) then ((0 : Int) ≤ (σ 33 0 0) ∧ (σ 33 0 0) < 30) ∧ (Q 0 (xup (xup σ 34 0 ((σ 33 0 0).toNat) x1) 33 0 0 (xwr (((xup σ 34 0 ((σ 33 0 0).toNat) x1) 33 0 0) + 1)))) else Q 0 σ) := EvN_eq [] 18 _ _ _ _ _ _ _
set_option maxRecDepth 100000 in
theorem b_V_above_0 {d : Nat} {σ : xM} {Q : Int → xM → Prop} {x0 : Int} : Ev d 113 0 [vI x0] [] σ Q = (if (0 : Int) < x0 then if x0 < (7 : Int) then ((0 : Int) ≤ x0 ∧ x0 < 7) ∧ (Q (xabv x0.toNat) σ) else Q 0 σ else Q 0 σ) := EvN_eq [] 11 _ _ _ _ _ _ _
set_option maxRecDepth 100000 in
theorem b_V_says_0 {d : Nat} {σ : xM} {Q : Int → xM → Prop} {x1 : Int} {x2 : Int} : Ev (d + 1) 114 0 [vR 33 0, vI x1, vI x2] [] σ Q = (if x1 = 0 then Ev d 112 0 [vR 33 0, vI 10] [] σ (fun v1 s1 => Q (xwr (x2 + (s1 33 0 2))) s1) else if x1 = 1 then Ev d 112 0 [vR 33 0, vI 20] [] σ (fun v2 s2 => Ev d 113 0 [vI x1] [] s2 (fun v3 s3 => Ev d 114 0 [vR 33 0, vI v3, vI x2] [] s3 (fun v4 s4 => Q (xwr (v4 - 4)) s4))) else if x1 = 2 then Ev d 113 0 [vI x1] [] σ (fun v5 s5 => Ev d 114 0 [vR 33 0, vI v5, vI x2] [] s5 (fun v6 s6 => Q v6 s6)) else if x1 = 3 then Ev d 113 0 [vI x1] [] σ (fun v7 s7 => Ev d 114 0 [vR 33 0, vI v7, vI x2] [] s7 (fun v8 s8 => Q v8 s8)) else if x1 = 4 then Ev d 112 0 [vR 33 0, vI 50] [] σ (fun v9 s9 => Ev d 113 0 [vI x1] [] s9 (fun v10 s10 => Ev d 114 0 [vR 33 0, vI v10, vI x2] [] s10 (fun v11 s11 => Q (xwr (v11 * 3)) s11))) else if x1 = 5 then Ev d 113 0 [vI x1] [] σ (fun v12 s12 => Ev d 114 0 [vR 33 0, vI v12, vI x2] [] s12 (fun v13 s13 => Q v13 s13)) else if x1 = 6 then Ev d 112 0 [vR 33 0, vI 70] [] σ (fun v14 s14 => Q 9 s14) else Ev d 113 0 [vI x1] [] σ (fun v15 s15 => Ev d 114 0 [vR 33 0, vI v15, vI x2] [] s15 (fun v16 s16 => Q v16 s16))) := EvN_eq [] 14 _ _ _ _ _ _ _
set_option maxRecDepth 100000 in
theorem b_V_sings_0 {d : Nat} {σ : xM} {Q : Int → xM → Prop} {x1 : Int} {x2 : Int} : Ev (d + 1) 115 0 [vR 33 0, vI x1, vI x2] [] σ Q = (if x1 = 0 then Ev d 112 0 [vR 33 0, vI 11] [] σ (fun v1 s1 => Ev d 114 0 [vR 33 0, vI (s1 33 0 3), vI x2] [] s1 (fun v2 s2 => Q (xwr (v2 * 2)) s2)) else if x1 = 1 then Ev d 113 0 [vI x1] [] σ (fun v3 s3 => Ev d 115 0 [vR 33 0, vI v3, vI x2] [] s3 (fun v4 s4 => Q v4 s4)) else if x1 = 2 then Ev d 112 0 [vR 33 0, vI 30] [] σ (fun v5 s5 => Ev d 113 0 [vI x1] [] s5 (fun v6 s6 => Ev d 115 0 [vR 33 0, vI v6, vI x2] [] s6 (fun v7 s7 => Q (xwr (0 - v7)) s7))) else if x1 = 3 then Ev d 113 0 [vI x1] [] σ (fun v8 s8 => Ev d 115 0 [vR 33 0, vI v8, vI x2] [] s8 (fun v9 s9 => Q v9 s9)) else if x1 = 4 then Ev d 113 0 [vI x1] [] σ (fun v10 s10 => Ev d 115 0 [vR 33 0, vI v10, vI x2] [] s10 (fun v11 s11 => Q v11 s11)) else if x1 = 5 then Ev d 112 0 [vR 33 0, vI 60] [] σ (fun v12 s12 => Ev d 113 0 [vI x1] [] s12 (fun v13 s13 => Ev d 115 0 [vR 33 0, vI v13, vI (xwr (x2 + 1))] [] s13 (fun v14 s14 => Q v14 s14))) else if x1 = 6 then Ev d 112 0 [vR 33 0, vI 71] [] σ (fun v15 s15 => Ev d 113 0 [vI x1] [] s15 (fun v16 s16 => Ev d 115 0 [vR 33 0, vI v16, vI x2] [] s16 (fun v17 s17 => Q (xwr (v17 + (s17 33 0 4))) s17))) else Ev d 113 0 [vI x1] [] σ (fun v18 s18 => Ev d 115 0 [vR 33 0, vI v18, vI x2] [] s18 (fun v19 s19 => Q v19 s19))) := EvN_eq [] 15 _ _ _ _ _ _ _
set_option maxRecDepth 100000 in
theorem b_V_waits_0 {d : Nat} {σ : xM} {Q : Int → xM → Prop} {x1 : Int} {x2 : Int} : Ev (d + 1) 116 0 [vR 33 0, vI x1, vI x2] [] σ Q = (if x1 = 0 then Ev d 112 0 [vR 33 0, vI 12] [] σ (fun v1 s1 => Ev d 115 0 [vR 33 0, vI (s1 33 0 3), vI x2] [] s1 (fun v2 s2 => Q (xwr (v2 - (s2 33 0 4))) s2)) else if x1 = 1 then Ev d 113 0 [vI x1] [] σ (fun v3 s3 => Ev d 116 0 [vR 33 0, vI v3, vI x2] [] s3 (fun v4 s4 => Q v4 s4)) else if x1 = 2 then Ev d 113 0 [vI x1] [] σ (fun v5 s5 => Ev d 116 0 [vR 33 0, vI v5, vI x2] [] s5 (fun v6 s6 => Q v6 s6)) else if x1 = 3 then Ev d 112 0 [vR 33 0, vI 40] [] σ (fun v7 s7 => Ev d 113 0 [vI x1] [] s7 (fun v8 s8 => (2 : Int) ≠ 0 ∧ (Ev d 116 0 [vR 33 0, vI v8, vI (xwr (Int.tdiv x2 2))] [] s8 (fun v9 s9 => Q v9 s9)))) else if x1 = 4 then Ev d 112 0 [vR 33 0, vI 51] [] σ (fun v10 s10 => Ev d 113 0 [vI x1] [] s10 (fun v11 s11 => Ev d 116 0 [vR 33 0, vI v11, vI x2] [] s11 (fun v12 s12 => Q (xxor v12 (s12 33 0 2)) s12))) else Ev d 113 0 [vI x1] [] σ (fun v13 s13 => Ev d 116 0 [vR 33 0, vI v13, vI x2] [] s13 (fun v14 s14 => Q v14 s14))) := EvN_eq [] 15 _ _ _ _ _ _ _
set_option maxRecDepth 100000 in
theorem b_V_parts_0 {d : Nat} {σ : xM} {Q : Int → xM → Prop} {x1 : Int} {x2 : Int} : Ev (d + 1) 117 0 [vR 33 0, vI x1, vI x2, vR 0 0] [] σ Q = (if x1 = 0 then Ev d 112 0 [vR 33 0, vI 13] [] σ (fun v1 s1 => if (s1 33 0 4) = (s1 33 0 2) then ((1 : Int) = 0 ∨ (1 : Int) = 1) ∧ (if ((xup s1 33 0 1 1) 33 0 1) = (0 : Int) then (xwr (((xup s1 33 0 1 1) 33 0 4) - ((xup s1 33 0 1 1) 33 0 2))) ≠ 0 ∧ (Q (xwr (Int.tdiv x2 (xwr (((xup s1 33 0 1 1) 33 0 4) - ((xup s1 33 0 1 1) 33 0 2))))) (xup s1 33 0 1 1)) else Q 0 (xup s1 33 0 1 1)) else ((0 : Int) = 0 ∨ (0 : Int) = 1) ∧ (if ((xup s1 33 0 1 0) 33 0 1) = (0 : Int) then (xwr (((xup s1 33 0 1 0) 33 0 4) - ((xup s1 33 0 1 0) 33 0 2))) ≠ 0 ∧ (Q (xwr (Int.tdiv x2 (xwr (((xup s1 33 0 1 0) 33 0 4) - ((xup s1 33 0 1 0) 33 0 2))))) (xup s1 33 0 1 0)) else Q 0 (xup s1 33 0 1 0))) else if x1 = 1 then Ev d 112 0 [vR 33 0, vI 21] [] σ (fun v2 s2 => Ev d 113 0 [vI x1] [] s2 (fun v3 s3 => Ev d 117 0 [vR 33 0, vI v3, vI x2, vR 0 0] [] s3 (fun v4 s4 => if (s4 33 0 1) = (0 : Int) then Ev d 115 0 [vR 33 0, vI (s4 33 0 3), vI 1] [] s4 (fun v5 s5 => Q (xwr (v4 + v5)) s5) else Q 0 s4))) else Ev d 113 0 [vI x1] [] σ (fun v6 s6 => Ev d 117 0 [vR 33 0, vI v6, vI x2, vR 0 0] [] s6 (fun v7 s7 => Q v7 s7))) := EvN_eq [] 26 _ _ _ _ _ _ _
set_option maxRecDepth 100000 in
theorem b_H_clearTo_0 {d : Nat} {σ : xM} {Q : Int → xM → Prop} {i0 : Nat} {x1 : Int} {x2 : Int} : Ev d 119 0 [vR 36 i0, vI x1, vI x2, vR 0 0] [] σ Q = (Ev d 119 12 [vR 36 i0, vI x1, vI x2, vI 0] [] (xup (xup σ 36 i0 0 x1) 36 i0 1 x2) Q) := EvN_eq [12] 10 _ _ _ _ _ _ _
set_option maxRecDepth 100000 in
theorem b_H_clearTo_12 {d : Nat} {σ : xM} {Q : Int → xM → Prop} {i0 : Nat} {x1 : Int} {x2 : Int} {x3 : Int} : Ev d 119 12 [vR 36 i0, vI x1, vI x2, vI x3] [] σ Q = (if x3 < (24 : Int) then ((0 : Int) ≤ x3 ∧ x3 < 24) ∧ (Ev d 119 12 [vR 36 i0, vI x1, vI x2, vI (xwr (x3 + 1))] [] (xup σ 37 i0 x3.toNat 0) Q) else Q 0 σ) := EvN_eq [12] 12 _ _ _ _ _ _ _
set_option maxRecDepth 100000 in
theorem b_H_lowestBits_0 {d : Nat} {σ : xM} {Q : Int → xM → Prop} {i0 : Nat} {x1 : Int} : Ev d 120 0 [vR 36 i0, vI x1] [] σ Q = (if (σ 36 i0 0) = (8 : Int) then Q (xi2b x1) σ else if (σ 36 i0 0) = (16 : Int) then Q (xi2s x1) σ else Q x1 σ) := EvN_eq [] 13 _ _ _ _ _ _ _
set_option maxRecDepth 100000 in
theorem b_H_hasRun_0 {d : Nat} {σ : xM} {Q : Int → xM → Prop} {i0 : Nat} {x1 : Int} {x2 : Int} : Ev d 121 0 [vR 36 i0, vI x1, vI x2] [] σ Q = (if x1 < (0 : Int) then ((0 : Int) = 0 ∨ (0 : Int) = 1) ∧ Q 0 σ else if x2 < (0 : Int) then ((0 : Int) = 0 ∨ (0 : Int) = 1) ∧ Q 0 σ else if (σ 36 i0 1) < x2 then ((0 : Int) = 0 ∨ (0 : Int) = 1) ∧ Q 0 σ else if (xwr ((σ 36 i0 1) - x2)) < x1 then ((0 : Int) = 0 ∨ (0 : Int) = 1) ∧ Q 0 σ else ((1 : Int) = 0 ∨ (1 : Int) = 1) ∧ Q 1 σ) := EvN_eq [] 18 _ _ _ _ _ _ _
set_option maxRecDepth 100000 in
theorem b_H_startsLike_0 {d : Nat} {σ : xM} {Q : Int → xM → Prop} {i0 : Nat} {x2 : Int} : Ev d 122 0 [vR 36 i0, vR 38 0, vI x2, vR 0 0] [] σ Q = (if x2 < (σ 36 i0 1) then ((0 : Int) = 0 ∨ (0 : Int) = 1) ∧ Q 0 σ else if (7 : Int) < (σ 36 i0 1) then ((0 : Int) = 0 ∨ (0 : Int) = 1) ∧ Q 0 σ else Ev d 122 21 [vR 36 i0, vR 38 0, vI x2, vI 0] [] σ Q) := EvN_eq [21] 13 _ _ _ _ _ _ _
set_option maxRecDepth 100000 in
theorem b_H_startsLike_21 {d : Nat} {σ : xM} {Q : Int → xM → Prop} {i0 : Nat} {x2 : Int} {x3 : Int} : Ev d 122 21 [vR 36 i0, vR 38 0, vI x2, vI x3] [] σ Q = (if x3 < (σ 36 i0 1) then ((0 : Int) ≤ x3 ∧ x3 < 24) ∧ (((0 : Int) ≤ x3 ∧ x3 < 7) ∧ (if (σ 37 i0 x3.toNat) = (σ 38 0 x3.toNat) then Ev d 122 21 [vR 36 i0, vR 38 0, vI x2, vI (xwr (x3 + 1))] [] σ Q else ((0 : Int) = 0 ∨ (0 : Int) = 1) ∧ Q 0 σ)) else ((1 : Int) = 0 ∨ (1 : Int) = 1) ∧ Q 1 σ) := EvN_eq [21] 16 _ _ _ _ _ _ _
set_option maxRecDepth 100000 in
theorem b_I_bitCount_0 {d : Nat} {σ : xM} {Q : Int → xM → Prop} {x0 : Int} : Ev d 220 0 [vI x0] [] σ Q = (Q (xand (xwr ((xwr ((xand (xwr ((xwr ((xand (xwr (x0 - (xand (xush x0 1) 1431655765))) 858993459) + (xand (xush (xwr (x0 - (xand (xush x0 1) 1431655765))) 2) 858993459))) + (xush (xwr ((xand (xwr (x0 - (xand (xush x0 1) 1431655765))) 858993459) + (xand (xush (xwr (x0 - (xand (xush x0 1) 1431655765))) 2) 858993459))) 4))) 252645135) + (xush (xand (xwr ((xwr ((xand (xwr (x0 - (xand (xush x0 1) 1431655765))) 858993459) + (xand (xush (xwr (x0 - (xand (xush x0 1) 1431655765))) 2) 858993459))) + (xush (xwr ((xand (xwr (x0 - (xand (xush x0 1) 1431655765))) 858993459) + (xand (xush (xwr (x0 - (xand (xush x0 1) 1431655765))) 2) 858993459))) 4))) 252645135) 8))) + (xush (xwr ((xand (xwr ((xwr ((xand (xwr (x0 - (xand (xush x0 1) 1431655765))) 858993459) + (xand (xush (xwr (x0 - (xand (xush x0 1) 1431655765))) 2) 858993459))) + (xush (xwr ((xand (xwr (x0 - (xand (xush x0 1) 1431655765))) 858993459) + (xand (xush (xwr (x0 - (xand (xush x0 1) 1431655765))) 2) 858993459))) 4))) 252645135) + (xush (xand (xwr ((xwr ((xand (xwr (x0 - (xand (xush x0 1) 1431655765))) 858993459) + (xand (xush (xwr (x0 - (xand (xush x0 1) 1431655765))) 2) 858993459))) + (xush (xwr ((xand (xwr (x0 - (xand (xush x0 1) 1431655765))) 858993459) + (xand (xush (xwr (x0 - (xand (xush x0 1) 1431655765))) 2) 858993459))) 4))) 252645135) 8))) 16))) 63) σ) := EvN_eq [] 43 _ _ _ _ _ _ _
set_option maxRecDepth 100000 in
theorem b_G_length_0 {d : Nat} {σ : xM} {Q : Int → xM → Prop} : Ev (d + 1) 221 0 [vR 1 0] [] σ Q = (Ev d 224 0 [vR 1 0] [] σ (fun v1 s1 => Q (xshr (xblen 0) v1) s1)) := EvN_eq [] 8 _ _ _ _ _ _ _
set_option maxRecDepth 100000 in
theorem b_G_indexOf_0 {d : Nat} {σ : xM} {Q : Int → xM → Prop} {x1 : Int} : Ev (d + 1) 222 0 [vR 1 0, vI x1] [] σ Q = (Ev d 223 0 [vR 1 0, vI x1, vI 0] [] σ (fun v1 s1 => Q v1 s1)) := EvN_eq [] 6 _ _ _ _ _ _ _
set_option maxRecDepth 100000 in
theorem b_G_indexOf2_0 {d : Nat} {σ : xM} {Q : Int → xM → Prop} {x1 : Int} {x2 : Int} : Ev (d + 1) 223 0 [vR 1 0, vI x1, vI x2] [] σ Q = (Ev d 225 0 [vR 1 0] [] σ (fun v1 s1 => if v1 = (0 : Int) then Ev d 221 0 [vR 1 0] [] s1 (fun v2 s2 => False) else Ev d 221 0 [vR 1 0] [] s1 (fun v3 s3 => Ev d 227 0 [vR 2 0, vI x1, vI x2, vI v3] [] s3 (fun v4 s4 => Q v4 s4)))) := EvN_eq [] 13 _ _ _ _ _ _ _
set_option maxRecDepth 100000 in
theorem b_G_coder_0 {d : Nat} {σ : xM} {Q : Int → xM → Prop} : Ev d 224 0 [vR 1 0] [] σ Q = (if (1 : Int) = (0 : Int) then ((-128 : Int) ≤ 1 ∧ (1 : Int) ≤ 127) ∧ Q 1 σ else ((-128 : Int) ≤ 0 ∧ (0 : Int) ≤ 127) ∧ Q 0 σ) := EvN_eq [] 7 _ _ _ _ _ _ _
set_option maxRecDepth 100000 in
theorem b_G_isLatin1_0 {d : Nat} {σ : xM} {Q : Int → xM → Prop} : Ev d 225 0 [vR 1 0] [] σ Q = (if (1 : Int) = (0 : Int) then ((0 : Int) = 0 ∨ (0 : Int) = 1) ∧ Q 0 σ else if (0 : Int) = (0 : Int) then ((1 : Int) = 0 ∨ (1 : Int) = 1) ∧ Q 1 σ else ((0 : Int) = 0 ∨ (0 : Int) = 1) ∧ Q 0 σ) := EvN_eq [] 9 _ _ _ _ _ _ _
set_option maxRecDepth 100000 in
theorem b_N_canEncode_0 {d : Nat} {σ : xM} {Q : Int → xM → Prop} {x0 : Int} : Ev d 226 0 [vI x0] [] σ Q = (if x0 < (0 : Int) then ((0 : Int) = 0 ∨ (0 : Int) = 1) ∧ Q 0 σ else if (255 : Int) < x0 then ((0 : Int) = 0 ∨ (0 : Int) = 1) ∧ Q 0 σ else ((1 : Int) = 0 ∨ (1 : Int) = 1) ∧ Q 1 σ) := EvN_eq [] 9 _ _ _ _ _ _ _
set_option maxRecDepth 100000 in
theorem b_N_indexOf_0 {d : Nat} {σ : xM} {Q : Int → xM → Prop} {x1 : Int} {x2 : Int} {x3 : Int} : Ev (d + 1) 227 0 [vR 2 0, vI x1, vI x2, vI x3] [] σ Q = (Ev d 226 0 [vI x1] [] σ (fun v1 s1 => if v1 = (0 : Int) then Q (-1) s1 else if (if x2 < 0 then 0 else x2) < (if (xblen 0) < x3 then xblen 0 else x3) then Ev d 228 0 [vR 2 0, vI x1, vI (if x2 < 0 then 0 else x2), vI (if (xblen 0) < x3 then xblen 0 else x3), vR 0 0, vR 0 0] [] s1 (fun v2 s2 => Q v2 s2) else Q (-1) s1)) := EvN_eq [] 22 _ _ _ _ _ _ _
set_option maxRecDepth 100000 in
theorem b_N_indexOfChar_0 {d : Nat} {σ : xM} {Q : Int → xM → Prop} {x1 : Int} {x2 : Int} {x3 : Int} : Ev d 228 0 [vR 2 0, vI x1, vI x2, vI x3, vR 0 0, vR 0 0] [] σ Q = (Ev d 228 7 [vR 2 0, vI x1, vI x2, vI x3, vI (xi2b x1), vI x2] [] σ Q) := EvN_eq [7] 7 _ _ _ _ _ _ _
set_option maxRecDepth 100000 in
theorem b_N_indexOfChar_7 {d : Nat} {σ : xM} {Q : Int → xM → Prop} {x1 : Int} {x2 : Int} {x3 : Int} {x4 : Int} {x5 : Int} : Ev d 228 7 [vR 2 0, vI x1, vI x2, vI x3, vI x4, vI x5] [] σ Q = (if x5 < x3 then ((0 : Int) ≤ x5 ∧ x5 < xblen 0) ∧ (if (xbyt 0 x5.toNat) = x4 then Q x5 σ else Ev d 228 7 [vR 2 0, vI x1, vI x2, vI x3, vI x4, vI (xwr (x5 + 1))] [] σ Q) else Q (-1) σ) := EvN_eq [7] 12 _ _ _ _ _ _ _
end
section
/-! blocks: what the methods come to, printed by wip/whole/genb.py -/
set_option maxRecDepth 100000 in
theorem b_M_error_0 {d : Nat} {σ : xM} {Q : Int → xM → Prop} {x1 : Int} : Ev d 124 0 [vR 40 0, vI x1] [] σ Q = (((0 : Int) ≤ (xwr ((-1000000000) - x1)) ∧ (xwr ((-1000000000) - x1)) < 7) ∧ (((0 : Int) ≤ (xwr ((-1000000000) - x1)) ∧ (xwr ((-1000000000) - x1)) < 7) ∧ (Q x1 (xup σ 44 0 ((xwr ((-1000000000) - x1)).toNat) (xwr ((σ 44 0 ((xwr ((-1000000000) - x1)).toNat)) + 1)))))) := EvN_eq [] 13 _ _ _ _ _ _ _
set_option maxRecDepth 100000 in
theorem b_M_in_0 {d : Nat} {σ : xM} {Q : Int → xM → Prop} {x0 : Int} {x1 : Int} {x2 : Int} : Ev d 125 0 [vI x0, vI x1, vI x2] [] σ Q = (if x0 < x1 then ((0 : Int) = 0 ∨ (0 : Int) = 1) ∧ Q 0 σ else if x2 < x0 then ((0 : Int) = 0 ∨ (0 : Int) = 1) ∧ Q 0 σ else ((1 : Int) = 0 ∨ (1 : Int) = 1) ∧ Q 1 σ) := EvN_eq [] 10 _ _ _ _ _ _ _
set_option maxRecDepth 100000 in
theorem b_M_held_0 {d : Nat} {σ : xM} {Q : Int → xM → Prop} {x0 : Int} {x1 : Int} {x2 : Int} : Ev d 126 0 [vI x0, vI x1, vI x2] [] σ Q = (if x0 < x1 then Q x1 σ else if x2 < x0 then Q x2 σ else Q x0 σ) := EvN_eq [] 10 _ _ _ _ _ _ _
set_option maxRecDepth 100000 in
theorem b_M_copyAll_0 {d : Nat} {σ : xM} {Q : Int → xM → Prop} : Ev d 127 0 [vR 41 0, vR 42 0, vR 0 0] [] σ Q = (Ev d 127 2 [vR 41 0, vR 42 0, vI 0] [] σ Q) := EvN_eq [2] 4 _ _ _ _ _ _ _
set_option maxRecDepth 100000 in
theorem b_M_copyAll_2 {d : Nat} {σ : xM} {Q : Int → xM → Prop} {x2 : Int} : Ev d 127 2 [vR 41 0, vR 42 0, vI x2] [] σ Q = (if x2 < (410 : Int) then ((0 : Int) ≤ x2 ∧ x2 < 410) ∧ (((0 : Int) ≤ x2 ∧ x2 < 410) ∧ (Ev d 127 2 [vR 41 0, vR 42 0, vI (xwr (x2 + 1))] [] (xup σ 42 0 x2.toNat (σ 41 0 x2.toNat)) Q)) else Q 0 σ) := EvN_eq [2] 13 _ _ _ _ _ _ _
set_option maxRecDepth 100000 in
theorem b_M_copyAllA_0 {d : Nat} {σ : xM} {Q : Int → xM → Prop} : Ev d 127 0 [vR 42 0, vR 41 0, vR 0 0] [] σ Q = (Ev d 127 2 [vR 42 0, vR 41 0, vI 0] [] σ Q) := EvN_eq [2] 4 _ _ _ _ _ _ _
set_option maxRecDepth 100000 in
theorem b_M_copyAllA_2 {d : Nat} {σ : xM} {Q : Int → xM → Prop} {x2 : Int} : Ev d 127 2 [vR 42 0, vR 41 0, vI x2] [] σ Q = (if x2 < (410 : Int) then ((0 : Int) ≤ x2 ∧ x2 < 410) ∧ (((0 : Int) ≤ x2 ∧ x2 < 410) ∧ (Ev d 127 2 [vR 42 0, vR 41 0, vI (xwr (x2 + 1))] [] (xup σ 41 0 x2.toNat (σ 42 0 x2.toNat)) Q)) else Q 0 σ) := EvN_eq [2] 13 _ _ _ _ _ _ _
set_option maxRecDepth 100000 in
theorem b_M_copyAllB_0 {d : Nat} {σ : xM} {Q : Int → xM → Prop} : Ev d 127 0 [vR 41 0, vR 43 0, vR 0 0] [] σ Q = (Ev d 127 2 [vR 41 0, vR 43 0, vI 0] [] σ Q) := EvN_eq [2] 4 _ _ _ _ _ _ _
set_option maxRecDepth 100000 in
theorem b_M_copyAllB_2 {d : Nat} {σ : xM} {Q : Int → xM → Prop} {x2 : Int} : Ev d 127 2 [vR 41 0, vR 43 0, vI x2] [] σ Q = (if x2 < (410 : Int) then ((0 : Int) ≤ x2 ∧ x2 < 410) ∧ (((0 : Int) ≤ x2 ∧ x2 < 410) ∧ (Ev d 127 2 [vR 41 0, vR 43 0, vI (xwr (x2 + 1))] [] (xup σ 43 0 x2.toNat (σ 41 0 x2.toNat)) Q)) else Q 0 σ) := EvN_eq [2] 13 _ _ _ _ _ _ _
set_option maxRecDepth 100000 in
theorem b_M_copyAllC_0 {d : Nat} {σ : xM} {Q : Int → xM → Prop} : Ev d 127 0 [vR 43 0, vR 41 0, vR 0 0] [] σ Q = (Ev d 127 2 [vR 43 0, vR 41 0, vI 0] [] σ Q) := EvN_eq [2] 4 _ _ _ _ _ _ _
set_option maxRecDepth 100000 in
theorem b_M_copyAllC_2 {d : Nat} {σ : xM} {Q : Int → xM → Prop} {x2 : Int} : Ev d 127 2 [vR 43 0, vR 41 0, vI x2] [] σ Q = (if x2 < (410 : Int) then ((0 : Int) ≤ x2 ∧ x2 < 410) ∧ (((0 : Int) ≤ x2 ∧ x2 < 410) ∧ (Ev d 127 2 [vR 43 0, vR 41 0, vI (xwr (x2 + 1))] [] (xup σ 41 0 x2.toNat (σ 43 0 x2.toNat)) Q)) else Q 0 σ) := EvN_eq [2] 13 _ _ _ _ _ _ _
set_option maxRecDepth 100000 in
theorem b_M_thinks_0 {d : Nat} {σ : xM} {Q : Int → xM → Prop} : Ev (d + 1) 128 0 [vR 40 0] [] σ Q = (Ev d 127 0 [vR 41 0, vR 43 0, vR 0 0] [] σ (fun v1 s1 => Q 0 s1)) := EvN_eq [] 7 _ _ _ _ _ _ _
set_option maxRecDepth 100000 in
theorem b_M_putsBack_0 {d : Nat} {σ : xM} {Q : Int → xM → Prop} : Ev (d + 1) 129 0 [vR 40 0] [] σ Q = (Ev d 127 0 [vR 43 0, vR 41 0, vR 0 0] [] σ (fun v1 s1 => Q 0 s1)) := EvN_eq [] 7 _ _ _ _ _ _ _
set_option maxRecDepth 100000 in
theorem b_M_bits_0 {d : Nat} {σ : xM} {Q : Int → xM → Prop} {x0 : Int} : Ev d 130 0 [vI x0, vR 0 0, vR 0 0] [] σ Q = (Ev d 130 4 [vI x0, vI 0, vI x0] [] σ Q) := EvN_eq [4] 6 _ _ _ _ _ _ _
set_option maxRecDepth 100000 in
theorem b_M_bits_4 {d : Nat} {σ : xM} {Q : Int → xM → Prop} {x0 : Int} {x1 : Int} {x2 : Int} : Ev d 130 4 [vI x0, vI x1, vI x2] [] σ Q = (if x2 = (0 : Int) then Q x1 σ else Ev d 130 4 [vI x0, vI (xwr (x1 + 1)), vI (xand x2 (xwr (x2 - 1)))] [] σ Q) := EvN_eq [4] 12 _ _ _ _ _ _ _
set_option maxRecDepth 100000 in
theorem b_M_isPart_0 {d : Nat} {σ : xM} {Q : Int → xM → Prop} {x1 : Int} : Ev (d + 1) 131 0 [vR 40 0, vI x1] [] σ Q = (((0 : Int) ≤ 2 ∧ (2 : Int) < 410) ∧ (Ev d 125 0 [vI x1, vI 0, vI (xwr ((σ 41 0 (Int.toNat 2)) - 1))] [] σ (fun v1 s1 => (v1 = 0 ∨ v1 = 1) ∧ Q v1 s1))) := EvN_eq [] 11 _ _ _ _ _ _ _
set_option maxRecDepth 100000 in
theorem b_M_isChild_0 {d : Nat} {σ : xM} {Q : Int → xM → Prop} {x1 : Int} : Ev (d + 1) 132 0 [vR 40 0, vI x1] [] σ Q = (((0 : Int) ≤ 3 ∧ (3 : Int) < 410) ∧ (Ev d 125 0 [vI x1, vI 0, vI (xwr ((σ 41 0 (Int.toNat 3)) - 1))] [] σ (fun v1 s1 => (v1 = 0 ∨ v1 = 1) ∧ Q v1 s1))) := EvN_eq [] 11 _ _ _ _ _ _ _
set_option maxRecDepth 100000 in
theorem b_M_becomes_0 {d : Nat} {σ : xM} {Q : Int → xM → Prop} {x1 : Int} {x2 : Int} : Ev d 133 0 [vR 40 0, vI x1, vI x2, vR 0 0] [] σ Q = (((0 : Int) ≤ x1 ∧ x1 < 410) ∧ (((0 : Int) ≤ x1 ∧ x1 < 410) ∧ (Q (σ 41 0 x1.toNat) (xup σ 41 0 x1.toNat x2)))) := EvN_eq [] 13 _ _ _ _ _ _ _
set_option maxRecDepth 100000 in
theorem b_M_of_0 {d : Nat} {σ : xM} {Q : Int → xM → Prop} {x1 : Int} {x2 : Int} : Ev d 134 0 [vR 40 0, vI x1, vI x2] [] σ Q = (((0 : Int) ≤ (xwr ((xwr (7 + (xwr (2 * x1)))) + x2)) ∧ (xwr ((xwr (7 + (xwr (2 * x1)))) + x2)) < 410) ∧ (Q (σ 41 0 ((xwr ((xwr (7 + (xwr (2 * x1)))) + x2)).toNat)) σ)) := EvN_eq [] 12 _ _ _ _ _ _ _
set_option maxRecDepth 100000 in
theorem b_M_about_0 {d : Nat} {σ : xM} {Q : Int → xM → Prop} {x1 : Int} {x2 : Int} : Ev d 135 0 [vR 40 0, vI x1, vI x2] [] σ Q = (((0 : Int) ≤ (xwr ((xwr (21 + (xwr (9 * x1)))) + x2)) ∧ (xwr ((xwr (21 + (xwr (9 * x1)))) + x2)) < 410) ∧ (Q (σ 41 0 ((xwr ((xwr (21 + (xwr (9 * x1)))) + x2)).toNat)) σ)) := EvN_eq [] 12 _ _ _ _ _ _ _
set_option maxRecDepth 100000 in
theorem b_M_lets_0 {d : Nat} {σ : xM} {Q : Int → xM → Prop} {x1 : Int} {x2 : Int} {x3 : Int} : Ev d 136 0 [vR 40 0, vI x1, vI x2, vI x3] [] σ Q = (((0 : Int) ≤ (xwr ((xwr (21 + (xwr (9 * x1)))) + x2)) ∧ (xwr ((xwr (21 + (xwr (9 * x1)))) + x2)) < 410) ∧ (Q 0 (xup σ 41 0 ((xwr ((xwr (21 + (xwr (9 * x1)))) + x2)).toNat) x3))) := EvN_eq [] 13 _ _ _ _ _ _ _
set_option maxRecDepth 100000 in
theorem b_M_mayPlay_0 {d : Nat} {σ : xM} {Q : Int → xM → Prop} {x1 : Int} {x2 : Int} : Ev (d + 1) 137 0 [vR 40 0, vI x1, vI x2, vR 0 0, vR 0 0] [] σ Q = (Ev d 134 0 [vR 40 0, vI x2, vI 1] [] σ (fun v1 s1 => Ev d 135 0 [vR 40 0, vI x1, vI 1] [] s1 (fun v2 s2 => Ev d 135 0 [vR 40 0, vI x1, vI 3] [] s2 (fun v3 s3 => if v3 = (1 : Int) then ((0 : Int) = 0 ∨ (0 : Int) = 1) ∧ Q 0 s3 else Ev d 134 0 [vR 40 0, vI x2, vI 0] [] s3 (fun v4 s4 => if v4 = 1 then Ev d 135 0 [vR 40 0, vI x1, vI 0] [] s4 (fun v5 s5 => if v5 < v1 then ((0 : Int) = 0 ∨ (0 : Int) = 1) ∧ Q 0 s5 else ((1 : Int) = 0 ∨ (1 : Int) = 1) ∧ Q 1 s5) else if v4 = 2 then if v1 < v2 then ((0 : Int) = 0 ∨ (0 : Int) = 1) ∧ Q 0 s4 else ((1 : Int) = 0 ∨ (1 : Int) = 1) ∧ Q 1 s4 else if v4 = 3 then ((1 : Int) = 0 ∨ (1 : Int) = 1) ∧ Q 1 s4 else if v4 = 4 then Ev d 135 0 [vR 40 0, vI x1, vI 0] [] s4 (fun v6 s6 => if v6 < v1 then ((0 : Int) = 0 ∨ (0 : Int) = 1) ∧ Q 0 s6 else Ev d 135 0 [vR 40 0, vI x1, vI 2] [] s6 (fun v7 s7 => if v7 = (0 : Int) then ((1 : Int) = 0 ∨ (1 : Int) = 1) ∧ Q 1 s7 else ((0 : Int) = 0 ∨ (0 : Int) = 1) ∧ Q 0 s7)) else if v4 = 5 then if v1 < v2 then ((0 : Int) = 0 ∨ (0 : Int) = 1) ∧ Q 0 s4 else (2 : Int) ≠ 0 ∧ (if (xwr (Int.tdiv v1 2)) < v2 then ((1 : Int) = 0 ∨ (1 : Int) = 1) ∧ Q 1 s4 else ((0 : Int) = 0 ∨ (0 : Int) = 1) ∧ Q 0 s4) else if v4 = 6 then Ev d 135 0 [vR 40 0, vI x1, vI 2] [] s4 (fun v8 s8 => if v8 = (1 : Int) then ((1 : Int) = 0 ∨ (1 : Int) = 1) ∧ Q 1 s8 else if (4 : Int) < v1 then ((1 : Int) = 0 ∨ (1 : Int) = 1) ∧ Q 1 s8 else ((0 : Int) = 0 ∨ (0 : Int) = 1) ∧ Q 0 s8) else ((1 : Int) = 0 ∨ (1 : Int) = 1) ∧ Q 1 s4))))) := EvN_eq [] 36 _ _ _ _ _ _ _
set_option maxRecDepth 100000 in
theorem b_M_linesOf_0 {d : Nat} {σ : xM} {Q : Int → xM → Prop} {x1 : Int} : Ev (d + 1) 138 0 [vR 40 0, vI x1, vR 0 0] [] σ Q = (Ev d 134 0 [vR 40 0, vI x1, vI 1] [] σ (fun v1 s1 => Ev d 134 0 [vR 40 0, vI x1, vI 0] [] s1 (fun v2 s2 => if v2 = 1 then Q (xwr ((xwr (2 * v1)) + 1)) s2 else if v2 = 2 then (2 : Int) ≠ 0 ∧ (Q (xwr (Int.tdiv v1 2)) s2) else if v2 = 3 then Q 0 s2 else if v2 = 4 then ((0 : Int) ≤ 0 ∧ (0 : Int) < 410) ∧ ((3 : Int) ≠ 0 ∧ (Q (xwr ((xwr ((xwr (2 * v1)) + 1)) + (Int.tmod (s2 41 0 (Int.toNat 0)) 3))) s2)) else if v2 = 5 then (2 : Int) ≠ 0 ∧ (Q (xwr ((xwr (Int.tdiv v1 2)) + 1)) s2) else if v2 = 6 then Q 0 s2 else Q v1 s2))) := EvN_eq [] 24 _ _ _ _ _ _ _
set_option maxRecDepth 100000 in
theorem b_M_dearTo_0 {d : Nat} {σ : xM} {Q : Int → xM → Prop} {x1 : Int} {x2 : Int} : Ev d 139 0 [vR 40 0, vI x1, vI x2, vR 0 0] [] σ Q = (Ev d 139 2 [vR 40 0, vI x1, vI x2, vI 0] [] σ Q) := EvN_eq [2] 4 _ _ _ _ _ _ _
set_option maxRecDepth 100000 in
theorem b_M_dearTo_2 {d : Nat} {σ : xM} {Q : Int → xM → Prop} {x1 : Int} {x2 : Int} {x3 : Int} : Ev (d + 1) 139 2 [vR 40 0, vI x1, vI x2, vI x3] [] σ Q = (if x3 < (3 : Int) then Ev d 135 0 [vR 40 0, vI x1, vI (xwr (6 + x3))] [] σ (fun v1 s1 => if v1 = x2 then Q (xwr (3 - x3)) s1 else Ev (d + 1) 139 2 [vR 40 0, vI x1, vI x2, vI (xwr (x3 + 1))] [] s1 Q) else Q 0 σ) := EvN_eq [2] 16 _ _ _ _ _ _ _
set_option maxRecDepth 100000 in
theorem b_M_worthTo_0 {d : Nat} {σ : xM} {Q : Int → xM → Prop} {x1 : Int} {x2 : Int} : Ev (d + 1) 140 0 [vR 40 0, vI x1, vI x2] [] σ Q = (Ev d 139 0 [vR 40 0, vI x1, vI x2, vR 0 0] [] σ (fun v1 s1 => Ev d 135 0 [vR 40 0, vI x1, vI 4] [] s1 (fun v2 s2 => if v2 = x2 then Ev d 135 0 [vR 40 0, vI x1, vI 0] [] s2 (fun v3 s3 => Ev d 172 0 [vR 40 0, vI 0, vI v1, vI 1, vI v3, vR 0 0, vR 0 0] [] s3 (fun v4 s4 => Q v4 s4)) else Ev d 135 0 [vR 40 0, vI x1, vI 0] [] s2 (fun v5 s5 => Ev d 172 0 [vR 40 0, vI 0, vI v1, vI 0, vI v5, vR 0 0, vR 0 0] [] s5 (fun v6 s6 => Q v6 s6))))) := EvN_eq [] 21 _ _ _ _ _ _ _
set_option maxRecDepth 100000 in
theorem b_M_joyOf_0 {d : Nat} {σ : xM} {Q : Int → xM → Prop} {x1 : Int} : Ev (d + 1) 141 0 [vR 40 0, vI x1, vR 0 0] [] σ Q = (Ev d 135 0 [vR 40 0, vI x1, vI 5] [] σ (fun v1 s1 => if v1 < (0 : Int) then Ev d 135 0 [vR 40 0, vI x1, vI 2] [] s1 (fun v2 s2 => ((0 : Int) ≤ 0 ∧ (0 : Int) < 410) ∧ ((7 : Int) ≠ 0 ∧ (Ev d 172 0 [vR 40 0, vI 1, vI 0, vI v2, vI (Int.tmod (s2 41 0 (Int.toNat 0)) 7), vR 0 0, vR 0 0] [] s2 (fun v3 s3 => Q v3 s3)))) else Ev d 140 0 [vR 40 0, vI x1, vI v1] [] s1 (fun v4 s4 => Ev d 135 0 [vR 40 0, vI x1, vI 2] [] s4 (fun v5 s5 => ((0 : Int) ≤ 0 ∧ (0 : Int) < 410) ∧ ((7 : Int) ≠ 0 ∧ (Ev d 172 0 [vR 40 0, vI 1, vI v4, vI v5, vI (Int.tmod (s5 41 0 (Int.toNat 0)) 7), vR 0 0, vR 0 0] [] s5 (fun v6 s6 => Q v6 s6))))))) := EvN_eq [] 26 _ _ _ _ _ _ _
set_option maxRecDepth 100000 in
theorem b_M_joyOfAll_0 {d : Nat} {σ : xM} {Q : Int → xM → Prop} : Ev d 142 0 [vR 40 0, vR 0 0, vR 0 0] [] σ Q = (Ev d 142 4 [vR 40 0, vI 0, vI 0] [] σ Q) := EvN_eq [4] 6 _ _ _ _ _ _ _
set_option maxRecDepth 100000 in
theorem b_M_joyOfAll_4 {d : Nat} {σ : xM} {Q : Int → xM → Prop} {x1 : Int} {x2 : Int} : Ev (d + 1) 142 4 [vR 40 0, vI x1, vI x2] [] σ Q = (((0 : Int) ≤ 3 ∧ (3 : Int) < 410) ∧ (if x2 < (σ 41 0 (Int.toNat 3)) then Ev d 141 0 [vR 40 0, vI x2, vR 0 0] [] σ (fun v1 s1 => Ev (d + 1) 142 4 [vR 40 0, vI (xwr (x1 + v1)), vI (xwr (x2 + 1))] [] s1 Q) else Q x1 σ)) := EvN_eq [4] 16 _ _ _ _ _ _ _
set_option maxRecDepth 100000 in
theorem b_M_whoHas_0 {d : Nat} {σ : xM} {Q : Int → xM → Prop} {x1 : Int} : Ev d 143 0 [vR 40 0, vI x1, vR 0 0] [] σ Q = (Ev d 143 2 [vR 40 0, vI x1, vI 0] [] σ Q) := EvN_eq [2] 4 _ _ _ _ _ _ _
set_option maxRecDepth 100000 in
theorem b_M_whoHas_2 {d : Nat} {σ : xM} {Q : Int → xM → Prop} {x1 : Int} {x2 : Int} : Ev (d + 1) 143 2 [vR 40 0, vI x1, vI x2] [] σ Q = (((0 : Int) ≤ 3 ∧ (3 : Int) < 410) ∧ (if x2 < (σ 41 0 (Int.toNat 3)) then Ev d 135 0 [vR 40 0, vI x2, vI 5] [] σ (fun v1 s1 => if v1 = x1 then Q x2 s1 else Ev (d + 1) 143 2 [vR 40 0, vI x1, vI (xwr (x2 + 1))] [] s1 Q) else Q (-1) σ)) := EvN_eq [2] 16 _ _ _ _ _ _ _
set_option maxRecDepth 100000 in
theorem b_M_isKm_0 {d : Nat} {σ : xM} {Q : Int → xM → Prop} {x0 : Int} : Ev (d + 1) 144 0 [vI x0] [] σ Q = (Ev d 125 0 [vI x0, vI 0, vI 69] [] σ (fun v1 s1 => (v1 = 0 ∨ v1 = 1) ∧ Q v1 s1)) := EvN_eq [] 6 _ _ _ _ _ _ _
set_option maxRecDepth 100000 in
theorem b_M_part_0 {d : Nat} {σ : xM} {Q : Int → xM → Prop} {x1 : Int} : Ev (d + 1) 145 0 [vR 40 0, vI x1, vR 0 0] [] σ Q = (Ev d 144 0 [vI x1] [] σ (fun v1 s1 => if v1 = (0 : Int) then Ev d 124 0 [vR 40 0, vI (-1000000001)] [] s1 (fun v2 s2 => Q v2 s2) else ((0 : Int) ≤ 2 ∧ (2 : Int) < 410) ∧ (if (s1 41 0 (Int.toNat 2)) = (7 : Int) then Ev d 124 0 [vR 40 0, vI (-1000000004)] [] s1 (fun v3 s3 => Q v3 s3) else ((0 : Int) ≤ 2 ∧ (2 : Int) < 410) ∧ (((0 : Int) ≤ 2 ∧ (2 : Int) < 410) ∧ ((10 : Int) ≠ 0 ∧ (((0 : Int) ≤ (xwr (7 + (xwr (2 * (s1 41 0 (Int.toNat 2)))))) ∧ (xwr (7 + (xwr (2 * (s1 41 0 (Int.toNat 2)))))) < 410) ∧ ((10 : Int) ≠ 0 ∧ (((0 : Int) ≤ (xwr ((xwr (7 + (xwr (2 * (s1 41 0 (Int.toNat 2)))))) + 1)) ∧ (xwr ((xwr (7 + (xwr (2 * (s1 41 0 (Int.toNat 2)))))) + 1)) < 410) ∧ (Q (s1 41 0 (Int.toNat 2)) (xup (xup (xup s1 41 0 (Int.toNat 2) (xwr ((s1 41 0 (Int.toNat 2)) + 1))) 41 0 ((xwr (7 + (xwr (2 * (s1 41 0 (Int.toNat 2)))))).toNat) (xwr (Int.tdiv x1 10))) 41 0 ((xwr ((xwr (7 + (xwr (2 * (s1 41 0 (Int.toNat 2)))))) + 1)).toNat) (Int.tmod x1 10))))))))))) := EvN_eq [] 46 _ _ _ _ _ _ _
set_option maxRecDepth 100000 in
theorem b_M_whoMay_0 {d : Nat} {σ : xM} {Q : Int → xM → Prop} {x1 : Int} : Ev d 146 0 [vR 40 0, vI x1, vR 0 0, vR 0 0] [] σ Q = (Ev d 146 4 [vR 40 0, vI x1, vI 0, vI 0] [] σ Q) := EvN_eq [4] 6 _ _ _ _ _ _ _
set_option maxRecDepth 100000 in
theorem b_M_whoMay_4 {d : Nat} {σ : xM} {Q : Int → xM → Prop} {x1 : Int} {x2 : Int} {x3 : Int} : Ev (d + 1) 146 4 [vR 40 0, vI x1, vI x2, vI x3] [] σ Q = (((0 : Int) ≤ 3 ∧ (3 : Int) < 410) ∧ (if x3 < (σ 41 0 (Int.toNat 3)) then Ev d 137 0 [vR 40 0, vI x3, vI x1, vR 0 0, vR 0 0] [] σ (fun v1 s1 => if v1 = (0 : Int) then Ev (d + 1) 146 4 [vR 40 0, vI x1, vI (xior x2 0), vI (xwr (x3 + 1))] [] s1 Q else Ev (d + 1) 146 4 [vR 40 0, vI x1, vI (xior x2 (xshl 1 x3)), vI (xwr (x3 + 1))] [] s1 Q) else Q x2 σ)) := EvN_eq [4] 22 _ _ _ _ _ _ _
set_option maxRecDepth 100000 in
theorem b_M_partIs_0 {d : Nat} {σ : xM} {Q : Int → xM → Prop} {x1 : Int} {x2 : Int} : Ev (d + 1) 147 0 [vR 40 0, vI x1, vI x2] [] σ Q = (Ev d 131 0 [vR 40 0, vI x1] [] σ (fun v1 s1 => if v1 = (0 : Int) then Ev d 124 0 [vR 40 0, vI (-1000000001)] [] s1 (fun v2 s2 => Q v2 s2) else if x2 = 0 then Ev d 134 0 [vR 40 0, vI x1, vI x2] [] s1 (fun v3 s3 => Q v3 s3) else if x2 = 1 then Ev d 134 0 [vR 40 0, vI x1, vI x2] [] s1 (fun v4 s4 => Q v4 s4) else if x2 = 2 then Ev d 138 0 [vR 40 0, vI x1, vR 0 0] [] s1 (fun v5 s5 => Q v5 s5) else if x2 = 3 then Ev d 143 0 [vR 40 0, vI x1, vR 0 0] [] s1 (fun v6 s6 => Q v6 s6) else if x2 = 4 then Ev d 146 0 [vR 40 0, vI x1, vR 0 0, vR 0 0] [] s1 (fun v7 s7 => Q v7 s7) else Ev d 124 0 [vR 40 0, vI (-1000000001)] [] s1 (fun v8 s8 => Q v8 s8))) := EvN_eq [] 12 _ _ _ _ _ _ _
set_option maxRecDepth 100000 in
theorem b_M_become_0 {d : Nat} {σ : xM} {Q : Int → xM → Prop} {x1 : Int} {x2 : Int} : Ev (d + 1) 148 0 [vR 40 0, vI x1, vI x2] [] σ Q = (Ev d 131 0 [vR 40 0, vI x1] [] σ (fun v1 s1 => if v1 = (0 : Int) then Ev d 124 0 [vR 40 0, vI (-1000000001)] [] s1 (fun v2 s2 => Q v2 s2) else Ev d 144 0 [vI x2] [] s1 (fun v3 s3 => if v3 = (0 : Int) then Ev d 124 0 [vR 40 0, vI (-1000000001)] [] s3 (fun v4 s4 => Q v4 s4) else (10 : Int) ≠ 0 ∧ (((0 : Int) ≤ (xwr ((xwr (7 + (xwr (2 * x1)))) + 1)) ∧ (xwr ((xwr (7 + (xwr (2 * x1)))) + 1)) < 410) ∧ ((10 : Int) ≠ 0 ∧ (Ev d 133 0 [vR 40 0, vI (xwr (7 + (xwr (2 * x1)))), vI (xwr (Int.tdiv x2 10)), vR 0 0] [] (xup s3 41 0 ((xwr ((xwr (7 + (xwr (2 * x1)))) + 1)).toNat) (Int.tmod x2 10)) (fun v5 s5 => Q v5 s5))))))) := EvN_eq [] 32 _ _ _ _ _ _ _
set_option maxRecDepth 100000 in
theorem b_M_as_0 {d : Nat} {σ : xM} {Q : Int → xM → Prop} {x1 : Int} {x2 : Int} : Ev (d + 1) 149 0 [vR 40 0, vI x1, vI x2, vR 0 0, vR 0 0] [] σ Q = (Ev d 131 0 [vR 40 0, vI x1] [] σ (fun v1 s1 => if v1 = (0 : Int) then Ev d 124 0 [vR 40 0, vI (-1000000001)] [] s1 (fun v2 s2 => Q v2 s2) else Ev d 125 0 [vI x2, vI 0, vI 6] [] s1 (fun v3 s3 => if v3 = (0 : Int) then Ev d 124 0 [vR 40 0, vI (-1000000001)] [] s3 (fun v4 s4 => Q v4 s4) else Ev d 134 0 [vR 40 0, vI x1, vI 0] [] s3 (fun v5 s5 => if x2 = (0 : Int) then if (1 : Int) = (0 : Int) then Ev d 124 0 [vR 40 0, vI (-1000000005)] [] s5 (fun v6 s6 => Q v6 s6) else Ev d 134 0 [vR 40 0, vI x1, vI 1] [] s5 (fun v7 s7 => Q v7 s7) else if x2 = v5 then if (1 : Int) = (0 : Int) then Ev d 124 0 [vR 40 0, vI (-1000000005)] [] s5 (fun v8 s8 => Q v8 s8) else Ev d 134 0 [vR 40 0, vI x1, vI 1] [] s5 (fun v9 s9 => Q v9 s9) else if x2 = (1 : Int) then if v5 = (4 : Int) then if (1 : Int) = (0 : Int) then Ev d 124 0 [vR 40 0, vI (-1000000005)] [] s5 (fun v10 s10 => Q v10 s10) else Ev d 134 0 [vR 40 0, vI x1, vI 1] [] s5 (fun v11 s11 => Q v11 s11) else if x2 = (2 : Int) then if v5 = (5 : Int) then if (1 : Int) = (0 : Int) then Ev d 124 0 [vR 40 0, vI (-1000000005)] [] s5 (fun v12 s12 => Q v12 s12) else Ev d 134 0 [vR 40 0, vI x1, vI 1] [] s5 (fun v13 s13 => Q v13 s13) else if (0 : Int) = (0 : Int) then Ev d 124 0 [vR 40 0, vI (-1000000005)] [] s5 (fun v14 s14 => Q v14 s14) else Ev d 134 0 [vR 40 0, vI x1, vI 1] [] s5 (fun v15 s15 => Q v15 s15) else if (0 : Int) = (0 : Int) then Ev d 124 0 [vR 40 0, vI (-1000000005)] [] s5 (fun v16 s16 => Q v16 s16) else Ev d 134 0 [vR 40 0, vI x1, vI 1] [] s5 (fun v17 s17 => Q v17 s17) else if x2 = (2 : Int) then if v5 = (5 : Int) then if (1 : Int) = (0 : Int) then Ev d 124 0 [vR 40 0, vI (-1000000005)] [] s5 (fun v18 s18 => Q v18 s18) else Ev d 134 0 [vR 40 0, vI x1, vI 1] [] s5 (fun v19 s19 => Q v19 s19) else if (0 : Int) = (0 : Int) then Ev d 124 0 [vR 40 0, vI (-1000000005)] [] s5 (fun v20 s20 => Q v20 s20) else Ev d 134 0 [vR 40 0, vI x1, vI 1] [] s5 (fun v21 s21 => Q v21 s21) else if (0 : Int) = (0 : Int) then Ev d 124 0 [vR 40 0, vI (-1000000005)] [] s5 (fun v22 s22 => Q v22 s22) else Ev d 134 0 [vR 40 0, vI x1, vI 1] [] s5 (fun v23 s23 => Q v23 s23))))) := EvN_eq [] 43 _ _ _ _ _ _ _
set_option maxRecDepth 100000 in
theorem b_M_child_0 {d : Nat} {σ : xM} {Q : Int → xM → Prop} {x1 : Int} {x2 : Int} {x3 : Int} : Ev (d + 1) 150 0 [vR 40 0, vI x1, vI x2, vI x3, vR 0 0, vR 0 0] [] σ Q = (Ev d 125 0 [vI x1, vI 0, vI 9] [] σ (fun v1 s1 => if v1 = (0 : Int) then Ev d 124 0 [vR 40 0, vI (-1000000001)] [] s1 (fun v2 s2 => Q v2 s2) else Ev d 125 0 [vI x2, vI 1, vI 9] [] s1 (fun v3 s3 => if v3 = (0 : Int) then Ev d 124 0 [vR 40 0, vI (-1000000001)] [] s3 (fun v4 s4 => Q v4 s4) else Ev d 125 0 [vI x3, vI 0, vI 1] [] s3 (fun v5 s5 => if v5 = (0 : Int) then Ev d 124 0 [vR 40 0, vI (-1000000001)] [] s5 (fun v6 s6 => Q v6 s6) else ((0 : Int) ≤ 3 ∧ (3 : Int) < 410) ∧ (if (s5 41 0 (Int.toNat 3)) = (7 : Int) then Ev d 124 0 [vR 40 0, vI (-1000000004)] [] s5 (fun v7 s7 => Q v7 s7) else ((0 : Int) ≤ 3 ∧ (3 : Int) < 410) ∧ (((0 : Int) ≤ 3 ∧ (3 : Int) < 410) ∧ (Ev d 136 0 [vR 40 0, vI (s5 41 0 (Int.toNat 3)), vI 0, vI x1] [] (xup s5 41 0 (Int.toNat 3) (xwr ((s5 41 0 (Int.toNat 3)) + 1))) (fun v8 s8 => Ev d 136 0 [vR 40 0, vI (s5 41 0 (Int.toNat 3)), vI 1, vI x2] [] s8 (fun v9 s9 => Ev d 136 0 [vR 40 0, vI (s5 41 0 (Int.toNat 3)), vI 2, vI x3] [] s9 (fun v10 s10 => Ev d 136 0 [vR 40 0, vI (s5 41 0 (Int.toNat 3)), vI 3, vI 0] [] s10 (fun v11 s11 => Ev (d + 1) 150 103 [vR 40 0, vI x1, vI x2, vI x3, vI (s5 41 0 (Int.toNat 3)), vI 4] [] s11 Q))))))))))) := EvN_eq [103] 55 _ _ _ _ _ _ _
set_option maxRecDepth 100000 in
theorem b_M_child_103 {d : Nat} {σ : xM} {Q : Int → xM → Prop} {x1 : Int} {x2 : Int} {x3 : Int} {x4 : Int} {x5 : Int} : Ev (d + 1) 150 103 [vR 40 0, vI x1, vI x2, vI x3, vI x4, vI x5] [] σ Q = (if x5 < (9 : Int) then Ev d 136 0 [vR 40 0, vI x4, vI x5, vI (-1)] [] σ (fun v1 s1 => Ev (d + 1) 150 103 [vR 40 0, vI x1, vI x2, vI x3, vI x4, vI (xwr (x5 + 1))] [] s1 Q) else Q x4 σ) := EvN_eq [103] 12 _ _ _ _ _ _ _
set_option maxRecDepth 100000 in
theorem b_M_childIs_0 {d : Nat} {σ : xM} {Q : Int → xM → Prop} {x1 : Int} {x2 : Int} : Ev (d + 1) 151 0 [vR 40 0, vI x1, vI x2] [] σ Q = (Ev d 132 0 [vR 40 0, vI x1] [] σ (fun v1 s1 => if v1 = (0 : Int) then Ev d 124 0 [vR 40 0, vI (-1000000001)] [] s1 (fun v2 s2 => Q v2 s2) else Ev d 125 0 [vI x2, vI 0, vI 9] [] s1 (fun v3 s3 => if v3 = (0 : Int) then Ev d 124 0 [vR 40 0, vI (-1000000001)] [] s3 (fun v4 s4 => Q v4 s4) else if x2 < (9 : Int) then Ev d 135 0 [vR 40 0, vI x1, vI x2] [] s3 (fun v5 s5 => Q v5 s5) else Ev d 141 0 [vR 40 0, vI x1, vR 0 0] [] s3 (fun v6 s6 => Q v6 s6)))) := EvN_eq [] 19 _ _ _ _ _ _ _
set_option maxRecDepth 100000 in
theorem b_M_wishes_0 {d : Nat} {σ : xM} {Q : Int → xM → Prop} {x1 : Int} {x2 : Int} {x3 : Int} : Ev (d + 1) 152 0 [vR 40 0, vI x1, vI x2, vI x3, vR 0 0] [] σ Q = (Ev d 132 0 [vR 40 0, vI x1] [] σ (fun v1 s1 => if v1 = (0 : Int) then if (0 : Int) = (0 : Int) then Ev d 124 0 [vR 40 0, vI (-1000000001)] [] s1 (fun v2 s2 => Q v2 s2) else Ev d 133 0 [vR 40 0, vI (xwr ((xwr ((xwr (21 + (xwr (9 * x1)))) + 6)) + x2)), vI x3, vR 0 0] [] s1 (fun v3 s3 => Q v3 s3) else Ev d 125 0 [vI x2, vI 0, vI 2] [] s1 (fun v4 s4 => if v4 = (0 : Int) then if (0 : Int) = (0 : Int) then Ev d 124 0 [vR 40 0, vI (-1000000001)] [] s4 (fun v5 s5 => Q v5 s5) else Ev d 133 0 [vR 40 0, vI (xwr ((xwr ((xwr (21 + (xwr (9 * x1)))) + 6)) + x2)), vI x3, vR 0 0] [] s4 (fun v6 s6 => Q v6 s6) else if x3 = ((-1) : Int) then if (1 : Int) = (0 : Int) then Ev d 124 0 [vR 40 0, vI (-1000000001)] [] s4 (fun v7 s7 => Q v7 s7) else Ev d 133 0 [vR 40 0, vI (xwr ((xwr ((xwr (21 + (xwr (9 * x1)))) + 6)) + x2)), vI x3, vR 0 0] [] s4 (fun v8 s8 => Q v8 s8) else Ev d 131 0 [vR 40 0, vI x3] [] s4 (fun v9 s9 => if v9 = (0 : Int) then if (0 : Int) = (0 : Int) then Ev d 124 0 [vR 40 0, vI (-1000000001)] [] s9 (fun v10 s10 => Q v10 s10) else Ev d 133 0 [vR 40 0, vI (xwr ((xwr ((xwr (21 + (xwr (9 * x1)))) + 6)) + x2)), vI x3, vR 0 0] [] s9 (fun v11 s11 => Q v11 s11) else if (1 : Int) = (0 : Int) then Ev d 124 0 [vR 40 0, vI (-1000000001)] [] s9 (fun v12 s12 => Q v12 s12) else Ev d 133 0 [vR 40 0, vI (xwr ((xwr ((xwr (21 + (xwr (9 * x1)))) + 6)) + x2)), vI x3, vR 0 0] [] s9 (fun v13 s13 => Q v13 s13))))) := EvN_eq [] 36 _ _ _ _ _ _ _
set_option maxRecDepth 100000 in
theorem b_M_falls_0 {d : Nat} {σ : xM} {Q : Int → xM → Prop} {x1 : Int} {x2 : Int} : Ev (d + 1) 153 0 [vR 40 0, vI x1, vI x2] [] σ Q = (Ev d 132 0 [vR 40 0, vI x1] [] σ (fun v1 s1 => if v1 = (0 : Int) then Ev d 124 0 [vR 40 0, vI (-1000000001)] [] s1 (fun v2 s2 => Q v2 s2) else Ev d 125 0 [vI x2, vI 0, vI 1] [] s1 (fun v3 s3 => if v3 = (0 : Int) then Ev d 124 0 [vR 40 0, vI (-1000000001)] [] s3 (fun v4 s4 => Q v4 s4) else Ev d 133 0 [vR 40 0, vI (xwr ((xwr (21 + (xwr (9 * x1)))) + 3)), vI x2, vR 0 0] [] s3 (fun v5 s5 => Q v5 s5)))) := EvN_eq [] 22 _ _ _ _ _ _ _
set_option maxRecDepth 100000 in
theorem b_M_worth_0 {d : Nat} {σ : xM} {Q : Int → xM → Prop} {x1 : Int} {x2 : Int} : Ev (d + 1) 154 0 [vR 40 0, vI x1, vI x2] [] σ Q = (Ev d 132 0 [vR 40 0, vI x1] [] σ (fun v1 s1 => if v1 = (0 : Int) then Ev d 124 0 [vR 40 0, vI (-1000000001)] [] s1 (fun v2 s2 => Q v2 s2) else Ev d 131 0 [vR 40 0, vI x2] [] s1 (fun v3 s3 => if v3 = (0 : Int) then Ev d 124 0 [vR 40 0, vI (-1000000001)] [] s3 (fun v4 s4 => Q v4 s4) else Ev d 140 0 [vR 40 0, vI x1, vI x2] [] s3 (fun v5 s5 => Q v5 s5)))) := EvN_eq [] 15 _ _ _ _ _ _ _
set_option maxRecDepth 100000 in
theorem b_M_cast_0 {d : Nat} {σ : xM} {Q : Int → xM → Prop} {x1 : Int} {x2 : Int} : Ev (d + 1) 155 0 [vR 40 0, vI x1, vI x2, vR 0 0, vR 0 0] [] σ Q = (Ev d 132 0 [vR 40 0, vI x1] [] σ (fun v1 s1 => if v1 = (0 : Int) then Ev d 124 0 [vR 40 0, vI (-1000000001)] [] s1 (fun v2 s2 => Q v2 s2) else if x2 = ((-1) : Int) then if x2 < (0 : Int) then if x2 < (0 : Int) then if (1 : Int) = (0 : Int) then Ev d 124 0 [vR 40 0, vI (-1000000003)] [] s1 (fun v3 s3 => Q v3 s3) else Ev d 133 0 [vR 40 0, vI (xwr ((xwr (21 + (xwr (9 * x1)))) + 5)), vI x2, vR 0 0] [] s1 (fun v4 s4 => Q v4 s4) else Ev d 137 0 [vR 40 0, vI x1, vI x2, vR 0 0, vR 0 0] [] s1 (fun v5 s5 => if v5 = (0 : Int) then if (0 : Int) = (0 : Int) then Ev d 124 0 [vR 40 0, vI (-1000000003)] [] s5 (fun v6 s6 => Q v6 s6) else Ev d 133 0 [vR 40 0, vI (xwr ((xwr (21 + (xwr (9 * x1)))) + 5)), vI x2, vR 0 0] [] s5 (fun v7 s7 => Q v7 s7) else if ((-1) : Int) < (0 : Int) then if (1 : Int) = (0 : Int) then Ev d 124 0 [vR 40 0, vI (-1000000003)] [] s5 (fun v8 s8 => Q v8 s8) else Ev d 133 0 [vR 40 0, vI (xwr ((xwr (21 + (xwr (9 * x1)))) + 5)), vI x2, vR 0 0] [] s5 (fun v9 s9 => Q v9 s9) else if ((-1) : Int) = x1 then if (1 : Int) = (0 : Int) then Ev d 124 0 [vR 40 0, vI (-1000000003)] [] s5 (fun v10 s10 => Q v10 s10) else Ev d 133 0 [vR 40 0, vI (xwr ((xwr (21 + (xwr (9 * x1)))) + 5)), vI x2, vR 0 0] [] s5 (fun v11 s11 => Q v11 s11) else if (0 : Int) = (0 : Int) then Ev d 124 0 [vR 40 0, vI (-1000000003)] [] s5 (fun v12 s12 => Q v12 s12) else Ev d 133 0 [vR 40 0, vI (xwr ((xwr (21 + (xwr (9 * x1)))) + 5)), vI x2, vR 0 0] [] s5 (fun v13 s13 => Q v13 s13)) else Ev d 143 0 [vR 40 0, vI x2, vR 0 0] [] s1 (fun v14 s14 => if x2 < (0 : Int) then if (1 : Int) = (0 : Int) then Ev d 124 0 [vR 40 0, vI (-1000000003)] [] s14 (fun v15 s15 => Q v15 s15) else Ev d 133 0 [vR 40 0, vI (xwr ((xwr (21 + (xwr (9 * x1)))) + 5)), vI x2, vR 0 0] [] s14 (fun v16 s16 => Q v16 s16) else Ev d 137 0 [vR 40 0, vI x1, vI x2, vR 0 0, vR 0 0] [] s14 (fun v17 s17 => if v17 = (0 : Int) then if (0 : Int) = (0 : Int) then Ev d 124 0 [vR 40 0, vI (-1000000003)] [] s17 (fun v18 s18 => Q v18 s18) else Ev d 133 0 [vR 40 0, vI (xwr ((xwr (21 + (xwr (9 * x1)))) + 5)), vI x2, vR 0 0] [] s17 (fun v19 s19 => Q v19 s19) else if v14 < (0 : Int) then if (1 : Int) = (0 : Int) then Ev d 124 0 [vR 40 0, vI (-1000000003)] [] s17 (fun v20 s20 => Q v20 s20) else Ev d 133 0 [vR 40 0, vI (xwr ((xwr (21 + (xwr (9 * x1)))) + 5)), vI x2, vR 0 0] [] s17 (fun v21 s21 => Q v21 s21) else if v14 = x1 then if (1 : Int) = (0 : Int) then Ev d 124 0 [vR 40 0, vI (-1000000003)] [] s17 (fun v22 s22 => Q v22 s22) else Ev d 133 0 [vR 40 0, vI (xwr ((xwr (21 + (xwr (9 * x1)))) + 5)), vI x2, vR 0 0] [] s17 (fun v23 s23 => Q v23 s23) else if (0 : Int) = (0 : Int) then Ev d 124 0 [vR 40 0, vI (-1000000003)] [] s17 (fun v24 s24 => Q v24 s24) else Ev d 133 0 [vR 40 0, vI (xwr ((xwr (21 + (xwr (9 * x1)))) + 5)), vI x2, vR 0 0] [] s17 (fun v25 s25 => Q v25 s25))) else Ev d 131 0 [vR 40 0, vI x2] [] s1 (fun v26 s26 => if v26 = (0 : Int) then Ev d 124 0 [vR 40 0, vI (-1000000001)] [] s26 (fun v27 s27 => Q v27 s27) else if x2 < (0 : Int) then if x2 < (0 : Int) then if (1 : Int) = (0 : Int) then Ev d 124 0 [vR 40 0, vI (-1000000003)] [] s26 (fun v28 s28 => Q v28 s28) else Ev d 133 0 [vR 40 0, vI (xwr ((xwr (21 + (xwr (9 * x1)))) + 5)), vI x2, vR 0 0] [] s26 (fun v29 s29 => Q v29 s29) else Ev d 137 0 [vR 40 0, vI x1, vI x2, vR 0 0, vR 0 0] [] s26 (fun v30 s30 => if v30 = (0 : Int) then if (0 : Int) = (0 : Int) then Ev d 124 0 [vR 40 0, vI (-1000000003)] [] s30 (fun v31 s31 => Q v31 s31) else Ev d 133 0 [vR 40 0, vI (xwr ((xwr (21 + (xwr (9 * x1)))) + 5)), vI x2, vR 0 0] [] s30 (fun v32 s32 => Q v32 s32) else if ((-1) : Int) < (0 : Int) then if (1 : Int) = (0 : Int) then Ev d 124 0 [vR 40 0, vI (-1000000003)] [] s30 (fun v33 s33 => Q v33 s33) else Ev d 133 0 [vR 40 0, vI (xwr ((xwr (21 + (xwr (9 * x1)))) + 5)), vI x2, vR 0 0] [] s30 (fun v34 s34 => Q v34 s34) else if ((-1) : Int) = x1 then if (1 : Int) = (0 : Int) then Ev d 124 0 [vR 40 0, vI (-1000000003)] [] s30 (fun v35 s35 => Q v35 s35) else Ev d 133 0 [vR 40 0, vI (xwr ((xwr (21 + (xwr (9 * x1)))) + 5)), vI x2, vR 0 0] [] s30 (fun v36 s36 => Q v36 s36) else if (0 : Int) = (0 : Int) then Ev d 124 0 [vR 40 0, vI (-1000000003)] [] s30 (fun v37 s37 => Q v37 s37) else Ev d 133 0 [vR 40 0, vI (xwr ((xwr (21 + (xwr (9 * x1)))) + 5)), vI x2, vR 0 0] [] s30 (fun v38 s38 => Q v38 s38)) else Ev d 143 0 [vR 40 0, vI x2, vR 0 0] [] s26 (fun v39 s39 => if x2 < (0 : Int) then if (1 : Int) = (0 : Int) then Ev d 124 0 [vR 40 0, vI (-1000000003)] [] s39 (fun v40 s40 => Q v40 s40) else Ev d 133 0 [vR 40 0, vI (xwr ((xwr (21 + (xwr (9 * x1)))) + 5)), vI x2, vR 0 0] [] s39 (fun v41 s41 => Q v41 s41) else Ev d 137 0 [vR 40 0, vI x1, vI x2, vR 0 0, vR 0 0] [] s39 (fun v42 s42 => if v42 = (0 : Int) then if (0 : Int) = (0 : Int) then Ev d 124 0 [vR 40 0, vI (-1000000003)] [] s42 (fun v43 s43 => Q v43 s43) else Ev d 133 0 [vR 40 0, vI (xwr ((xwr (21 + (xwr (9 * x1)))) + 5)), vI x2, vR 0 0] [] s42 (fun v44 s44 => Q v44 s44) else if v39 < (0 : Int) then if (1 : Int) = (0 : Int) then Ev d 124 0 [vR 40 0, vI (-1000000003)] [] s42 (fun v45 s45 => Q v45 s45) else Ev d 133 0 [vR 40 0, vI (xwr ((xwr (21 + (xwr (9 * x1)))) + 5)), vI x2, vR 0 0] [] s42 (fun v46 s46 => Q v46 s46) else if v39 = x1 then if (1 : Int) = (0 : Int) then Ev d 124 0 [vR 40 0, vI (-1000000003)] [] s42 (fun v47 s47 => Q v47 s47) else Ev d 133 0 [vR 40 0, vI (xwr ((xwr (21 + (xwr (9 * x1)))) + 5)), vI x2, vR 0 0] [] s42 (fun v48 s48 => Q v48 s48) else if (0 : Int) = (0 : Int) then Ev d 124 0 [vR 40 0, vI (-1000000003)] [] s42 (fun v49 s49 => Q v49 s49) else Ev d 133 0 [vR 40 0, vI (xwr ((xwr (21 + (xwr (9 * x1)))) + 5)), vI x2, vR 0 0] [] s42 (fun v50 s50 => Q v50 s50)))))) := EvN_eq [] 47 _ _ _ _ _ _ _
set_option maxRecDepth 100000 in
theorem b_M_feed_0 {d : Nat} {σ : xM} {Q : Int → xM → Prop} {x1 : Int} {x2 : Int} : Ev (d + 1) 156 0 [vR 40 0, vL x1, vR 0 0, vI x2, vR 0 0] [] σ Q = (Ev d 125 0 [vI x2, vI 1, vI 8] [] σ (fun v1 s1 => if v1 = (0 : Int) then Ev d 124 0 [vR 40 0, vI (-1000000001)] [] s1 (fun v2 s2 => Q v2 s2) else ((0 : Int) ≤ 5 ∧ (5 : Int) < 410) ∧ (if (60 : Int) < (xwr ((s1 41 0 (Int.toNat 5)) + x2)) then Ev d 124 0 [vR 40 0, vI (-1000000004)] [] s1 (fun v3 s3 => Q v3 s3) else Ev (d + 1) 156 40 [vR 40 0, vL x1, vR 0 0, vI x2, vI 0] [] s1 Q))) := EvN_eq [40] 18 _ _ _ _ _ _ _
set_option maxRecDepth 100000 in
theorem b_M_feed_40 {d : Nat} {σ : xM} {Q : Int → xM → Prop} {x1 : Int} {wx2 : xV} {x3 : Int} {x4 : Int} : Ev d 156 40 [vR 40 0, vL x1, wx2, vI x3, vI x4] [] σ Q = (if x4 < x3 then ((0 : Int) ≤ 5 ∧ (5 : Int) < 410) ∧ (((0 : Int) ≤ (xwr (84 + (σ 41 0 (Int.toNat 5)))) ∧ (xwr (84 + (σ 41 0 (Int.toNat 5)))) < 410) ∧ (((0 : Int) ≤ 5 ∧ (5 : Int) < 410) ∧ (((0 : Int) ≤ 5 ∧ (5 : Int) < 410) ∧ (Ev d 156 40 [vR 40 0, vL x1, wx2, vI x3, vI (xwr (x4 + 1))] [] (xup (xup σ 41 0 ((xwr (84 + (σ 41 0 (Int.toNat 5)))).toNat) (xl2i (xland (xlshr x1 (xwr (8 * x4))) 255))) 41 0 (Int.toNat 5) (xwr (((xup σ 41 0 ((xwr (84 + (σ 41 0 (Int.toNat 5)))).toNat) (xl2i (xland (xlshr x1 (xwr (8 * x4))) 255))) 41 0 (Int.toNat 5)) + 1))) Q)))) else ((0 : Int) ≤ 5 ∧ (5 : Int) < 410) ∧ (Q (σ 41 0 (Int.toNat 5)) σ)) := EvN_eq [40] 32 _ _ _ _ _ _ _
set_option maxRecDepth 100000 in
theorem b_M_look_0 {d : Nat} {σ : xM} {Q : Int → xM → Prop} : Ev d 157 0 [vR 40 0] [] σ Q = (((0 : Int) ≤ 5 ∧ (5 : Int) < 410) ∧ (if (σ 40 0 2) < (σ 41 0 (Int.toNat 5)) then ((0 : Int) ≤ (xwr (84 + (σ 40 0 2))) ∧ (xwr (84 + (σ 40 0 2))) < 410) ∧ (Q (σ 41 0 ((xwr (84 + (σ 40 0 2))).toNat)) σ) else Q (-1) σ)) := EvN_eq [] 17 _ _ _ _ _ _ _
set_option maxRecDepth 100000 in
theorem b_M_step_0 {d : Nat} {σ : xM} {Q : Int → xM → Prop} {x1 : Int} {x2 : Int} : Ev d 158 0 [vR 40 0, vI x1, vI x2] [] σ Q = (if (σ 40 0 1) < (60 : Int) then ((0 : Int) ≤ (σ 40 0 1) ∧ (σ 40 0 1) < 60) ∧ (((0 : Int) ≤ ((xup σ 48 0 ((σ 40 0 1).toNat) x1) 40 0 1) ∧ ((xup σ 48 0 ((σ 40 0 1).toNat) x1) 40 0 1) < 60) ∧ (Q 0 (xup (xup (xup σ 48 0 ((σ 40 0 1).toNat) x1) 49 0 (((xup σ 48 0 ((σ 40 0 1).toNat) x1) 40 0 1).toNat) x2) 40 0 1 (xwr (((xup (xup σ 48 0 ((σ 40 0 1).toNat) x1) 49 0 (((xup σ 48 0 ((σ 40 0 1).toNat) x1) 40 0 1).toNat) x2) 40 0 1) + 1))))) else Q 0 σ) := EvN_eq [] 26 _ _ _ _ _ _ _
set_option maxRecDepth 100000 in
theorem b_M_nameOf_0 {d : Nat} {σ : xM} {Q : Int → xM → Prop} {x1 : Int} : Ev d 159 0 [vR 40 0, vI x1] [] σ Q = (if x1 = 108 then if (σ 40 0 5) = (0 : Int) then if x1 = (108 : Int) then Q 1 σ else Q 2 σ else Q (-1) σ else if x1 = 109 then Q (-1) σ else if x1 = 110 then Q (-1) σ else if x1 = 111 then Q (-1) σ else if x1 = 112 then Q (-1) σ else if x1 = 113 then Q (-1) σ else if x1 = 114 then Q (-1) σ else if x1 = 115 then if (σ 40 0 5) = (1 : Int) then if x1 = (115 : Int) then Q 1 σ else Q 2 σ else Q (-1) σ else if x1 = 116 then Q (-1) σ else if x1 = 117 then Q (-1) σ else if x1 = 118 then if (σ 40 0 5) = (0 : Int) then if x1 = (108 : Int) then Q 1 σ else Q 2 σ else Q (-1) σ else if x1 = 119 then Q 0 σ else if x1 = 120 then Q (-1) σ else if x1 = 121 then if (σ 40 0 5) = (1 : Int) then if x1 = (115 : Int) then Q 1 σ else Q 2 σ else Q (-1) σ else Q (-1) σ) := EvN_eq [] 13 _ _ _ _ _ _ _
set_option maxRecDepth 100000 in
theorem b_M_number_0 {d : Nat} {σ : xM} {Q : Int → xM → Prop} : Ev d 160 0 [vR 40 0, vR 0 0, vR 0 0] [] σ Q = (Ev d 160 4 [vR 40 0, vI 0, vI 0] [] σ Q) := EvN_eq [4] 6 _ _ _ _ _ _ _
set_option maxRecDepth 100000 in
theorem b_M_number_4 {d : Nat} {σ : xM} {Q : Int → xM → Prop} {x1 : Int} {x2 : Int} : Ev (d + 1) 160 4 [vR 40 0, vI x1, vI x2] [] σ Q = (if x2 < (4 : Int) then Ev d 157 0 [vR 40 0] [] σ (fun v1 s1 => Ev d 125 0 [vI v1, vI 48, vI 57] [] s1 (fun v2 s2 => if v2 = (0 : Int) then if x2 = (0 : Int) then ((1 : Int) = 0 ∨ (1 : Int) = 1) ∧ (Ev d 158 0 [vR 40 0, vI 1, vI x1] [] (xup s2 40 0 4 1) (fun v3 s3 => Q 0 s3)) else ((0 : Int) = 0 ∨ (0 : Int) = 1) ∧ (Ev d 158 0 [vR 40 0, vI 1, vI x1] [] (xup s2 40 0 4 0) (fun v4 s4 => Q 0 s4)) else Ev d 157 0 [vR 40 0] [] s2 (fun v5 s5 => Ev (d + 1) 160 4 [vR 40 0, vI (xwr ((xwr ((xwr (10 * x1)) + v5)) - 48)), vI (xwr (x2 + 1))] [] (xup s5 40 0 2 (xwr ((s5 40 0 2) + 1))) Q))) else if x2 = (0 : Int) then ((1 : Int) = 0 ∨ (1 : Int) = 1) ∧ (Ev d 158 0 [vR 40 0, vI 1, vI x1] [] (xup σ 40 0 4 1) (fun v6 s6 => Q 0 s6)) else ((0 : Int) = 0 ∨ (0 : Int) = 1) ∧ (Ev d 158 0 [vR 40 0, vI 1, vI x1] [] (xup σ 40 0 4 0) (fun v7 s7 => Q 0 s7))) := EvN_eq [4] 28 _ _ _ _ _ _ _
set_option maxRecDepth 100000 in
theorem b_M_opens_0 {d : Nat} {σ : xM} {Q : Int → xM → Prop} {x1 : Int} : Ev (d + 1) 161 0 [vR 40 0, vI x1] [] σ Q = (if (σ 40 0 3) = (5 : Int) then ((1 : Int) = 0 ∨ (1 : Int) = 1) ∧ (Q 0 (xup σ 40 0 4 1)) else if x1 = (33 : Int) then Ev d 162 0 [vR 40 0, vR 0 0, vR 0 0] [] (xup (xup σ 40 0 3 (xwr ((σ 40 0 3) + 1))) 40 0 2 (xwr (((xup σ 40 0 3 (xwr ((σ 40 0 3) + 1))) 40 0 2) + 1))) (fun v1 s1 => Ev d 158 0 [vR 40 0, vI 3, vI 0] [] s1 (fun v2 s2 => Q 0 (xup s2 40 0 3 (xwr ((s2 40 0 3) - 1))))) else Ev d 167 0 [vR 40 0] [] (xup (xup σ 40 0 3 (xwr ((σ 40 0 3) + 1))) 40 0 2 (xwr (((xup σ 40 0 3 (xwr ((σ 40 0 3) + 1))) 40 0 2) + 1))) (fun v3 s3 => if (s3 40 0 4) = (0 : Int) then Ev d 157 0 [vR 40 0] [] s3 (fun v4 s4 => if v4 = (41 : Int) then ((0 : Int) = 0 ∨ (0 : Int) = 1) ∧ (if ((xup s4 40 0 4 0) 40 0 4) = (0 : Int) then Q 0 (xup (xup (xup s4 40 0 4 0) 40 0 2 (xwr (((xup s4 40 0 4 0) 40 0 2) + 1))) 40 0 3 (xwr (((xup (xup s4 40 0 4 0) 40 0 2 (xwr (((xup s4 40 0 4 0) 40 0 2) + 1))) 40 0 3) - 1))) else Q 0 (xup (xup (xup s4 40 0 4 0) 40 0 2 (xwr (((xup s4 40 0 4 0) 40 0 2) + 0))) 40 0 3 (xwr (((xup (xup s4 40 0 4 0) 40 0 2 (xwr (((xup s4 40 0 4 0) 40 0 2) + 0))) 40 0 3) - 1)))) else ((1 : Int) = 0 ∨ (1 : Int) = 1) ∧ (if ((xup s4 40 0 4 1) 40 0 4) = (0 : Int) then Q 0 (xup (xup (xup s4 40 0 4 1) 40 0 2 (xwr (((xup s4 40 0 4 1) 40 0 2) + 1))) 40 0 3 (xwr (((xup (xup s4 40 0 4 1) 40 0 2 (xwr (((xup s4 40 0 4 1) 40 0 2) + 1))) 40 0 3) - 1))) else Q 0 (xup (xup (xup s4 40 0 4 1) 40 0 2 (xwr (((xup s4 40 0 4 1) 40 0 2) + 0))) 40 0 3 (xwr (((xup (xup s4 40 0 4 1) 40 0 2 (xwr (((xup s4 40 0 4 1) 40 0 2) + 0))) 40 0 3) - 1))))) else ((1 : Int) = 0 ∨ (1 : Int) = 1) ∧ (if ((xup s3 40 0 4 1) 40 0 4) = (0 : Int) then Q 0 (xup (xup (xup s3 40 0 4 1) 40 0 2 (xwr (((xup s3 40 0 4 1) 40 0 2) + 1))) 40 0 3 (xwr (((xup (xup s3 40 0 4 1) 40 0 2 (xwr (((xup s3 40 0 4 1) 40 0 2) + 1))) 40 0 3) - 1))) else Q 0 (xup (xup (xup s3 40 0 4 1) 40 0 2 (xwr (((xup s3 40 0 4 1) 40 0 2) + 0))) 40 0 3 (xwr (((xup (xup s3 40 0 4 1) 40 0 2 (xwr (((xup s3 40 0 4 1) 40 0 2) + 0))) 40 0 3) - 1)))))) := EvN_eq [] 50 _ _ _ _ _ _ _
set_option maxRecDepth 100000 in
theorem b_M_one_0 {d : Nat} {σ : xM} {Q : Int → xM → Prop} : Ev (d + 1) 162 0 [vR 40 0, vR 0 0, vR 0 0] [] σ Q = (Ev d 157 0 [vR 40 0] [] σ (fun v1 s1 => Ev d 159 0 [vR 40 0, vI v1] [] s1 (fun v2 s2 => if v2 < (0 : Int) then if v1 = (33 : Int) then Ev d 161 0 [vR 40 0, vI v1] [] s2 (fun v3 s3 => Q 0 s3) else if v1 = (40 : Int) then Ev d 161 0 [vR 40 0, vI v1] [] s2 (fun v4 s4 => Q 0 s4) else Ev d 160 0 [vR 40 0, vR 0 0, vR 0 0] [] s2 (fun v5 s5 => Q 0 s5) else Ev d 158 0 [vR 40 0, vI 2, vI v2] [] (xup s2 40 0 2 (xwr ((s2 40 0 2) + 1))) (fun v6 s6 => Q 0 s6)))) := EvN_eq [] 22 _ _ _ _ _ _ _
set_option maxRecDepth 100000 in
theorem b_M_times_0 {d : Nat} {σ : xM} {Q : Int → xM → Prop} : Ev (d + 1) 163 0 [vR 40 0, vR 0 0] [] σ Q = (Ev d 162 0 [vR 40 0, vR 0 0, vR 0 0] [] σ (fun v1 s1 => Ev (d + 1) 163 4 [vR 40 0, vR 0 0] [] s1 Q)) := EvN_eq [4] 2 _ _ _ _ _ _ _
set_option maxRecDepth 100000 in
theorem b_M_times_4 {d : Nat} {σ : xM} {Q : Int → xM → Prop} {wx1 : xV} : Ev (d + 1) 163 4 [vR 40 0, wx1] [] σ Q = (if (σ 40 0 4) = (0 : Int) then Ev d 157 0 [vR 40 0] [] σ (fun v1 s1 => if v1 = (42 : Int) then Ev d 157 0 [vR 40 0] [] s1 (fun v2 s2 => Ev d 162 0 [vR 40 0, vR 0 0, vR 0 0] [] (xup s2 40 0 2 (xwr ((s2 40 0 2) + 1))) (fun v3 s3 => Ev d 158 0 [vR 40 0, vI v2, vI 0] [] s3 (fun v4 s4 => Ev (d + 1) 163 4 [vR 40 0, vI v2] [] s4 Q))) else Ev d 157 0 [vR 40 0] [] s1 (fun v5 s5 => if v5 = (47 : Int) then Ev d 157 0 [vR 40 0] [] s5 (fun v6 s6 => Ev d 162 0 [vR 40 0, vR 0 0, vR 0 0] [] (xup s6 40 0 2 (xwr ((s6 40 0 2) + 1))) (fun v7 s7 => Ev d 158 0 [vR 40 0, vI v6, vI 0] [] s7 (fun v8 s8 => Ev (d + 1) 163 4 [vR 40 0, vI v6] [] s8 Q))) else Ev d 157 0 [vR 40 0] [] s5 (fun v9 s9 => if v9 = (37 : Int) then Ev d 157 0 [vR 40 0] [] s9 (fun v10 s10 => Ev d 162 0 [vR 40 0, vR 0 0, vR 0 0] [] (xup s10 40 0 2 (xwr ((s10 40 0 2) + 1))) (fun v11 s11 => Ev d 158 0 [vR 40 0, vI v10, vI 0] [] s11 (fun v12 s12 => Ev (d + 1) 163 4 [vR 40 0, vI v10] [] s12 Q))) else Q 0 s9))) else Q 0 σ) := EvN_eq [4] 33 _ _ _ _ _ _ _
set_option maxRecDepth 100000 in
theorem b_M_sum_0 {d : Nat} {σ : xM} {Q : Int → xM → Prop} : Ev (d + 1) 164 0 [vR 40 0, vR 0 0] [] σ Q = (Ev d 163 0 [vR 40 0, vR 0 0] [] σ (fun v1 s1 => Ev (d + 1) 164 4 [vR 40 0, vR 0 0] [] s1 Q)) := EvN_eq [4] 2 _ _ _ _ _ _ _
set_option maxRecDepth 100000 in
theorem b_M_sum_4 {d : Nat} {σ : xM} {Q : Int → xM → Prop} {wx1 : xV} : Ev (d + 1) 164 4 [vR 40 0, wx1] [] σ Q = (if (σ 40 0 4) = (0 : Int) then Ev d 157 0 [vR 40 0] [] σ (fun v1 s1 => if v1 = (43 : Int) then Ev d 157 0 [vR 40 0] [] s1 (fun v2 s2 => Ev d 163 0 [vR 40 0, vR 0 0] [] (xup s2 40 0 2 (xwr ((s2 40 0 2) + 1))) (fun v3 s3 => Ev d 158 0 [vR 40 0, vI v2, vI 0] [] s3 (fun v4 s4 => Ev (d + 1) 164 4 [vR 40 0, vI v2] [] s4 Q))) else Ev d 157 0 [vR 40 0] [] s1 (fun v5 s5 => if v5 = (45 : Int) then Ev d 157 0 [vR 40 0] [] s5 (fun v6 s6 => Ev d 163 0 [vR 40 0, vR 0 0] [] (xup s6 40 0 2 (xwr ((s6 40 0 2) + 1))) (fun v7 s7 => Ev d 158 0 [vR 40 0, vI v6, vI 0] [] s7 (fun v8 s8 => Ev (d + 1) 164 4 [vR 40 0, vI v6] [] s8 Q))) else Q 0 s5)) else Q 0 σ) := EvN_eq [4] 29 _ _ _ _ _ _ _
set_option maxRecDepth 100000 in
theorem b_M_compares_0 {d : Nat} {σ : xM} {Q : Int → xM → Prop} : Ev (d + 1) 165 0 [vR 40 0, vR 0 0] [] σ Q = (Ev d 164 0 [vR 40 0, vR 0 0] [] σ (fun v1 s1 => Ev d 157 0 [vR 40 0] [] s1 (fun v2 s2 => if (s2 40 0 4) = (0 : Int) then if v2 = (60 : Int) then Ev d 164 0 [vR 40 0, vR 0 0] [] (xup s2 40 0 2 (xwr ((s2 40 0 2) + 1))) (fun v3 s3 => Ev d 158 0 [vR 40 0, vI v2, vI 0] [] s3 (fun v4 s4 => Q 0 s4)) else if v2 = (61 : Int) then Ev d 164 0 [vR 40 0, vR 0 0] [] (xup s2 40 0 2 (xwr ((s2 40 0 2) + 1))) (fun v5 s5 => Ev d 158 0 [vR 40 0, vI v2, vI 0] [] s5 (fun v6 s6 => Q 0 s6)) else if v2 = (62 : Int) then Ev d 164 0 [vR 40 0, vR 0 0] [] (xup s2 40 0 2 (xwr ((s2 40 0 2) + 1))) (fun v7 s7 => Ev d 158 0 [vR 40 0, vI v2, vI 0] [] s7 (fun v8 s8 => Q 0 s8)) else Q 0 s2 else Q 0 s2))) := EvN_eq [] 31 _ _ _ _ _ _ _
set_option maxRecDepth 100000 in
theorem b_M_all_0 {d : Nat} {σ : xM} {Q : Int → xM → Prop} : Ev (d + 1) 166 0 [vR 40 0] [] σ Q = (Ev d 165 0 [vR 40 0, vR 0 0] [] σ (fun v1 s1 => Ev (d + 1) 166 4 [vR 40 0] [] s1 Q)) := EvN_eq [4] 2 _ _ _ _ _ _ _
set_option maxRecDepth 100000 in
theorem b_M_all_4 {d : Nat} {σ : xM} {Q : Int → xM → Prop} : Ev (d + 1) 166 4 [vR 40 0] [] σ Q = (if (σ 40 0 4) = (0 : Int) then Ev d 157 0 [vR 40 0] [] σ (fun v1 s1 => if v1 = (38 : Int) then Ev d 165 0 [vR 40 0, vR 0 0] [] (xup s1 40 0 2 (xwr ((s1 40 0 2) + 1))) (fun v2 s2 => Ev d 158 0 [vR 40 0, vI 38, vI 0] [] s2 (fun v3 s3 => Ev (d + 1) 166 4 [vR 40 0] [] s3 Q)) else Q 0 s1) else Q 0 σ) := EvN_eq [4] 22 _ _ _ _ _ _ _
set_option maxRecDepth 100000 in
theorem b_M_any_0 {d : Nat} {σ : xM} {Q : Int → xM → Prop} : Ev (d + 1) 167 0 [vR 40 0] [] σ Q = (Ev d 166 0 [vR 40 0] [] σ (fun v1 s1 => Ev (d + 1) 167 4 [vR 40 0] [] s1 Q)) := EvN_eq [4] 2 _ _ _ _ _ _ _
set_option maxRecDepth 100000 in
theorem b_M_any_4 {d : Nat} {σ : xM} {Q : Int → xM → Prop} : Ev (d + 1) 167 4 [vR 40 0] [] σ Q = (if (σ 40 0 4) = (0 : Int) then Ev d 157 0 [vR 40 0] [] σ (fun v1 s1 => if v1 = (124 : Int) then Ev d 166 0 [vR 40 0] [] (xup s1 40 0 2 (xwr ((s1 40 0 2) + 1))) (fun v2 s2 => Ev d 158 0 [vR 40 0, vI 124, vI 0] [] s2 (fun v3 s3 => Ev (d + 1) 167 4 [vR 40 0] [] s3 Q)) else Q 0 s1) else Q 0 σ) := EvN_eq [4] 22 _ _ _ _ _ _ _
set_option maxRecDepth 100000 in
theorem b_M_text_0 {d : Nat} {σ : xM} {Q : Int → xM → Prop} {x1 : Int} : Ev (d + 1) 168 0 [vR 40 0, vI x1, vR 0 0, vR 0 0] [] σ Q = (Ev d 125 0 [vI x1, vI 0, vI 1] [] σ (fun v1 s1 => if v1 = (0 : Int) then Ev d 124 0 [vR 40 0, vI (-1000000001)] [] s1 (fun v2 s2 => Q v2 s2) else ((0 : Int) = 0 ∨ (0 : Int) = 1) ∧ (Ev d 167 0 [vR 40 0] [] (xup (xup (xup (xup (xup s1 40 0 5 x1) 40 0 1 0) 40 0 2 0) 40 0 3 0) 40 0 4 0) (fun v3 s3 => if (s3 40 0 4) = (0 : Int) then ((0 : Int) ≤ 5 ∧ (5 : Int) < 410) ∧ (if (s3 40 0 2) < (s3 41 0 (Int.toNat 5)) then ((1 : Int) = 0 ∨ (1 : Int) = 1) ∧ (((0 : Int) ≤ 5 ∧ (5 : Int) < 410) ∧ (if ((xup (xup s3 40 0 4 1) 41 0 (Int.toNat 5) 0) 40 0 4) = (0 : Int) then ((0 : Int) ≤ (xwr (168 + (xwr (121 * x1)))) ∧ (xwr (168 + (xwr (121 * x1)))) < 410) ∧ (Ev (d + 1) 168 117 [vR 40 0, vI x1, vI (xwr (168 + (xwr (121 * x1)))), vI 0] [] (xup (xup (xup s3 40 0 4 1) 41 0 (Int.toNat 5) 0) 41 0 ((xwr (168 + (xwr (121 * x1)))).toNat) ((xup (xup s3 40 0 4 1) 41 0 (Int.toNat 5) 0) 40 0 1)) Q) else Q (xwr ((-10) - ((xup (xup s3 40 0 4 1) 41 0 (Int.toNat 5) 0) 40 0 2))) (xup (xup s3 40 0 4 1) 41 0 (Int.toNat 5) 0))) else ((0 : Int) = 0 ∨ (0 : Int) = 1) ∧ (((0 : Int) ≤ 5 ∧ (5 : Int) < 410) ∧ (if ((xup (xup s3 40 0 4 0) 41 0 (Int.toNat 5) 0) 40 0 4) = (0 : Int) then ((0 : Int) ≤ (xwr (168 + (xwr (121 * x1)))) ∧ (xwr (168 + (xwr (121 * x1)))) < 410) ∧ (Ev (d + 1) 168 117 [vR 40 0, vI x1, vI (xwr (168 + (xwr (121 * x1)))), vI 0] [] (xup (xup (xup s3 40 0 4 0) 41 0 (Int.toNat 5) 0) 41 0 ((xwr (168 + (xwr (121 * x1)))).toNat) ((xup (xup s3 40 0 4 0) 41 0 (Int.toNat 5) 0) 40 0 1)) Q) else Q (xwr ((-10) - ((xup (xup s3 40 0 4 0) 41 0 (Int.toNat 5) 0) 40 0 2))) (xup (xup s3 40 0 4 0) 41 0 (Int.toNat 5) 0)))) else ((1 : Int) = 0 ∨ (1 : Int) = 1) ∧ (((0 : Int) ≤ 5 ∧ (5 : Int) < 410) ∧ (if ((xup (xup s3 40 0 4 1) 41 0 (Int.toNat 5) 0) 40 0 4) = (0 : Int) then ((0 : Int) ≤ (xwr (168 + (xwr (121 * x1)))) ∧ (xwr (168 + (xwr (121 * x1)))) < 410) ∧ (Ev (d + 1) 168 117 [vR 40 0, vI x1, vI (xwr (168 + (xwr (121 * x1)))), vI 0] [] (xup (xup (xup s3 40 0 4 1) 41 0 (Int.toNat 5) 0) 41 0 ((xwr (168 + (xwr (121 * x1)))).toNat) ((xup (xup s3 40 0 4 1) 41 0 (Int.toNat 5) 0) 40 0 1)) Q) else Q (xwr ((-10) - ((xup (xup s3 40 0 4 1) 41 0 (Int.toNat 5) 0) 40 0 2))) (xup (xup s3 40 0 4 1) 41 0 (Int.toNat 5) 0))))))) := EvN_eq [117] 60 _ _ _ _ _ _ _
set_option maxRecDepth 100000 in
theorem b_M_text_117 {d : Nat} {σ : xM} {Q : Int → xM → Prop} {x1 : Int} {x2 : Int} {x3 : Int} : Ev d 168 117 [vR 40 0, vI x1, vI x2, vI x3] [] σ Q = (if x3 < (σ 40 0 1) then ((0 : Int) ≤ x3 ∧ x3 < 60) ∧ (((0 : Int) ≤ (xwr ((xwr (x2 + 1)) + x3)) ∧ (xwr ((xwr (x2 + 1)) + x3)) < 410) ∧ (((0 : Int) ≤ x3 ∧ x3 < 60) ∧ (((0 : Int) ≤ (xwr ((xwr (x2 + 61)) + x3)) ∧ (xwr ((xwr (x2 + 61)) + x3)) < 410) ∧ (Ev d 168 117 [vR 40 0, vI x1, vI x2, vI (xwr (x3 + 1))] [] (xup (xup σ 41 0 ((xwr ((xwr (x2 + 1)) + x3)).toNat) (σ 48 0 x3.toNat)) 41 0 ((xwr ((xwr (x2 + 61)) + x3)).toNat) ((xup σ 41 0 ((xwr ((xwr (x2 + 1)) + x3)).toNat) (σ 48 0 x3.toNat)) 49 0 x3.toNat)) Q)))) else Q 1 σ) := EvN_eq [117] 32 _ _ _ _ _ _ _
set_option maxRecDepth 100000 in
theorem b_M_untell_0 {d : Nat} {σ : xM} {Q : Int → xM → Prop} {x1 : Int} : Ev (d + 1) 169 0 [vR 40 0, vI x1] [] σ Q = (Ev d 125 0 [vI x1, vI 0, vI 1] [] σ (fun v1 s1 => if v1 = (0 : Int) then Ev d 124 0 [vR 40 0, vI (-1000000001)] [] s1 (fun v2 s2 => Q v2 s2) else Ev d 133 0 [vR 40 0, vI (xwr (168 + (xwr (121 * x1)))), vI 0, vR 0 0] [] s1 (fun v3 s3 => if (0 : Int) < v3 then Q 1 s3 else Q 0 s3))) := EvN_eq [] 18 _ _ _ _ _ _ _
set_option maxRecDepth 100000 in
theorem b_M_twoOf_0 {d : Nat} {σ : xM} {Q : Int → xM → Prop} {x0 : Int} {x1 : Int} {x2 : Int} : Ev d 170 0 [vI x0, vI x1, vI x2] [] σ Q = (if x0 = 37 then if x2 = (0 : Int) then Q 0 σ else x2 ≠ 0 ∧ (Q (Int.tmod x1 x2) σ) else if x0 = 38 then if x1 = (0 : Int) then Q 0 σ else if x2 = (0 : Int) then Q 0 σ else Q 1 σ else if x0 = 39 then if x1 = (0 : Int) then if x2 = (0 : Int) then Q 0 σ else Q 1 σ else Q 1 σ else if x0 = 40 then if x1 = (0 : Int) then if x2 = (0 : Int) then Q 0 σ else Q 1 σ else Q 1 σ else if x0 = 41 then if x1 = (0 : Int) then if x2 = (0 : Int) then Q 0 σ else Q 1 σ else Q 1 σ else if x0 = 42 then Q (xwr (x1 * x2)) σ else if x0 = 43 then Q (xwr (x1 + x2)) σ else if x0 = 44 then if x1 = (0 : Int) then if x2 = (0 : Int) then Q 0 σ else Q 1 σ else Q 1 σ else if x0 = 45 then Q (xwr (x1 - x2)) σ else if x0 = 46 then if x1 = (0 : Int) then if x2 = (0 : Int) then Q 0 σ else Q 1 σ else Q 1 σ else if x0 = 47 then if x2 = (0 : Int) then Q 0 σ else x2 ≠ 0 ∧ (Q (xwr (Int.tdiv x1 x2)) σ) else if x0 = 48 then if x1 = (0 : Int) then if x2 = (0 : Int) then Q 0 σ else Q 1 σ else Q 1 σ else if x0 = 49 then if x1 = (0 : Int) then if x2 = (0 : Int) then Q 0 σ else Q 1 σ else Q 1 σ else if x0 = 50 then if x1 = (0 : Int) then if x2 = (0 : Int) then Q 0 σ else Q 1 σ else Q 1 σ else if x0 = 51 then if x1 = (0 : Int) then if x2 = (0 : Int) then Q 0 σ else Q 1 σ else Q 1 σ else if x0 = 52 then if x1 = (0 : Int) then if x2 = (0 : Int) then Q 0 σ else Q 1 σ else Q 1 σ else if x0 = 53 then if x1 = (0 : Int) then if x2 = (0 : Int) then Q 0 σ else Q 1 σ else Q 1 σ else if x0 = 54 then if x1 = (0 : Int) then if x2 = (0 : Int) then Q 0 σ else Q 1 σ else Q 1 σ else if x0 = 55 then if x1 = (0 : Int) then if x2 = (0 : Int) then Q 0 σ else Q 1 σ else Q 1 σ else if x0 = 56 then if x1 = (0 : Int) then if x2 = (0 : Int) then Q 0 σ else Q 1 σ else Q 1 σ else if x0 = 57 then if x1 = (0 : Int) then if x2 = (0 : Int) then Q 0 σ else Q 1 σ else Q 1 σ else if x0 = 58 then if x1 = (0 : Int) then if x2 = (0 : Int) then Q 0 σ else Q 1 σ else Q 1 σ else if x0 = 59 then if x1 = (0 : Int) then if x2 = (0 : Int) then Q 0 σ else Q 1 σ else Q 1 σ else if x0 = 60 then if x1 < x2 then Q 1 σ else Q 0 σ else if x0 = 61 then if x1 = x2 then Q 1 σ else Q 0 σ else if x0 = 62 then if x2 < x1 then Q 1 σ else Q 0 σ else if x1 = (0 : Int) then if x2 = (0 : Int) then Q 0 σ else Q 1 σ else Q 1 σ) := EvN_eq [] 10 _ _ _ _ _ _ _
set_option maxRecDepth 100000 in
theorem b_M_works_0 {d : Nat} {σ : xM} {Q : Int → xM → Prop} {x1 : Int} : Ev d 171 0 [vR 40 0, vI x1, vR 0 0, vR 0 0, vR 0 0] [] σ Q = (Ev d 171 4 [vR 40 0, vI x1, vI 0, vI 0, vR 0 0] [] σ Q) := EvN_eq [4] 6 _ _ _ _ _ _ _
set_option maxRecDepth 100000 in
theorem b_M_works_4 {d : Nat} {σ : xM} {Q : Int → xM → Prop} {x1 : Int} {x2 : Int} {x3 : Int} {wx4 : xV} : Ev (d + 1) 171 4 [vR 40 0, vI x1, vI x2, vI x3, wx4] [] σ Q = (((0 : Int) ≤ x1 ∧ x1 < 410) ∧ (if x3 < (σ 41 0 x1.toNat) then ((0 : Int) ≤ (xwr ((xwr (x1 + 1)) + x3)) ∧ (xwr ((xwr (x1 + 1)) + x3)) < 410) ∧ (if (σ 41 0 ((xwr ((xwr (x1 + 1)) + x3)).toNat)) = (1 : Int) then if (σ 41 0 ((xwr ((xwr (x1 + 1)) + x3)).toNat)) = (1 : Int) then ((0 : Int) ≤ (xwr ((xwr (x1 + 61)) + x3)) ∧ (xwr ((xwr (x1 + 61)) + x3)) < 410) ∧ (((0 : Int) ≤ x2 ∧ x2 < 60) ∧ (Ev (d + 1) 171 4 [vR 40 0, vI x1, vI (xwr (x2 + 1)), vI (xwr (x3 + 1)), vI (σ 41 0 ((xwr ((xwr (x1 + 1)) + x3)).toNat))] [] (xup σ 51 0 x2.toNat (σ 41 0 ((xwr ((xwr (x1 + 61)) + x3)).toNat))) Q)) else ((0 : Int) ≤ (xwr ((xwr (x1 + 61)) + x3)) ∧ (xwr ((xwr (x1 + 61)) + x3)) < 410) ∧ (((0 : Int) ≤ (σ 41 0 ((xwr ((xwr (x1 + 61)) + x3)).toNat)) ∧ (σ 41 0 ((xwr ((xwr (x1 + 61)) + x3)).toNat)) < 3) ∧ (((0 : Int) ≤ x2 ∧ x2 < 60) ∧ (Ev (d + 1) 171 4 [vR 40 0, vI x1, vI (xwr (x2 + 1)), vI (xwr (x3 + 1)), vI (σ 41 0 ((xwr ((xwr (x1 + 1)) + x3)).toNat))] [] (xup σ 51 0 x2.toNat (σ 50 0 ((σ 41 0 ((xwr ((xwr (x1 + 61)) + x3)).toNat)).toNat))) Q))) else if (σ 41 0 ((xwr ((xwr (x1 + 1)) + x3)).toNat)) = (2 : Int) then if (σ 41 0 ((xwr ((xwr (x1 + 1)) + x3)).toNat)) = (1 : Int) then ((0 : Int) ≤ (xwr ((xwr (x1 + 61)) + x3)) ∧ (xwr ((xwr (x1 + 61)) + x3)) < 410) ∧ (((0 : Int) ≤ x2 ∧ x2 < 60) ∧ (Ev (d + 1) 171 4 [vR 40 0, vI x1, vI (xwr (x2 + 1)), vI (xwr (x3 + 1)), vI (σ 41 0 ((xwr ((xwr (x1 + 1)) + x3)).toNat))] [] (xup σ 51 0 x2.toNat (σ 41 0 ((xwr ((xwr (x1 + 61)) + x3)).toNat))) Q)) else ((0 : Int) ≤ (xwr ((xwr (x1 + 61)) + x3)) ∧ (xwr ((xwr (x1 + 61)) + x3)) < 410) ∧ (((0 : Int) ≤ (σ 41 0 ((xwr ((xwr (x1 + 61)) + x3)).toNat)) ∧ (σ 41 0 ((xwr ((xwr (x1 + 61)) + x3)).toNat)) < 3) ∧ (((0 : Int) ≤ x2 ∧ x2 < 60) ∧ (Ev (d + 1) 171 4 [vR 40 0, vI x1, vI (xwr (x2 + 1)), vI (xwr (x3 + 1)), vI (σ 41 0 ((xwr ((xwr (x1 + 1)) + x3)).toNat))] [] (xup σ 51 0 x2.toNat (σ 50 0 ((σ 41 0 ((xwr ((xwr (x1 + 61)) + x3)).toNat)).toNat))) Q))) else if (σ 41 0 ((xwr ((xwr (x1 + 1)) + x3)).toNat)) = (3 : Int) then ((0 : Int) ≤ (xwr (x2 - 1)) ∧ (xwr (x2 - 1)) < 60) ∧ (if (σ 51 0 ((xwr (x2 - 1)).toNat)) = (0 : Int) then ((0 : Int) ≤ (xwr (x2 - 1)) ∧ (xwr (x2 - 1)) < 60) ∧ (Ev (d + 1) 171 4 [vR 40 0, vI x1, vI x2, vI (xwr (x3 + 1)), vI (σ 41 0 ((xwr ((xwr (x1 + 1)) + x3)).toNat))] [] (xup σ 51 0 ((xwr (x2 - 1)).toNat) 1) Q) else ((0 : Int) ≤ (xwr (x2 - 1)) ∧ (xwr (x2 - 1)) < 60) ∧ (Ev (d + 1) 171 4 [vR 40 0, vI x1, vI x2, vI (xwr (x3 + 1)), vI (σ 41 0 ((xwr ((xwr (x1 + 1)) + x3)).toNat))] [] (xup σ 51 0 ((xwr (x2 - 1)).toNat) 0) Q)) else ((0 : Int) ≤ (xwr ((xwr (x2 + (-1))) - 1)) ∧ (xwr ((xwr (x2 + (-1))) - 1)) < 60) ∧ (((0 : Int) ≤ (xwr (x2 + (-1))) ∧ (xwr (x2 + (-1))) < 60) ∧ (Ev d 170 0 [vI (σ 41 0 ((xwr ((xwr (x1 + 1)) + x3)).toNat)), vI (σ 51 0 ((xwr ((xwr (x2 + (-1))) - 1)).toNat)), vI (σ 51 0 ((xwr (x2 + (-1))).toNat))] [] σ (fun v1 s1 => ((0 : Int) ≤ (xwr ((xwr (x2 + (-1))) - 1)) ∧ (xwr ((xwr (x2 + (-1))) - 1)) < 60) ∧ (Ev (d + 1) 171 4 [vR 40 0, vI x1, vI (xwr (x2 + (-1))), vI (xwr (x3 + 1)), vI (σ 41 0 ((xwr ((xwr (x1 + 1)) + x3)).toNat))] [] (xup s1 51 0 ((xwr ((xwr (x2 + (-1))) - 1)).toNat) v1) Q))))) else ((0 : Int) ≤ 0 ∧ (0 : Int) < 60) ∧ (Q (σ 51 0 (Int.toNat 0)) σ))) := EvN_eq [4] 47 _ _ _ _ _ _ _
set_option maxRecDepth 100000 in
theorem b_M_gives_0 {d : Nat} {σ : xM} {Q : Int → xM → Prop} {x1 : Int} {x2 : Int} {x3 : Int} {x4 : Int} : Ev (d + 1) 172 0 [vR 40 0, vI x1, vI x2, vI x3, vI x4, vR 0 0, vR 0 0] [] σ Q = (((0 : Int) ≤ 0 ∧ (0 : Int) < 3) ∧ (((0 : Int) ≤ 1 ∧ (1 : Int) < 3) ∧ (((0 : Int) ≤ 2 ∧ (2 : Int) < 3) ∧ (((0 : Int) ≤ (xwr (168 + (xwr (121 * x1)))) ∧ (xwr (168 + (xwr (121 * x1)))) < 410) ∧ (if (0 : Int) < ((xup (xup (xup σ 50 0 (Int.toNat 0) x2) 50 0 (Int.toNat 1) x3) 50 0 (Int.toNat 2) x4) 41 0 ((xwr (168 + (xwr (121 * x1)))).toNat)) then Ev d 171 0 [vR 40 0, vI (xwr (168 + (xwr (121 * x1)))), vR 0 0, vR 0 0, vR 0 0] [] (xup (xup (xup σ 50 0 (Int.toNat 0) x2) 50 0 (Int.toNat 1) x3) 50 0 (Int.toNat 2) x4) (fun v1 s1 => if x1 = (0 : Int) then Ev d 126 0 [vI v1, vI 0, vI 99] [] s1 (fun v2 s2 => Q v2 s2) else Ev d 126 0 [vI v1, vI (-99), vI 99] [] s1 (fun v3 s3 => Q v3 s3)) else if x1 = (0 : Int) then if x1 = (0 : Int) then Ev d 126 0 [vI (xwr (10 * x2)), vI 0, vI 99] [] (xup (xup (xup σ 50 0 (Int.toNat 0) x2) 50 0 (Int.toNat 1) x3) 50 0 (Int.toNat 2) x4) (fun v4 s4 => Q v4 s4) else Ev d 126 0 [vI (xwr (10 * x2)), vI (-99), vI 99] [] (xup (xup (xup σ 50 0 (Int.toNat 0) x2) 50 0 (Int.toNat 1) x3) 50 0 (Int.toNat 2) x4) (fun v5 s5 => Q v5 s5) else if x1 = (0 : Int) then Ev d 126 0 [vI x2, vI 0, vI 99] [] (xup (xup (xup σ 50 0 (Int.toNat 0) x2) 50 0 (Int.toNat 1) x3) 50 0 (Int.toNat 2) x4) (fun v6 s6 => Q v6 s6) else Ev d 126 0 [vI x2, vI (-99), vI 99] [] (xup (xup (xup σ 50 0 (Int.toNat 0) x2) 50 0 (Int.toNat 1) x3) 50 0 (Int.toNat 2) x4) (fun v7 s7 => Q v7 s7)))))) := EvN_eq [] 42 _ _ _ _ _ _ _
set_option maxRecDepth 100000 in
theorem b_M_law_0 {d : Nat} {σ : xM} {Q : Int → xM → Prop} {x1 : Int} {x2 : Int} {x3 : Int} {x4 : Int} : Ev (d + 1) 173 0 [vR 40 0, vI x1, vI x2, vI x3, vI x4] [] σ Q = (Ev d 125 0 [vI x1, vI 0, vI 1] [] σ (fun v1 s1 => if v1 = (0 : Int) then Ev d 124 0 [vR 40 0, vI (-1000000001)] [] s1 (fun v2 s2 => Q v2 s2) else Ev d 172 0 [vR 40 0, vI x1, vI x2, vI x3, vI x4, vR 0 0, vR 0 0] [] s1 (fun v3 s3 => Q v3 s3))) := EvN_eq [] 14 _ _ _ _ _ _ _
set_option maxRecDepth 100000 in
theorem b_M_plays_0 {d : Nat} {σ : xM} {Q : Int → xM → Prop} : Ev (d + 1) 174 0 [vR 40 0, vR 0 0, vR 0 0, vR 0 0] [] σ Q = (Ev d 142 0 [vR 40 0, vR 0 0, vR 0 0] [] σ (fun v1 s1 => ((0 : Int) ≤ 4 ∧ (4 : Int) < 410) ∧ (Ev d 126 0 [vI (xwr ((s1 41 0 (Int.toNat 4)) + v1)), vI (-99999), vI 99999] [] s1 (fun v2 s2 => ((0 : Int) ≤ 4 ∧ (4 : Int) < 410) ∧ (Ev (d + 1) 174 28 [vR 40 0, vI v1, vI 0, vR 0 0] [] (xup s2 41 0 (Int.toNat 4) v2) Q))))) := EvN_eq [28] 20 _ _ _ _ _ _ _
set_option maxRecDepth 100000 in
theorem b_M_plays_28 {d : Nat} {σ : xM} {Q : Int → xM → Prop} {x1 : Int} {x2 : Int} {wx3 : xV} : Ev (d + 1) 174 28 [vR 40 0, vI x1, vI x2, wx3] [] σ Q = (((0 : Int) ≤ 3 ∧ (3 : Int) < 410) ∧ (if x2 < (σ 41 0 (Int.toNat 3)) then Ev d 135 0 [vR 40 0, vI x2, vI 5] [] σ (fun v1 s1 => if v1 < (0 : Int) then Ev d 135 0 [vR 40 0, vI x2, vI 4] [] s1 (fun v2 s2 => Ev d 136 0 [vR 40 0, vI x2, vI 4, vI v2] [] s2 (fun v3 s3 => Ev d 136 0 [vR 40 0, vI x2, vI 5, vI (-1)] [] s3 (fun v4 s4 => Ev (d + 1) 174 28 [vR 40 0, vI x1, vI (xwr (x2 + 1)), vI v1] [] s4 Q))) else Ev d 136 0 [vR 40 0, vI x2, vI 4, vI v1] [] s1 (fun v5 s5 => Ev d 136 0 [vR 40 0, vI x2, vI 5, vI (-1)] [] s5 (fun v6 s6 => Ev (d + 1) 174 28 [vR 40 0, vI x1, vI (xwr (x2 + 1)), vI v1] [] s6 Q))) else ((0 : Int) ≤ 0 ∧ (0 : Int) < 410) ∧ (((0 : Int) ≤ 0 ∧ (0 : Int) < 410) ∧ (Q x1 (xup σ 41 0 (Int.toNat 0) (xwr ((σ 41 0 (Int.toNat 0)) + 1))))))) := EvN_eq [28] 31 _ _ _ _ _ _ _
set_option maxRecDepth 100000 in
theorem b_M_play_0 {d : Nat} {σ : xM} {Q : Int → xM → Prop} : Ev (d + 1) 175 0 [vR 40 0] [] σ Q = (((0 : Int) ≤ 0 ∧ (0 : Int) < 410) ∧ (if (σ 41 0 (Int.toNat 0)) = (9999 : Int) then Ev d 124 0 [vR 40 0, vI (-1000000003)] [] σ (fun v1 s1 => Q v1 s1) else Ev d 174 0 [vR 40 0, vR 0 0, vR 0 0, vR 0 0] [] σ (fun v2 s2 => Q v2 s2))) := EvN_eq [] 12 _ _ _ _ _ _ _
set_option maxRecDepth 100000 in
theorem b_M_draw_0 {d : Nat} {σ : xM} {Q : Int → xM → Prop} : Ev d 176 0 [vR 40 0] [] σ Q = (((0 : Int) ≤ 1 ∧ (1 : Int) < 410) ∧ (((0 : Int) ≤ 1 ∧ (1 : Int) < 410) ∧ (((0 : Int) ≤ 1 ∧ (1 : Int) < 410) ∧ (Q (xush ((xup σ 41 0 (Int.toNat 1) (xwr ((xwr ((σ 41 0 (Int.toNat 1)) * 1103515245)) + 12345))) 41 0 (Int.toNat 1)) 8) (xup σ 41 0 (Int.toNat 1) (xwr ((xwr ((σ 41 0 (Int.toNat 1)) * 1103515245)) + 12345))))))) := EvN_eq [] 20 _ _ _ _ _ _ _
set_option maxRecDepth 100000 in
theorem b_M_freeFor_0 {d : Nat} {σ : xM} {Q : Int → xM → Prop} {x1 : Int} : Ev d 177 0 [vR 40 0, vI x1, vR 0 0, vR 0 0] [] σ Q = (Ev d 177 4 [vR 40 0, vI x1, vI 0, vI 0] [] σ Q) := EvN_eq [4] 6 _ _ _ _ _ _ _
set_option maxRecDepth 100000 in
theorem b_M_freeFor_4 {d : Nat} {σ : xM} {Q : Int → xM → Prop} {x1 : Int} {x2 : Int} {x3 : Int} : Ev (d + 1) 177 4 [vR 40 0, vI x1, vI x2, vI x3] [] σ Q = (((0 : Int) ≤ 2 ∧ (2 : Int) < 410) ∧ (if x3 < (σ 41 0 (Int.toNat 2)) then Ev d 137 0 [vR 40 0, vI x1, vI x3, vR 0 0, vR 0 0] [] σ (fun v1 s1 => if v1 = (0 : Int) then Ev (d + 1) 177 4 [vR 40 0, vI x1, vI (xior x2 0), vI (xwr (x3 + 1))] [] s1 Q else Ev d 143 0 [vR 40 0, vI x3, vR 0 0] [] s1 (fun v2 s2 => if v2 < (0 : Int) then Ev (d + 1) 177 4 [vR 40 0, vI x1, vI (xior x2 (xshl 1 x3)), vI (xwr (x3 + 1))] [] s2 Q else Ev (d + 1) 177 4 [vR 40 0, vI x1, vI (xior x2 0), vI (xwr (x3 + 1))] [] s2 Q)) else Q x2 σ)) := EvN_eq [4] 26 _ _ _ _ _ _ _
set_option maxRecDepth 100000 in
theorem b_M_nobodyHas_0 {d : Nat} {σ : xM} {Q : Int → xM → Prop} : Ev d 178 0 [vR 40 0, vR 0 0] [] σ Q = (Ev d 178 2 [vR 40 0, vI 0] [] σ Q) := EvN_eq [2] 4 _ _ _ _ _ _ _
set_option maxRecDepth 100000 in
theorem b_M_nobodyHas_2 {d : Nat} {σ : xM} {Q : Int → xM → Prop} {x1 : Int} : Ev (d + 1) 178 2 [vR 40 0, vI x1] [] σ Q = (((0 : Int) ≤ 3 ∧ (3 : Int) < 410) ∧ (if x1 < (σ 41 0 (Int.toNat 3)) then Ev d 136 0 [vR 40 0, vI x1, vI 5, vI (-1)] [] σ (fun v1 s1 => Ev (d + 1) 178 2 [vR 40 0, vI (xwr (x1 + 1))] [] s1 Q) else Q 0 σ)) := EvN_eq [2] 15 _ _ _ _ _ _ _
set_option maxRecDepth 100000 in
theorem b_M_drawn_0 {d : Nat} {σ : xM} {Q : Int → xM → Prop} : Ev (d + 1) 179 0 [vR 40 0, vR 0 0, vR 0 0, vR 0 0, vR 0 0, vR 0 0] [] σ Q = (Ev d 178 0 [vR 40 0, vR 0 0] [] σ (fun v1 s1 => Ev (d + 1) 179 8 [vR 40 0, vI 0, vI 0, vR 0 0, vR 0 0, vR 0 0] [] s1 Q)) := EvN_eq [8, 42] 8 _ _ _ _ _ _ _
set_option maxRecDepth 100000 in
theorem b_M_drawn_8 {d : Nat} {σ : xM} {Q : Int → xM → Prop} {x1 : Int} {x2 : Int} {wx3 : xV} {wx4 : xV} {wx5 : xV} : Ev (d + 1) 179 8 [vR 40 0, vI x1, vI x2, wx3, wx4, wx5] [] σ Q = (((0 : Int) ≤ 3 ∧ (3 : Int) < 410) ∧ (if x2 < (σ 41 0 (Int.toNat 3)) then Ev d 177 0 [vR 40 0, vI x2, vR 0 0, vR 0 0] [] σ (fun v1 s1 => if v1 = (0 : Int) then Ev (d + 1) 179 8 [vR 40 0, vI x1, vI (xwr (x2 + 1)), vI v1, wx4, wx5] [] s1 Q else Ev d 176 0 [vR 40 0] [] s1 (fun v2 s2 => Ev d 130 0 [vI v1, vR 0 0, vR 0 0] [] s2 (fun v3 s3 => v3 ≠ 0 ∧ (Ev (d + 1) 179 42 [vR 40 0, vI x1, vI x2, vI v1, vI (Int.tmod v2 v3), vI 0] [] s3 Q)))) else Q x1 σ)) := EvN_eq [8, 42] 22 _ _ _ _ _ _ _
set_option maxRecDepth 100000 in
theorem b_M_drawn_42 {d : Nat} {σ : xM} {Q : Int → xM → Prop} {x1 : Int} {x2 : Int} {x3 : Int} {x4 : Int} {x5 : Int} : Ev (d + 1) 179 42 [vR 40 0, vI x1, vI x2, vI x3, vI x4, vI x5] [] σ Q = (if (0 : Int) < x4 then Ev (d + 1) 179 42 [vR 40 0, vI x1, vI x2, vI x3, vI (xwr (x4 - (xand (xshr x3 x5) 1))), vI (xwr (x5 + 1))] [] σ Q else if (xand (xshr x3 x5) 1) = (0 : Int) then Ev (d + 1) 179 42 [vR 40 0, vI x1, vI x2, vI x3, vI (xwr (x4 - (xand (xshr x3 x5) 1))), vI (xwr (x5 + 1))] [] σ Q else Ev d 136 0 [vR 40 0, vI x2, vI 5, vI x5] [] σ (fun v1 s1 => Ev (d + 1) 179 8 [vR 40 0, vI (xior x1 (xshl 1 x2)), vI (xwr (x2 + 1)), vI x3, vI x4, vI x5] [] s1 Q)) := EvN_eq [8, 42] 23 _ _ _ _ _ _ _
set_option maxRecDepth 100000 in
theorem b_M_lots_0 {d : Nat} {σ : xM} {Q : Int → xM → Prop} : Ev (d + 1) 180 0 [vR 40 0] [] σ Q = (Ev d 179 0 [vR 40 0, vR 0 0, vR 0 0, vR 0 0, vR 0 0, vR 0 0] [] σ (fun v1 s1 => Q v1 s1)) := EvN_eq [] 4 _ _ _ _ _ _ _
set_option maxRecDepth 100000 in
theorem b_M_loose_0 {d : Nat} {σ : xM} {Q : Int → xM → Prop} {x1 : Int} : Ev (d + 1) 181 0 [vR 40 0, vI x1, vR 0 0] [] σ Q = (Ev d 125 0 [vI x1, vI 1, vI 20] [] σ (fun v1 s1 => if v1 = (0 : Int) then Ev d 124 0 [vR 40 0, vI (-1000000001)] [] s1 (fun v2 s2 => Q v2 s2) else ((0 : Int) ≤ 0 ∧ (0 : Int) < 410) ∧ (if (9999 : Int) < (xwr ((s1 41 0 (Int.toNat 0)) + x1)) then Ev d 124 0 [vR 40 0, vI (-1000000003)] [] s1 (fun v3 s3 => Q v3 s3) else Ev (d + 1) 181 40 [vR 40 0, vI x1, vI 0] [] s1 Q))) := EvN_eq [40] 18 _ _ _ _ _ _ _
set_option maxRecDepth 100000 in
theorem b_M_loose_40 {d : Nat} {σ : xM} {Q : Int → xM → Prop} {x1 : Int} {x2 : Int} : Ev (d + 1) 181 40 [vR 40 0, vI x1, vI x2] [] σ Q = (if x2 < x1 then Ev d 179 0 [vR 40 0, vR 0 0, vR 0 0, vR 0 0, vR 0 0, vR 0 0] [] σ (fun v1 s1 => Ev d 174 0 [vR 40 0, vR 0 0, vR 0 0, vR 0 0] [] s1 (fun v2 s2 => Ev (d + 1) 181 40 [vR 40 0, vI x1, vI (xwr (x2 + 1))] [] s2 Q)) else ((0 : Int) ≤ 4 ∧ (4 : Int) < 410) ∧ (Q (σ 41 0 (Int.toNat 4)) σ)) := EvN_eq [40] 13 _ _ _ _ _ _ _
set_option maxRecDepth 100000 in
theorem b_M_seed_0 {d : Nat} {σ : xM} {Q : Int → xM → Prop} {x1 : Int} : Ev (d + 1) 182 0 [vR 40 0, vI x1] [] σ Q = (Ev d 133 0 [vR 40 0, vI 1, vI x1, vR 0 0] [] σ (fun v1 s1 => Q v1 s1)) := EvN_eq [] 6 _ _ _ _ _ _ _
set_option maxRecDepth 100000 in
theorem b_M_findWorths_0 {d : Nat} {σ : xM} {Q : Int → xM → Prop} : Ev d 183 0 [vR 40 0, vR 0 0, vR 0 0] [] σ Q = (Ev d 183 2 [vR 40 0, vI 0, vR 0 0] [] σ Q) := EvN_eq [2, 14] 4 _ _ _ _ _ _ _
set_option maxRecDepth 100000 in
theorem b_M_findWorths_2 {d : Nat} {σ : xM} {Q : Int → xM → Prop} {x1 : Int} {wx2 : xV} : Ev d 183 2 [vR 40 0, vI x1, wx2] [] σ Q = (((0 : Int) ≤ 3 ∧ (3 : Int) < 410) ∧ (if x1 < (σ 41 0 (Int.toNat 3)) then Ev d 183 14 [vR 40 0, vI x1, vI 0] [] σ Q else Q 0 σ)) := EvN_eq [2, 14] 10 _ _ _ _ _ _ _
set_option maxRecDepth 100000 in
theorem b_M_findWorths_14 {d : Nat} {σ : xM} {Q : Int → xM → Prop} {x1 : Int} {x2 : Int} : Ev (d + 1) 183 14 [vR 40 0, vI x1, vI x2] [] σ Q = (((0 : Int) ≤ 2 ∧ (2 : Int) < 410) ∧ (if x2 < (σ 41 0 (Int.toNat 2)) then Ev d 137 0 [vR 40 0, vI x1, vI x2, vR 0 0, vR 0 0] [] σ (fun v1 s1 => if v1 = (0 : Int) then ((0 : Int) ≤ (xwr ((xwr (7 * x1)) + x2)) ∧ (xwr ((xwr (7 * x1)) + x2)) < 49) ∧ (Ev (d + 1) 183 14 [vR 40 0, vI x1, vI (xwr (x2 + 1))] [] (xup s1 53 0 ((xwr ((xwr (7 * x1)) + x2)).toNat) (-1)) Q) else Ev d 140 0 [vR 40 0, vI x1, vI x2] [] s1 (fun v2 s2 => ((0 : Int) ≤ (xwr ((xwr (7 * x1)) + x2)) ∧ (xwr ((xwr (7 * x1)) + x2)) < 49) ∧ (Ev (d + 1) 183 14 [vR 40 0, vI x1, vI (xwr (x2 + 1))] [] (xup s2 53 0 ((xwr ((xwr (7 * x1)) + x2)).toNat) v2) Q))) else Ev (d + 1) 183 2 [vR 40 0, vI (xwr (x1 + 1)), vI x2] [] σ Q)) := EvN_eq [2, 14] 28 _ _ _ _ _ _ _
set_option maxRecDepth 100000 in
theorem b_M_findValues_0 {d : Nat} {σ : xM} {Q : Int → xM → Prop} : Ev d 184 0 [vR 40 0, vR 0 0, vR 0 0, vR 0 0, vR 0 0, vR 0 0, vR 0 0, vR 0 0] [] σ Q = (((0 : Int) ≤ 3 ∧ (3 : Int) < 410) ∧ (Ev d 184 9 [vR 40 0, vI (σ 41 0 (Int.toNat 3)), vI 0, vR 0 0, vR 0 0, vR 0 0, vR 0 0, vR 0 0] [] σ Q)) := EvN_eq [9, 39, 45, 71] 9 _ _ _ _ _ _ _
set_option maxRecDepth 100000 in
theorem b_M_findValues_9 {d : Nat} {σ : xM} {Q : Int → xM → Prop} {x1 : Int} {x2 : Int} {wx3 : xV} {wx4 : xV} {wx5 : xV} {wx6 : xV} {wx7 : xV} : Ev d 184 9 [vR 40 0, vI x1, vI x2, wx3, wx4, wx5, wx6, wx7] [] σ Q = (if x2 < (128 : Int) then ((0 : Int) ≤ (xwr ((xwr (128 * x1)) + x2)) ∧ (xwr ((xwr (128 * x1)) + x2)) < 1024) ∧ (Ev d 184 9 [vR 40 0, vI x1, vI (xwr (x2 + 1)), wx3, wx4, wx5, wx6, wx7] [] (xup σ 52 0 ((xwr ((xwr (128 * x1)) + x2)).toNat) 0) Q) else Ev d 184 39 [vR 40 0, vI x1, vI (xwr (x1 - 1)), wx3, wx4, wx5, wx6, wx7] [] σ Q) := EvN_eq [9, 39, 45, 71] 16 _ _ _ _ _ _ _
set_option maxRecDepth 100000 in
theorem b_M_findValues_39 {d : Nat} {σ : xM} {Q : Int → xM → Prop} {x1 : Int} {x2 : Int} {wx3 : xV} {wx4 : xV} {wx5 : xV} {wx6 : xV} {wx7 : xV} : Ev d 184 39 [vR 40 0, vI x1, vI x2, wx3, wx4, wx5, wx6, wx7] [] σ Q = (if x2 < (0 : Int) then Q 0 σ else Ev d 184 45 [vR 40 0, vI x1, vI x2, vI 0, wx4, wx5, wx6, wx7] [] σ Q) := EvN_eq [9, 39, 45, 71] 6 _ _ _ _ _ _ _
set_option maxRecDepth 100000 in
theorem b_M_findValues_45 {d : Nat} {σ : xM} {Q : Int → xM → Prop} {x1 : Int} {x2 : Int} {x3 : Int} {wx4 : xV} {wx5 : xV} {wx6 : xV} {wx7 : xV} : Ev d 184 45 [vR 40 0, vI x1, vI x2, vI x3, wx4, wx5, wx6, wx7] [] σ Q = (if x3 < (128 : Int) then ((0 : Int) ≤ (xwr ((xwr (128 * (xwr (x2 + 1)))) + x3)) ∧ (xwr ((xwr (128 * (xwr (x2 + 1)))) + x3)) < 1024) ∧ (Ev d 184 71 [vR 40 0, vI x1, vI x2, vI x3, vI (σ 52 0 ((xwr ((xwr (128 * (xwr (x2 + 1)))) + x3)).toNat)), vI 0, wx6, wx7] [] σ Q) else Ev d 184 39 [vR 40 0, vI x1, vI (xwr (x2 + (-1))), vI x3, wx4, wx5, wx6, wx7] [] σ Q) := EvN_eq [9, 39, 45, 71] 18 _ _ _ _ _ _ _
set_option maxRecDepth 100000 in
theorem b_M_findValues_71 {d : Nat} {σ : xM} {Q : Int → xM → Prop} {x1 : Int} {x2 : Int} {x3 : Int} {x4 : Int} {x5 : Int} {wx6 : xV} {wx7 : xV} : Ev d 184 71 [vR 40 0, vI x1, vI x2, vI x3, vI x4, vI x5, wx6, wx7] [] σ Q = (((0 : Int) ≤ 2 ∧ (2 : Int) < 410) ∧ (if x5 < (σ 41 0 (Int.toNat 2)) then if (xand (xshr x3 x5) 1) = (0 : Int) then ((0 : Int) ≤ (xwr ((xwr (7 * x2)) + x5)) ∧ (xwr ((xwr (7 * x2)) + x5)) < 49) ∧ (if (σ 53 0 ((xwr ((xwr (7 * x2)) + x5)).toNat)) < (0 : Int) then if (0 : Int) = (0 : Int) then if x4 < ((-1) : Int) then Ev d 184 71 [vR 40 0, vI x1, vI x2, vI x3, vI (-1), vI (xwr (x5 + 1)), vI 0, vI (-1)] [] σ Q else Ev d 184 71 [vR 40 0, vI x1, vI x2, vI x3, vI x4, vI (xwr (x5 + 1)), vI 0, vI (-1)] [] σ Q else ((0 : Int) ≤ (xwr ((xwr (7 * x2)) + x5)) ∧ (xwr ((xwr (7 * x2)) + x5)) < 49) ∧ (((0 : Int) ≤ (xwr ((xwr (128 * (xwr (x2 + 1)))) + (xior x3 (xshl 1 x5)))) ∧ (xwr ((xwr (128 * (xwr (x2 + 1)))) + (xior x3 (xshl 1 x5)))) < 1024) ∧ (if x4 < (xwr ((σ 53 0 ((xwr ((xwr (7 * x2)) + x5)).toNat)) + (σ 52 0 ((xwr ((xwr (128 * (xwr (x2 + 1)))) + (xior x3 (xshl 1 x5)))).toNat)))) then Ev d 184 71 [vR 40 0, vI x1, vI x2, vI x3, vI (xwr ((σ 53 0 ((xwr ((xwr (7 * x2)) + x5)).toNat)) + (σ 52 0 ((xwr ((xwr (128 * (xwr (x2 + 1)))) + (xior x3 (xshl 1 x5)))).toNat)))), vI (xwr (x5 + 1)), vI 0, vI (xwr ((σ 53 0 ((xwr ((xwr (7 * x2)) + x5)).toNat)) + (σ 52 0 ((xwr ((xwr (128 * (xwr (x2 + 1)))) + (xior x3 (xshl 1 x5)))).toNat))))] [] σ Q else Ev d 184 71 [vR 40 0, vI x1, vI x2, vI x3, vI x4, vI (xwr (x5 + 1)), vI 0, vI (xwr ((σ 53 0 ((xwr ((xwr (7 * x2)) + x5)).toNat)) + (σ 52 0 ((xwr ((xwr (128 * (xwr (x2 + 1)))) + (xior x3 (xshl 1 x5)))).toNat))))] [] σ Q)) else if (1 : Int) = (0 : Int) then if x4 < ((-1) : Int) then Ev d 184 71 [vR 40 0, vI x1, vI x2, vI x3, vI (-1), vI (xwr (x5 + 1)), vI 1, vI (-1)] [] σ Q else Ev d 184 71 [vR 40 0, vI x1, vI x2, vI x3, vI x4, vI (xwr (x5 + 1)), vI 1, vI (-1)] [] σ Q else ((0 : Int) ≤ (xwr ((xwr (7 * x2)) + x5)) ∧ (xwr ((xwr (7 * x2)) + x5)) < 49) ∧ (((0 : Int) ≤ (xwr ((xwr (128 * (xwr (x2 + 1)))) + (xior x3 (xshl 1 x5)))) ∧ (xwr ((xwr (128 * (xwr (x2 + 1)))) + (xior x3 (xshl 1 x5)))) < 1024) ∧ (if x4 < (xwr ((σ 53 0 ((xwr ((xwr (7 * x2)) + x5)).toNat)) + (σ 52 0 ((xwr ((xwr (128 * (xwr (x2 + 1)))) + (xior x3 (xshl 1 x5)))).toNat)))) then Ev d 184 71 [vR 40 0, vI x1, vI x2, vI x3, vI (xwr ((σ 53 0 ((xwr ((xwr (7 * x2)) + x5)).toNat)) + (σ 52 0 ((xwr ((xwr (128 * (xwr (x2 + 1)))) + (xior x3 (xshl 1 x5)))).toNat)))), vI (xwr (x5 + 1)), vI 1, vI (xwr ((σ 53 0 ((xwr ((xwr (7 * x2)) + x5)).toNat)) + (σ 52 0 ((xwr ((xwr (128 * (xwr (x2 + 1)))) + (xior x3 (xshl 1 x5)))).toNat))))] [] σ Q else Ev d 184 71 [vR 40 0, vI x1, vI x2, vI x3, vI x4, vI (xwr (x5 + 1)), vI 1, vI (xwr ((σ 53 0 ((xwr ((xwr (7 * x2)) + x5)).toNat)) + (σ 52 0 ((xwr ((xwr (128 * (xwr (x2 + 1)))) + (xior x3 (xshl 1 x5)))).toNat))))] [] σ Q))) else if (0 : Int) = (0 : Int) then if x4 < ((-1) : Int) then Ev d 184 71 [vR 40 0, vI x1, vI x2, vI x3, vI (-1), vI (xwr (x5 + 1)), vI 0, vI (-1)] [] σ Q else Ev d 184 71 [vR 40 0, vI x1, vI x2, vI x3, vI x4, vI (xwr (x5 + 1)), vI 0, vI (-1)] [] σ Q else ((0 : Int) ≤ (xwr ((xwr (7 * x2)) + x5)) ∧ (xwr ((xwr (7 * x2)) + x5)) < 49) ∧ (((0 : Int) ≤ (xwr ((xwr (128 * (xwr (x2 + 1)))) + (xior x3 (xshl 1 x5)))) ∧ (xwr ((xwr (128 * (xwr (x2 + 1)))) + (xior x3 (xshl 1 x5)))) < 1024) ∧ (if x4 < (xwr ((σ 53 0 ((xwr ((xwr (7 * x2)) + x5)).toNat)) + (σ 52 0 ((xwr ((xwr (128 * (xwr (x2 + 1)))) + (xior x3 (xshl 1 x5)))).toNat)))) then Ev d 184 71 [vR 40 0, vI x1, vI x2, vI x3, vI (xwr ((σ 53 0 ((xwr ((xwr (7 * x2)) + x5)).toNat)) + (σ 52 0 ((xwr ((xwr (128 * (xwr (x2 + 1)))) + (xior x3 (xshl 1 x5)))).toNat)))), vI (xwr (x5 + 1)), vI 0, vI (xwr ((σ 53 0 ((xwr ((xwr (7 * x2)) + x5)).toNat)) + (σ 52 0 ((xwr ((xwr (128 * (xwr (x2 + 1)))) + (xior x3 (xshl 1 x5)))).toNat))))] [] σ Q else Ev d 184 71 [vR 40 0, vI x1, vI x2, vI x3, vI x4, vI (xwr (x5 + 1)), vI 0, vI (xwr ((σ 53 0 ((xwr ((xwr (7 * x2)) + x5)).toNat)) + (σ 52 0 ((xwr ((xwr (128 * (xwr (x2 + 1)))) + (xior x3 (xshl 1 x5)))).toNat))))] [] σ Q)) else ((0 : Int) ≤ (xwr ((xwr (128 * x2)) + x3)) ∧ (xwr ((xwr (128 * x2)) + x3)) < 1024) ∧ (Ev d 184 45 [vR 40 0, vI x1, vI x2, vI (xwr (x3 + 1)), vI x4, vI x5, wx6, wx7] [] (xup σ 52 0 ((xwr ((xwr (128 * x2)) + x3)).toNat) x4) Q))) := EvN_eq [9, 39, 45, 71] 61 _ _ _ _ _ _ _
set_option maxRecDepth 100000 in
theorem b_M_findBest_0 {d : Nat} {σ : xM} {Q : Int → xM → Prop} : Ev (d + 1) 185 0 [vR 40 0, vR 0 0, vR 0 0, vR 0 0, vR 0 0, vR 0 0] [] σ Q = (Ev d 184 0 [vR 40 0, vR 0 0, vR 0 0, vR 0 0, vR 0 0, vR 0 0, vR 0 0, vR 0 0] [] σ (fun v1 s1 => Ev (d + 1) 185 8 [vR 40 0, vI 0, vI 0, vR 0 0, vR 0 0, vR 0 0] [] s1 Q)) := EvN_eq [8, 34] 8 _ _ _ _ _ _ _
set_option maxRecDepth 100000 in
theorem b_M_findBest_8 {d : Nat} {σ : xM} {Q : Int → xM → Prop} {x1 : Int} {x2 : Int} {wx3 : xV} {wx4 : xV} {wx5 : xV} : Ev d 185 8 [vR 40 0, vI x1, vI x2, wx3, wx4, wx5] [] σ Q = (((0 : Int) ≤ 3 ∧ (3 : Int) < 410) ∧ (if x2 < (σ 41 0 (Int.toNat 3)) then ((0 : Int) ≤ x2 ∧ x2 < 7) ∧ (((0 : Int) ≤ 2 ∧ (2 : Int) < 410) ∧ (Ev d 185 34 [vR 40 0, vI x1, vI x2, vI (xwr (((xup σ 54 0 x2.toNat (-1)) 41 0 (Int.toNat 2)) - 1)), wx4, wx5] [] (xup σ 54 0 x2.toNat (-1)) Q)) else Q 0 σ)) := EvN_eq [8, 34] 20 _ _ _ _ _ _ _
set_option maxRecDepth 100000 in
theorem b_M_findBest_34 {d : Nat} {σ : xM} {Q : Int → xM → Prop} {x1 : Int} {x2 : Int} {x3 : Int} {wx4 : xV} {wx5 : xV} : Ev d 185 34 [vR 40 0, vI x1, vI x2, vI x3, wx4, wx5] [] σ Q = (if x3 < (0 : Int) then ((0 : Int) ≤ x2 ∧ x2 < 7) ∧ (if (σ 54 0 x2.toNat) < (0 : Int) then Ev d 185 8 [vR 40 0, vI (xior x1 0), vI (xwr (x2 + 1)), vI x3, wx4, wx5] [] σ Q else ((0 : Int) ≤ x2 ∧ x2 < 7) ∧ (Ev d 185 8 [vR 40 0, vI (xior x1 (xshl 1 (σ 54 0 x2.toNat))), vI (xwr (x2 + 1)), vI x3, wx4, wx5] [] σ Q)) else if (xand (xshr x1 x3) 1) = (0 : Int) then ((0 : Int) ≤ (xwr ((xwr (7 * x2)) + x3)) ∧ (xwr ((xwr (7 * x2)) + x3)) < 49) ∧ (if (σ 53 0 ((xwr ((xwr (7 * x2)) + x3)).toNat)) < (0 : Int) then if (0 : Int) = (0 : Int) then if (0 : Int) = (0 : Int) then ((0 : Int) ≤ x2 ∧ x2 < 7) ∧ (((0 : Int) ≤ x2 ∧ x2 < 7) ∧ (Ev d 185 34 [vR 40 0, vI x1, vI x2, vI (xwr (x3 + (-1))), vI 0, vI 0] [] (xup σ 54 0 x2.toNat (σ 54 0 x2.toNat)) Q)) else ((0 : Int) ≤ x2 ∧ x2 < 7) ∧ (Ev d 185 34 [vR 40 0, vI x1, vI x2, vI (xwr (x3 + (-1))), vI 0, vI 0] [] (xup σ 54 0 x2.toNat x3) Q) else ((0 : Int) ≤ (xwr ((xwr (7 * x2)) + x3)) ∧ (xwr ((xwr (7 * x2)) + x3)) < 49) ∧ (((0 : Int) ≤ (xwr ((xwr (128 * (xwr (x2 + 1)))) + (xior x1 (xshl 1 x3)))) ∧ (xwr ((xwr (128 * (xwr (x2 + 1)))) + (xior x1 (xshl 1 x3)))) < 1024) ∧ (((0 : Int) ≤ (xwr ((xwr (128 * x2)) + x1)) ∧ (xwr ((xwr (128 * x2)) + x1)) < 1024) ∧ (if (xwr ((σ 53 0 ((xwr ((xwr (7 * x2)) + x3)).toNat)) + (σ 52 0 ((xwr ((xwr (128 * (xwr (x2 + 1)))) + (xior x1 (xshl 1 x3)))).toNat)))) = (σ 52 0 ((xwr ((xwr (128 * x2)) + x1)).toNat)) then if (1 : Int) = (0 : Int) then ((0 : Int) ≤ x2 ∧ x2 < 7) ∧ (((0 : Int) ≤ x2 ∧ x2 < 7) ∧ (Ev d 185 34 [vR 40 0, vI x1, vI x2, vI (xwr (x3 + (-1))), vI 0, vI 1] [] (xup σ 54 0 x2.toNat (σ 54 0 x2.toNat)) Q)) else ((0 : Int) ≤ x2 ∧ x2 < 7) ∧ (Ev d 185 34 [vR 40 0, vI x1, vI x2, vI (xwr (x3 + (-1))), vI 0, vI 1] [] (xup σ 54 0 x2.toNat x3) Q) else if (0 : Int) = (0 : Int) then ((0 : Int) ≤ x2 ∧ x2 < 7) ∧ (((0 : Int) ≤ x2 ∧ x2 < 7) ∧ (Ev d 185 34 [vR 40 0, vI x1, vI x2, vI (xwr (x3 + (-1))), vI 0, vI 0] [] (xup σ 54 0 x2.toNat (σ 54 0 x2.toNat)) Q)) else ((0 : Int) ≤ x2 ∧ x2 < 7) ∧ (Ev d 185 34 [vR 40 0, vI x1, vI x2, vI (xwr (x3 + (-1))), vI 0, vI 0] [] (xup σ 54 0 x2.toNat x3) Q)))) else if (1 : Int) = (0 : Int) then if (0 : Int) = (0 : Int) then ((0 : Int) ≤ x2 ∧ x2 < 7) ∧ (((0 : Int) ≤ x2 ∧ x2 < 7) ∧ (Ev d 185 34 [vR 40 0, vI x1, vI x2, vI (xwr (x3 + (-1))), vI 1, vI 0] [] (xup σ 54 0 x2.toNat (σ 54 0 x2.toNat)) Q)) else ((0 : Int) ≤ x2 ∧ x2 < 7) ∧ (Ev d 185 34 [vR 40 0, vI x1, vI x2, vI (xwr (x3 + (-1))), vI 1, vI 0] [] (xup σ 54 0 x2.toNat x3) Q) else ((0 : Int) ≤ (xwr ((xwr (7 * x2)) + x3)) ∧ (xwr ((xwr (7 * x2)) + x3)) < 49) ∧ (((0 : Int) ≤ (xwr ((xwr (128 * (xwr (x2 + 1)))) + (xior x1 (xshl 1 x3)))) ∧ (xwr ((xwr (128 * (xwr (x2 + 1)))) + (xior x1 (xshl 1 x3)))) < 1024) ∧ (((0 : Int) ≤ (xwr ((xwr (128 * x2)) + x1)) ∧ (xwr ((xwr (128 * x2)) + x1)) < 1024) ∧ (if (xwr ((σ 53 0 ((xwr ((xwr (7 * x2)) + x3)).toNat)) + (σ 52 0 ((xwr ((xwr (128 * (xwr (x2 + 1)))) + (xior x1 (xshl 1 x3)))).toNat)))) = (σ 52 0 ((xwr ((xwr (128 * x2)) + x1)).toNat)) then if (1 : Int) = (0 : Int) then ((0 : Int) ≤ x2 ∧ x2 < 7) ∧ (((0 : Int) ≤ x2 ∧ x2 < 7) ∧ (Ev d 185 34 [vR 40 0, vI x1, vI x2, vI (xwr (x3 + (-1))), vI 1, vI 1] [] (xup σ 54 0 x2.toNat (σ 54 0 x2.toNat)) Q)) else ((0 : Int) ≤ x2 ∧ x2 < 7) ∧ (Ev d 185 34 [vR 40 0, vI x1, vI x2, vI (xwr (x3 + (-1))), vI 1, vI 1] [] (xup σ 54 0 x2.toNat x3) Q) else if (0 : Int) = (0 : Int) then ((0 : Int) ≤ x2 ∧ x2 < 7) ∧ (((0 : Int) ≤ x2 ∧ x2 < 7) ∧ (Ev d 185 34 [vR 40 0, vI x1, vI x2, vI (xwr (x3 + (-1))), vI 1, vI 0] [] (xup σ 54 0 x2.toNat (σ 54 0 x2.toNat)) Q)) else ((0 : Int) ≤ x2 ∧ x2 < 7) ∧ (Ev d 185 34 [vR 40 0, vI x1, vI x2, vI (xwr (x3 + (-1))), vI 1, vI 0] [] (xup σ 54 0 x2.toNat x3) Q))))) else if (0 : Int) = (0 : Int) then if (0 : Int) = (0 : Int) then ((0 : Int) ≤ x2 ∧ x2 < 7) ∧ (((0 : Int) ≤ x2 ∧ x2 < 7) ∧ (Ev d 185 34 [vR 40 0, vI x1, vI x2, vI (xwr (x3 + (-1))), vI 0, vI 0] [] (xup σ 54 0 x2.toNat (σ 54 0 x2.toNat)) Q)) else ((0 : Int) ≤ x2 ∧ x2 < 7) ∧ (Ev d 185 34 [vR 40 0, vI x1, vI x2, vI (xwr (x3 + (-1))), vI 0, vI 0] [] (xup σ 54 0 x2.toNat x3) Q) else ((0 : Int) ≤ (xwr ((xwr (7 * x2)) + x3)) ∧ (xwr ((xwr (7 * x2)) + x3)) < 49) ∧ (((0 : Int) ≤ (xwr ((xwr (128 * (xwr (x2 + 1)))) + (xior x1 (xshl 1 x3)))) ∧ (xwr ((xwr (128 * (xwr (x2 + 1)))) + (xior x1 (xshl 1 x3)))) < 1024) ∧ (((0 : Int) ≤ (xwr ((xwr (128 * x2)) + x1)) ∧ (xwr ((xwr (128 * x2)) + x1)) < 1024) ∧ (if (xwr ((σ 53 0 ((xwr ((xwr (7 * x2)) + x3)).toNat)) + (σ 52 0 ((xwr ((xwr (128 * (xwr (x2 + 1)))) + (xior x1 (xshl 1 x3)))).toNat)))) = (σ 52 0 ((xwr ((xwr (128 * x2)) + x1)).toNat)) then if (1 : Int) = (0 : Int) then ((0 : Int) ≤ x2 ∧ x2 < 7) ∧ (((0 : Int) ≤ x2 ∧ x2 < 7) ∧ (Ev d 185 34 [vR 40 0, vI x1, vI x2, vI (xwr (x3 + (-1))), vI 0, vI 1] [] (xup σ 54 0 x2.toNat (σ 54 0 x2.toNat)) Q)) else ((0 : Int) ≤ x2 ∧ x2 < 7) ∧ (Ev d 185 34 [vR 40 0, vI x1, vI x2, vI (xwr (x3 + (-1))), vI 0, vI 1] [] (xup σ 54 0 x2.toNat x3) Q) else if (0 : Int) = (0 : Int) then ((0 : Int) ≤ x2 ∧ x2 < 7) ∧ (((0 : Int) ≤ x2 ∧ x2 < 7) ∧ (Ev d 185 34 [vR 40 0, vI x1, vI x2, vI (xwr (x3 + (-1))), vI 0, vI 0] [] (xup σ 54 0 x2.toNat (σ 54 0 x2.toNat)) Q)) else ((0 : Int) ≤ x2 ∧ x2 < 7) ∧ (Ev d 185 34 [vR 40 0, vI x1, vI x2, vI (xwr (x3 + (-1))), vI 0, vI 0] [] (xup σ 54 0 x2.toNat x3) Q))))) := EvN_eq [8, 34] 71 _ _ _ _ _ _ _
set_option maxRecDepth 100000 in
theorem b_M_best_0 {d : Nat} {σ : xM} {Q : Int → xM → Prop} {x1 : Int} : Ev (d + 1) 186 0 [vR 40 0, vI x1] [] σ Q = (Ev d 125 0 [vI x1, vI (-1), vI 6] [] σ (fun v1 s1 => if v1 = (0 : Int) then Ev d 124 0 [vR 40 0, vI (-1000000001)] [] s1 (fun v2 s2 => Q v2 s2) else ((0 : Int) ≤ 3 ∧ (3 : Int) < 410) ∧ (if x1 < (s1 41 0 (Int.toNat 3)) then Ev d 183 0 [vR 40 0, vR 0 0, vR 0 0] [] s1 (fun v3 s3 => Ev d 185 0 [vR 40 0, vR 0 0, vR 0 0, vR 0 0, vR 0 0, vR 0 0] [] s3 (fun v4 s4 => if x1 < (0 : Int) then ((0 : Int) ≤ 0 ∧ (0 : Int) < 1024) ∧ (Q (s4 52 0 (Int.toNat 0)) s4) else ((0 : Int) ≤ x1 ∧ x1 < 7) ∧ (Q (s4 54 0 x1.toNat) s4))) else Ev d 124 0 [vR 40 0, vI (-1000000002)] [] s1 (fun v5 s5 => Q v5 s5)))) := EvN_eq [] 24 _ _ _ _ _ _ _
set_option maxRecDepth 100000 in
theorem b_M_wished_0 {d : Nat} {σ : xM} {Q : Int → xM → Prop} : Ev d 187 0 [vR 40 0, vR 0 0, vR 0 0] [] σ Q = (Ev d 187 2 [vR 40 0, vI 0, vR 0 0] [] σ Q) := EvN_eq [2, 14] 4 _ _ _ _ _ _ _
set_option maxRecDepth 100000 in
theorem b_M_wished_2 {d : Nat} {σ : xM} {Q : Int → xM → Prop} {x1 : Int} {wx2 : xV} : Ev (d + 1) 187 2 [vR 40 0, vI x1, wx2] [] σ Q = (((0 : Int) ≤ 3 ∧ (3 : Int) < 410) ∧ (if x1 < (σ 41 0 (Int.toNat 3)) then Ev (d + 1) 187 14 [vR 40 0, vI x1, vI 0] [] σ Q else Ev d 184 0 [vR 40 0, vR 0 0, vR 0 0, vR 0 0, vR 0 0, vR 0 0, vR 0 0, vR 0 0] [] σ (fun v1 s1 => ((0 : Int) ≤ 0 ∧ (0 : Int) < 1024) ∧ (Q (s1 52 0 (Int.toNat 0)) s1)))) := EvN_eq [2, 14] 14 _ _ _ _ _ _ _
set_option maxRecDepth 100000 in
theorem b_M_wished_14 {d : Nat} {σ : xM} {Q : Int → xM → Prop} {x1 : Int} {x2 : Int} : Ev (d + 1) 187 14 [vR 40 0, vI x1, vI x2] [] σ Q = (((0 : Int) ≤ 2 ∧ (2 : Int) < 410) ∧ (if x2 < (σ 41 0 (Int.toNat 2)) then Ev d 137 0 [vR 40 0, vI x1, vI x2, vR 0 0, vR 0 0] [] σ (fun v1 s1 => if v1 = (0 : Int) then ((0 : Int) ≤ (xwr ((xwr (7 * x1)) + x2)) ∧ (xwr ((xwr (7 * x1)) + x2)) < 49) ∧ (Ev (d + 1) 187 14 [vR 40 0, vI x1, vI (xwr (x2 + 1))] [] (xup s1 53 0 ((xwr ((xwr (7 * x1)) + x2)).toNat) (-1)) Q) else Ev d 139 0 [vR 40 0, vI x1, vI x2, vR 0 0] [] s1 (fun v2 s2 => if (0 : Int) < v2 then ((0 : Int) ≤ (xwr ((xwr (7 * x1)) + x2)) ∧ (xwr ((xwr (7 * x1)) + x2)) < 49) ∧ (Ev (d + 1) 187 14 [vR 40 0, vI x1, vI (xwr (x2 + 1))] [] (xup s2 53 0 ((xwr ((xwr (7 * x1)) + x2)).toNat) 1) Q) else ((0 : Int) ≤ (xwr ((xwr (7 * x1)) + x2)) ∧ (xwr ((xwr (7 * x1)) + x2)) < 49) ∧ (Ev (d + 1) 187 14 [vR 40 0, vI x1, vI (xwr (x2 + 1))] [] (xup s2 53 0 ((xwr ((xwr (7 * x1)) + x2)).toNat) (-1)) Q))) else Ev (d + 1) 187 2 [vR 40 0, vI (xwr (x1 + 1)), vI x2] [] σ Q)) := EvN_eq [2, 14] 30 _ _ _ _ _ _ _
set_option maxRecDepth 100000 in
theorem b_M_without_0 {d : Nat} {σ : xM} {Q : Int → xM → Prop} {x1 : Int} : Ev (d + 1) 188 0 [vR 40 0, vI x1, vR 0 0, vR 0 0] [] σ Q = (Ev d 132 0 [vR 40 0, vI x1] [] σ (fun v1 s1 => if v1 = (0 : Int) then Ev d 124 0 [vR 40 0, vI (-1000000001)] [] s1 (fun v2 s2 => Q v2 s2) else Ev d 183 0 [vR 40 0, vR 0 0, vR 0 0] [] s1 (fun v3 s3 => Ev d 184 0 [vR 40 0, vR 0 0, vR 0 0, vR 0 0, vR 0 0, vR 0 0, vR 0 0, vR 0 0] [] s3 (fun v4 s4 => ((0 : Int) ≤ 0 ∧ (0 : Int) < 1024) ∧ (Ev (d + 1) 188 32 [vR 40 0, vI x1, vI (s4 52 0 (Int.toNat 0)), vI 0] [] s4 Q))))) := EvN_eq [32] 17 _ _ _ _ _ _ _
set_option maxRecDepth 100000 in
theorem b_M_without_32 {d : Nat} {σ : xM} {Q : Int → xM → Prop} {x1 : Int} {x2 : Int} {x3 : Int} : Ev (d + 1) 188 32 [vR 40 0, vI x1, vI x2, vI x3] [] σ Q = (((0 : Int) ≤ 2 ∧ (2 : Int) < 410) ∧ (if x3 < (σ 41 0 (Int.toNat 2)) then ((0 : Int) ≤ (xwr ((xwr (7 * x1)) + x3)) ∧ (xwr ((xwr (7 * x1)) + x3)) < 49) ∧ (Ev (d + 1) 188 32 [vR 40 0, vI x1, vI x2, vI (xwr (x3 + 1))] [] (xup σ 53 0 ((xwr ((xwr (7 * x1)) + x3)).toNat) (-1)) Q) else Ev d 184 0 [vR 40 0, vR 0 0, vR 0 0, vR 0 0, vR 0 0, vR 0 0, vR 0 0, vR 0 0] [] σ (fun v1 s1 => ((0 : Int) ≤ 0 ∧ (0 : Int) < 1024) ∧ (Q (xwr (x2 - (s1 52 0 (Int.toNat 0)))) s1)))) := EvN_eq [32] 19 _ _ _ _ _ _ _
set_option maxRecDepth 100000 in
theorem b_M_lies_0 {d : Nat} {σ : xM} {Q : Int → xM → Prop} {x1 : Int} {x2 : Int} : Ev (d + 1) 189 0 [vR 40 0, vI x1, vI x2, vR 0 0, vR 0 0, vR 0 0, vR 0 0, vR 0 0] [] σ Q = (Ev d 132 0 [vR 40 0, vI x1] [] σ (fun v1 s1 => if v1 = (0 : Int) then Ev d 124 0 [vR 40 0, vI (-1000000001)] [] s1 (fun v2 s2 => Q v2 s2) else Ev d 125 0 [vI x2, vI 0, vI 1] [] s1 (fun v3 s3 => if v3 = (0 : Int) then Ev d 124 0 [vR 40 0, vI (-1000000001)] [] s3 (fun v4 s4 => Q v4 s4) else Ev d 183 0 [vR 40 0, vR 0 0, vR 0 0] [] s3 (fun v5 s5 => Ev d 185 0 [vR 40 0, vR 0 0, vR 0 0, vR 0 0, vR 0 0, vR 0 0] [] s5 (fun v6 s6 => Ev (d + 1) 189 34 [vR 40 0, vI x1, vI x2, vI 0, vR 0 0, vR 0 0, vR 0 0, vR 0 0] [] s6 Q))))) := EvN_eq [34, 100, 163] 17 _ _ _ _ _ _ _
set_option maxRecDepth 100000 in
theorem b_M_lies_34 {d : Nat} {σ : xM} {Q : Int → xM → Prop} {x1 : Int} {x2 : Int} {x3 : Int} {wx4 : xV} {wx5 : xV} {wx6 : xV} {wx7 : xV} : Ev (d + 1) 189 34 [vR 40 0, vI x1, vI x2, vI x3, wx4, wx5, wx6, wx7] [] σ Q = (((0 : Int) ≤ 2 ∧ (2 : Int) < 410) ∧ (if x3 < (σ 41 0 (Int.toNat 2)) then Ev d 140 0 [vR 40 0, vI x1, vI x3] [] σ (fun v1 s1 => ((0 : Int) ≤ x3 ∧ x3 < 7) ∧ (Ev (d + 1) 189 34 [vR 40 0, vI x1, vI x2, vI (xwr (x3 + 1)), wx4, wx5, wx6, wx7] [] (xup s1 55 0 x3.toNat v1) Q)) else ((0 : Int) ≤ x1 ∧ x1 < 7) ∧ (if (σ 54 0 x1.toNat) < (0 : Int) then Ev d 128 0 [vR 40 0] [] σ (fun v2 s2 => Ev (d + 1) 189 100 [vR 40 0, vI x1, vI x2, vI 0, vI (-1), vI 0, vI 0, wx7] [] s2 Q) else ((0 : Int) ≤ x1 ∧ x1 < 7) ∧ (((0 : Int) ≤ (σ 54 0 x1.toNat) ∧ (σ 54 0 x1.toNat) < 7) ∧ (Ev d 128 0 [vR 40 0] [] σ (fun v3 s3 => Ev (d + 1) 189 100 [vR 40 0, vI x1, vI x2, vI (σ 55 0 ((σ 54 0 x1.toNat).toNat)), vI (-1), vI (σ 55 0 ((σ 54 0 x1.toNat).toNat)), vI 0, wx7] [] s3 Q)))))) := EvN_eq [34, 100, 163] 29 _ _ _ _ _ _ _
set_option maxRecDepth 100000 in
theorem b_M_lies_100 {d : Nat} {σ : xM} {Q : Int → xM → Prop} {x1 : Int} {x2 : Int} {x3 : Int} {x4 : Int} {x5 : Int} {x6 : Int} {wx7 : xV} : Ev (d + 1) 189 100 [vR 40 0, vI x1, vI x2, vI x3, vI x4, vI x5, vI x6, wx7] [] σ Q = (((0 : Int) ≤ 2 ∧ (2 : Int) < 410) ∧ (if x6 < (xwr (10 * (σ 41 0 (Int.toNat 2)))) then (10 : Int) ≠ 0 ∧ (((0 : Int) ≤ 2 ∧ (2 : Int) < 410) ∧ (if (Int.tmod x6 10) < (σ 41 0 (Int.toNat 2)) then (10 : Int) ≠ 0 ∧ (Ev d 136 0 [vR 40 0, vI x1, vI 6, vI (xwr (Int.tdiv x6 10))] [] σ (fun v1 s1 => (10 : Int) ≠ 0 ∧ (Ev d 136 0 [vR 40 0, vI x1, vI 7, vI (Int.tmod x6 10)] [] s1 (fun v2 s2 => Ev d 136 0 [vR 40 0, vI x1, vI 8, vI (-1)] [] s2 (fun v3 s3 => Ev (d + 1) 189 163 [vR 40 0, vI x1, vI x2, vI x3, vI x4, vI x5, vI x6, vI 0] [] s3 Q))))) else Ev (d + 1) 189 100 [vR 40 0, vI x1, vI x2, vI x3, vI x4, vI x5, vI (xwr (x6 + 1)), wx7] [] σ Q)) else Ev d 129 0 [vR 40 0] [] σ (fun v4 s4 => if x2 = (0 : Int) then Q x4 s4 else Q (xwr (x5 - x3)) s4))) := EvN_eq [34, 100, 163] 39 _ _ _ _ _ _ _
set_option maxRecDepth 100000 in
theorem b_M_lies_163 {d : Nat} {σ : xM} {Q : Int → xM → Prop} {x1 : Int} {x2 : Int} {x3 : Int} {x4 : Int} {x5 : Int} {x6 : Int} {x7 : Int} : Ev (d + 1) 189 163 [vR 40 0, vI x1, vI x2, vI x3, vI x4, vI x5, vI x6, vI x7] [] σ Q = (((0 : Int) ≤ 2 ∧ (2 : Int) < 410) ∧ (if x7 < (σ 41 0 (Int.toNat 2)) then Ev d 137 0 [vR 40 0, vI x1, vI x7, vR 0 0, vR 0 0] [] σ (fun v1 s1 => if v1 = (0 : Int) then ((0 : Int) ≤ (xwr ((xwr (7 * x1)) + x7)) ∧ (xwr ((xwr (7 * x1)) + x7)) < 49) ∧ (Ev (d + 1) 189 163 [vR 40 0, vI x1, vI x2, vI x3, vI x4, vI x5, vI x6, vI (xwr (x7 + 1))] [] (xup s1 53 0 ((xwr ((xwr (7 * x1)) + x7)).toNat) (-1)) Q) else Ev d 140 0 [vR 40 0, vI x1, vI x7] [] s1 (fun v2 s2 => ((0 : Int) ≤ (xwr ((xwr (7 * x1)) + x7)) ∧ (xwr ((xwr (7 * x1)) + x7)) < 49) ∧ (Ev (d + 1) 189 163 [vR 40 0, vI x1, vI x2, vI x3, vI x4, vI x5, vI x6, vI (xwr (x7 + 1))] [] (xup s2 53 0 ((xwr ((xwr (7 * x1)) + x7)).toNat) v2) Q))) else Ev d 185 0 [vR 40 0, vR 0 0, vR 0 0, vR 0 0, vR 0 0, vR 0 0] [] σ (fun v3 s3 => ((0 : Int) ≤ x1 ∧ x1 < 7) ∧ (if (s3 54 0 x1.toNat) < (0 : Int) then if x5 < (0 : Int) then if x5 < (0 : Int) then Ev (d + 1) 189 100 [vR 40 0, vI x1, vI x2, vI x3, vI x6, vI 0, vI (xwr (x6 + 1)), vI 0] [] s3 Q else Ev (d + 1) 189 100 [vR 40 0, vI x1, vI x2, vI x3, vI x6, vI x5, vI (xwr (x6 + 1)), vI 0] [] s3 Q else if x5 < (0 : Int) then Ev (d + 1) 189 100 [vR 40 0, vI x1, vI x2, vI x3, vI x4, vI 0, vI (xwr (x6 + 1)), vI 0] [] s3 Q else Ev (d + 1) 189 100 [vR 40 0, vI x1, vI x2, vI x3, vI x4, vI x5, vI (xwr (x6 + 1)), vI 0] [] s3 Q else ((0 : Int) ≤ x1 ∧ x1 < 7) ∧ (((0 : Int) ≤ (s3 54 0 x1.toNat) ∧ (s3 54 0 x1.toNat) < 7) ∧ (if x5 < (s3 55 0 ((s3 54 0 x1.toNat).toNat)) then if x5 < (s3 55 0 ((s3 54 0 x1.toNat).toNat)) then Ev (d + 1) 189 100 [vR 40 0, vI x1, vI x2, vI x3, vI x6, vI (s3 55 0 ((s3 54 0 x1.toNat).toNat)), vI (xwr (x6 + 1)), vI (s3 55 0 ((s3 54 0 x1.toNat).toNat))] [] s3 Q else Ev (d + 1) 189 100 [vR 40 0, vI x1, vI x2, vI x3, vI x6, vI x5, vI (xwr (x6 + 1)), vI (s3 55 0 ((s3 54 0 x1.toNat).toNat))] [] s3 Q else if x5 < (s3 55 0 ((s3 54 0 x1.toNat).toNat)) then Ev (d + 1) 189 100 [vR 40 0, vI x1, vI x2, vI x3, vI x4, vI (s3 55 0 ((s3 54 0 x1.toNat).toNat)), vI (xwr (x6 + 1)), vI (s3 55 0 ((s3 54 0 x1.toNat).toNat))] [] s3 Q else Ev (d + 1) 189 100 [vR 40 0, vI x1, vI x2, vI x3, vI x4, vI x5, vI (xwr (x6 + 1)), vI (s3 55 0 ((s3 54 0 x1.toNat).toNat))] [] s3 Q)))))) := EvN_eq [34, 100, 163] 37 _ _ _ _ _ _ _
set_option maxRecDepth 100000 in
theorem b_M_odds_0 {d : Nat} {σ : xM} {Q : Int → xM → Prop} {x1 : Int} {x2 : Int} : Ev (d + 1) 190 0 [vR 40 0, vI x1, vI x2, vR 0 0, vR 0 0, vR 0 0, vR 0 0] [] σ Q = (Ev d 132 0 [vR 40 0, vI x1] [] σ (fun v1 s1 => if v1 = (0 : Int) then Ev d 124 0 [vR 40 0, vI (-1000000001)] [] s1 (fun v2 s2 => Q v2 s2) else Ev d 125 0 [vI x2, vI 0, vI 1] [] s1 (fun v3 s3 => if v3 = (0 : Int) then Ev d 124 0 [vR 40 0, vI (-1000000001)] [] s3 (fun v4 s4 => Q v4 s4) else Ev (d + 1) 190 32 [vR 40 0, vI x1, vI x2, vI 0, vI 0, vI 0, vR 0 0] [] s3 Q))) := EvN_eq [32, 112] 17 _ _ _ _ _ _ _
set_option maxRecDepth 100000 in
theorem b_M_odds_32 {d : Nat} {σ : xM} {Q : Int → xM → Prop} {x1 : Int} {x2 : Int} {x3 : Int} {x4 : Int} {x5 : Int} {wx6 : xV} : Ev (d + 1) 190 32 [vR 40 0, vI x1, vI x2, vI x3, vI x4, vI x5, wx6] [] σ Q = (((0 : Int) ≤ 2 ∧ (2 : Int) < 410) ∧ (if x5 < (σ 41 0 (Int.toNat 2)) then Ev d 137 0 [vR 40 0, vI x1, vI x5, vR 0 0, vR 0 0] [] σ (fun v1 s1 => if v1 = (0 : Int) then if v1 = (0 : Int) then Ev (d + 1) 190 32 [vR 40 0, vI x1, vI x2, vI (xwr (x3 + 0)), vI (xwr (x4 + 0)), vI (xwr (x5 + 1)), vI v1] [] s1 Q else Ev d 139 0 [vR 40 0, vI x1, vI x5, vR 0 0] [] s1 (fun v2 s2 => if (0 : Int) < v2 then Ev (d + 1) 190 32 [vR 40 0, vI x1, vI x2, vI (xwr (x3 + 1)), vI (xwr (x4 + 0)), vI (xwr (x5 + 1)), vI v1] [] s2 Q else Ev (d + 1) 190 32 [vR 40 0, vI x1, vI x2, vI (xwr (x3 + 0)), vI (xwr (x4 + 0)), vI (xwr (x5 + 1)), vI v1] [] s2 Q) else if v1 = (0 : Int) then Ev (d + 1) 190 32 [vR 40 0, vI x1, vI x2, vI (xwr (x3 + 0)), vI (xwr (x4 + 1)), vI (xwr (x5 + 1)), vI v1] [] s1 Q else Ev d 139 0 [vR 40 0, vI x1, vI x5, vR 0 0] [] s1 (fun v3 s3 => if (0 : Int) < v3 then Ev (d + 1) 190 32 [vR 40 0, vI x1, vI x2, vI (xwr (x3 + 1)), vI (xwr (x4 + 1)), vI (xwr (x5 + 1)), vI v1] [] s3 Q else Ev (d + 1) 190 32 [vR 40 0, vI x1, vI x2, vI (xwr (x3 + 0)), vI (xwr (x4 + 1)), vI (xwr (x5 + 1)), vI v1] [] s3 Q)) else if x4 = (0 : Int) then Ev d 124 0 [vR 40 0, vI (-1000000003)] [] σ (fun v4 s4 => Q v4 s4) else Ev (d + 1) 190 112 [vR 40 0, vI x1, vI x2, vI x3, vI x4, vI x4, wx6] [] σ Q)) := EvN_eq [32, 112] 34 _ _ _ _ _ _ _
set_option maxRecDepth 100000 in
theorem b_M_odds_112 {d : Nat} {σ : xM} {Q : Int → xM → Prop} {x1 : Int} {x2 : Int} {x3 : Int} {x4 : Int} {x5 : Int} {wx6 : xV} : Ev d 190 112 [vR 40 0, vI x1, vI x2, vI x3, vI x4, vI x5, wx6] [] σ Q = (if (1 : Int) < x5 then x5 ≠ 0 ∧ (if (Int.tmod x3 x5) = (0 : Int) then x5 ≠ 0 ∧ (if (Int.tmod x4 x5) = (0 : Int) then x5 ≠ 0 ∧ (x5 ≠ 0 ∧ (Ev d 190 112 [vR 40 0, vI x1, vI x2, vI (xwr (Int.tdiv x3 x5)), vI (xwr (Int.tdiv x4 x5)), vI (xwr (x5 + (-1))), wx6] [] σ Q)) else Ev d 190 112 [vR 40 0, vI x1, vI x2, vI x3, vI x4, vI (xwr (x5 + (-1))), wx6] [] σ Q) else Ev d 190 112 [vR 40 0, vI x1, vI x2, vI x3, vI x4, vI (xwr (x5 + (-1))), wx6] [] σ Q) else if x2 = (0 : Int) then Q x3 σ else Q x4 σ) := EvN_eq [32, 112] 23 _ _ _ _ _ _ _
set_option maxRecDepth 100000 in
theorem b_M_rightOf_0 {d : Nat} {σ : xM} {Q : Int → xM → Prop} {x1 : Int} : Ev d 191 0 [vR 40 0, vI x1, vR 0 0] [] σ Q = (Ev d 191 2 [vR 40 0, vI x1, vI 0] [] σ Q) := EvN_eq [2] 4 _ _ _ _ _ _ _
set_option maxRecDepth 100000 in
theorem b_M_rightOf_2 {d : Nat} {σ : xM} {Q : Int → xM → Prop} {x1 : Int} {x2 : Int} : Ev (d + 1) 191 2 [vR 40 0, vI x1, vI x2] [] σ Q = (((0 : Int) ≤ x1 ∧ x1 < 4) ∧ (if x2 < (σ 46 0 x1.toNat) then ((0 : Int) ≤ 3 ∧ (3 : Int) < 410) ∧ (if x2 < (σ 41 0 (Int.toNat 3)) then ((0 : Int) ≤ (xwr ((xwr (24 * x1)) + x2)) ∧ (xwr ((xwr (24 * x1)) + x2)) < 96) ∧ (Ev d 135 0 [vR 40 0, vI x2, vI 5] [] σ (fun v1 s1 => if (σ 47 0 ((xwr ((xwr (24 * x1)) + x2)).toNat)) = v1 then Ev (d + 1) 191 2 [vR 40 0, vI x1, vI (xwr (x2 + 1))] [] s1 Q else Q x2 s1)) else Q x2 σ) else Q x2 σ)) := EvN_eq [2] 29 _ _ _ _ _ _ _
set_option maxRecDepth 100000 in
theorem b_M_fits_0 {d : Nat} {σ : xM} {Q : Int → xM → Prop} {x1 : Int} {x2 : Int} : Ev (d + 1) 192 0 [vR 40 0, vI x1, vI x2, vR 0 0, vR 0 0, vR 0 0, vR 0 0] [] σ Q = (Ev d 206 0 [vI x1] [] σ (fun v1 s1 => if v1 = (0 : Int) then Ev d 124 0 [vR 40 0, vI (-1000000001)] [] s1 (fun v2 s2 => Q v2 s2) else Ev d 125 0 [vI x2, vI 0, vI 1] [] s1 (fun v3 s3 => if v3 = (0 : Int) then Ev d 124 0 [vR 40 0, vI (-1000000001)] [] s3 (fun v4 s4 => Q v4 s4) else ((0 : Int) ≤ x1 ∧ x1 < 4) ∧ (if (s3 45 0 x1.toNat) = (0 : Int) then Ev d 124 0 [vR 40 0, vI (-1000000002)] [] s3 (fun v5 s5 => Q v5 s5) else Ev d 128 0 [vR 40 0] [] s3 (fun v6 s6 => Ev (d + 1) 192 53 [vR 40 0, vI x1, vI x2, vI 0, vI (-1), vI 255, vR 0 0] [] s6 Q))))) := EvN_eq [53] 23 _ _ _ _ _ _ _
set_option maxRecDepth 100000 in
theorem b_M_fits_53 {d : Nat} {σ : xM} {Q : Int → xM → Prop} {x1 : Int} {x2 : Int} {x3 : Int} {x4 : Int} {x5 : Int} {wx6 : xV} : Ev (d + 1) 192 53 [vR 40 0, vI x1, vI x2, vI x3, vI x4, vI x5, wx6] [] σ Q = (if x5 < (0 : Int) then Ev d 129 0 [vR 40 0] [] σ (fun v1 s1 => if x2 = (0 : Int) then Q x3 s1 else if x4 < (0 : Int) then Ev d 124 0 [vR 40 0, vI (-1000000002)] [] s1 (fun v2 s2 => Q v2 s2) else Q x4 s1) else ((0 : Int) ≤ 1 ∧ (1 : Int) < 410) ∧ (Ev d 179 0 [vR 40 0, vR 0 0, vR 0 0, vR 0 0, vR 0 0, vR 0 0] [] (xup σ 41 0 (Int.toNat 1) x5) (fun v3 s3 => Ev d 191 0 [vR 40 0, vI x1, vR 0 0] [] s3 (fun v4 s4 => ((0 : Int) ≤ x1 ∧ x1 < 4) ∧ (if v4 = (s4 46 0 x1.toNat) then if (1 : Int) = (0 : Int) then if (1 : Int) = (0 : Int) then Ev (d + 1) 192 53 [vR 40 0, vI x1, vI x2, vI (xwr (x3 + 0)), vI x4, vI (xwr (x5 + (-1))), vI 1] [] s4 Q else Ev (d + 1) 192 53 [vR 40 0, vI x1, vI x2, vI (xwr (x3 + 0)), vI x5, vI (xwr (x5 + (-1))), vI 1] [] s4 Q else if (1 : Int) = (0 : Int) then Ev (d + 1) 192 53 [vR 40 0, vI x1, vI x2, vI (xwr (x3 + 1)), vI x4, vI (xwr (x5 + (-1))), vI 1] [] s4 Q else Ev (d + 1) 192 53 [vR 40 0, vI x1, vI x2, vI (xwr (x3 + 1)), vI x5, vI (xwr (x5 + (-1))), vI 1] [] s4 Q else if (0 : Int) = (0 : Int) then if (0 : Int) = (0 : Int) then Ev (d + 1) 192 53 [vR 40 0, vI x1, vI x2, vI (xwr (x3 + 0)), vI x4, vI (xwr (x5 + (-1))), vI 0] [] s4 Q else Ev (d + 1) 192 53 [vR 40 0, vI x1, vI x2, vI (xwr (x3 + 0)), vI x5, vI (xwr (x5 + (-1))), vI 0] [] s4 Q else if (0 : Int) = (0 : Int) then Ev (d + 1) 192 53 [vR 40 0, vI x1, vI x2, vI (xwr (x3 + 1)), vI x4, vI (xwr (x5 + (-1))), vI 0] [] s4 Q else Ev (d + 1) 192 53 [vR 40 0, vI x1, vI x2, vI (xwr (x3 + 1)), vI x5, vI (xwr (x5 + (-1))), vI 0] [] s4 Q))))) := EvN_eq [53] 37 _ _ _ _ _ _ _
set_option maxRecDepth 100000 in
theorem b_M_begins_0 {d : Nat} {σ : xM} {Q : Int → xM → Prop} {x1 : Int} : Ev d 193 0 [vR 40 0, vI x1] [] σ Q = (if (σ 40 0 6) < (30 : Int) then ((0 : Int) ≤ (σ 40 0 6) ∧ (σ 40 0 6) < 30) ∧ (Q 0 (xup (xup σ 56 0 ((σ 40 0 6).toNat) x1) 40 0 6 (xwr (((xup σ 56 0 ((σ 40 0 6).toNat) x1) 40 0 6) + 1)))) else Q 0 σ) := EvN_eq [] 18 _ _ _ _ _ _ _
set_option maxRecDepth 100000 in
theorem b_M_plainSays_0 {d : Nat} {σ : xM} {Q : Int → xM → Prop} {x1 : Int} {x2 : Int} : Ev (d + 1) 194 0 [vR 40 0, vI x1, vI x2] [] σ Q = (Ev d 193 0 [vR 40 0, vI 10] [] σ (fun v1 s1 => Q (xwr (x2 + x1)) s1)) := EvN_eq [] 8 _ _ _ _ _ _ _
set_option maxRecDepth 100000 in
theorem b_M_speakerSays_0 {d : Nat} {σ : xM} {Q : Int → xM → Prop} {x1 : Int} {x2 : Int} : Ev (d + 1) 195 0 [vR 40 0, vI x1, vI x2] [] σ Q = (Ev d 193 0 [vR 40 0, vI 20] [] σ (fun v1 s1 => Ev d 194 0 [vR 40 0, vI x1, vI x2] [] s1 (fun v2 s2 => Q (xwr (v2 - 4)) s2))) := EvN_eq [] 11 _ _ _ _ _ _ _
set_option maxRecDepth 100000 in
theorem b_M_says_0 {d : Nat} {σ : xM} {Q : Int → xM → Prop} {x1 : Int} {x2 : Int} : Ev (d + 1) 196 0 [vR 40 0, vI x1, vI x2] [] σ Q = (Ev d 134 0 [vR 40 0, vI x1, vI 0] [] σ (fun v1 s1 => if v1 = 1 then Ev d 195 0 [vR 40 0, vI x1, vI x2] [] s1 (fun v2 s2 => Q v2 s2) else if v1 = 4 then Ev d 193 0 [vR 40 0, vI 50] [] s1 (fun v3 s3 => Ev d 195 0 [vR 40 0, vI x1, vI x2] [] s3 (fun v4 s4 => Q (xwr (v4 * 3)) s4)) else if v1 = 6 then Ev d 193 0 [vR 40 0, vI 70] [] s1 (fun v5 s5 => Q 9 s5) else Ev d 194 0 [vR 40 0, vI x1, vI x2] [] s1 (fun v6 s6 => Q v6 s6))) := EvN_eq [] 16 _ _ _ _ _ _ _
set_option maxRecDepth 100000 in
theorem b_M_plainSings_0 {d : Nat} {σ : xM} {Q : Int → xM → Prop} {x1 : Int} {x2 : Int} : Ev (d + 1) 197 0 [vR 40 0, vI x1, vI x2] [] σ Q = (Ev d 193 0 [vR 40 0, vI 11] [] σ (fun v1 s1 => Ev d 196 0 [vR 40 0, vI x1, vI x2] [] s1 (fun v2 s2 => Q (xwr (v2 * 2)) s2))) := EvN_eq [] 11 _ _ _ _ _ _ _
set_option maxRecDepth 100000 in
theorem b_M_crownSings_0 {d : Nat} {σ : xM} {Q : Int → xM → Prop} {x1 : Int} {x2 : Int} : Ev (d + 1) 198 0 [vR 40 0, vI x1, vI x2] [] σ Q = (Ev d 193 0 [vR 40 0, vI 30] [] σ (fun v1 s1 => Ev d 197 0 [vR 40 0, vI x1, vI x2] [] s1 (fun v2 s2 => Q (xwr (-v2)) s2))) := EvN_eq [] 10 _ _ _ _ _ _ _
set_option maxRecDepth 100000 in
theorem b_M_sings_0 {d : Nat} {σ : xM} {Q : Int → xM → Prop} {x1 : Int} {x2 : Int} : Ev (d + 1) 199 0 [vR 40 0, vI x1, vI x2] [] σ Q = (Ev d 134 0 [vR 40 0, vI x1, vI 0] [] σ (fun v1 s1 => if v1 = 2 then Ev d 198 0 [vR 40 0, vI x1, vI x2] [] s1 (fun v2 s2 => Q v2 s2) else if v1 = 3 then Ev d 197 0 [vR 40 0, vI x1, vI x2] [] s1 (fun v3 s3 => Q v3 s3) else if v1 = 4 then Ev d 197 0 [vR 40 0, vI x1, vI x2] [] s1 (fun v4 s4 => Q v4 s4) else if v1 = 5 then Ev d 193 0 [vR 40 0, vI 60] [] s1 (fun v5 s5 => Ev d 198 0 [vR 40 0, vI x1, vI (xwr (x2 + 1))] [] s5 (fun v6 s6 => Q v6 s6)) else if v1 = 6 then Ev d 193 0 [vR 40 0, vI 71] [] s1 (fun v7 s7 => Ev d 197 0 [vR 40 0, vI x1, vI x2] [] s7 (fun v8 s8 => Ev d 134 0 [vR 40 0, vI x1, vI 1] [] s8 (fun v9 s9 => Q (xwr (v8 + v9)) s9))) else Ev d 197 0 [vR 40 0, vI x1, vI x2] [] s1 (fun v10 s10 => Q v10 s10))) := EvN_eq [] 19 _ _ _ _ _ _ _
set_option maxRecDepth 100000 in
theorem b_M_plainWaits_0 {d : Nat} {σ : xM} {Q : Int → xM → Prop} {x1 : Int} {x2 : Int} : Ev (d + 1) 200 0 [vR 40 0, vI x1, vI x2] [] σ Q = (Ev d 193 0 [vR 40 0, vI 12] [] σ (fun v1 s1 => Ev d 199 0 [vR 40 0, vI x1, vI x2] [] s1 (fun v2 s2 => Ev d 134 0 [vR 40 0, vI x1, vI 1] [] s2 (fun v3 s3 => Q (xwr (v2 - v3)) s3)))) := EvN_eq [] 14 _ _ _ _ _ _ _
set_option maxRecDepth 100000 in
theorem b_M_waits_0 {d : Nat} {σ : xM} {Q : Int → xM → Prop} {x1 : Int} {x2 : Int} : Ev (d + 1) 201 0 [vR 40 0, vI x1, vI x2] [] σ Q = (Ev d 134 0 [vR 40 0, vI x1, vI 0] [] σ (fun v1 s1 => if v1 = 3 then Ev d 193 0 [vR 40 0, vI 40] [] s1 (fun v2 s2 => (2 : Int) ≠ 0 ∧ (Ev d 200 0 [vR 40 0, vI x1, vI (xwr (Int.tdiv x2 2))] [] s2 (fun v3 s3 => Q v3 s3))) else if v1 = 4 then Ev d 193 0 [vR 40 0, vI 51] [] s1 (fun v4 s4 => Ev d 200 0 [vR 40 0, vI x1, vI x2] [] s4 (fun v5 s5 => Q (xxor v5 x1) s5)) else Ev d 200 0 [vR 40 0, vI x1, vI x2] [] s1 (fun v6 s6 => Q v6 s6))) := EvN_eq [] 16 _ _ _ _ _ _ _
set_option maxRecDepth 100000 in
theorem b_M_plainParts_0 {d : Nat} {σ : xM} {Q : Int → xM → Prop} {x1 : Int} {x2 : Int} : Ev (d + 1) 202 0 [vR 40 0, vI x1, vI x2, vR 0 0] [] σ Q = (Ev d 193 0 [vR 40 0, vI 13] [] σ (fun v1 s1 => Ev d 134 0 [vR 40 0, vI x1, vI 1] [] s1 (fun v2 s2 => if (xwr (v2 - x1)) = (0 : Int) then ((1 : Int) = 0 ∨ (1 : Int) = 1) ∧ (if ((xup s2 40 0 7 1) 40 0 7) = (0 : Int) then (xwr (v2 - x1)) ≠ 0 ∧ (Q (xwr (Int.tdiv x2 (xwr (v2 - x1)))) (xup s2 40 0 7 1)) else Q 0 (xup s2 40 0 7 1)) else ((0 : Int) = 0 ∨ (0 : Int) = 1) ∧ (if ((xup s2 40 0 7 0) 40 0 7) = (0 : Int) then (xwr (v2 - x1)) ≠ 0 ∧ (Q (xwr (Int.tdiv x2 (xwr (v2 - x1)))) (xup s2 40 0 7 0)) else Q 0 (xup s2 40 0 7 0))))) := EvN_eq [] 24 _ _ _ _ _ _ _
set_option maxRecDepth 100000 in
theorem b_M_partsBy_0 {d : Nat} {σ : xM} {Q : Int → xM → Prop} {x1 : Int} {x2 : Int} : Ev (d + 1) 203 0 [vR 40 0, vI x1, vI x2, vR 0 0] [] σ Q = (Ev d 134 0 [vR 40 0, vI x1, vI 0] [] σ (fun v1 s1 => if v1 = (1 : Int) then Ev d 193 0 [vR 40 0, vI 21] [] s1 (fun v2 s2 => Ev d 202 0 [vR 40 0, vI x1, vI x2, vR 0 0] [] s2 (fun v3 s3 => if (s3 40 0 7) = (0 : Int) then Ev d 199 0 [vR 40 0, vI x1, vI 1] [] s3 (fun v4 s4 => Q (xwr (v3 + v4)) s4) else Q 0 s3)) else Ev d 134 0 [vR 40 0, vI x1, vI 0] [] s1 (fun v5 s5 => if v5 = (4 : Int) then Ev d 193 0 [vR 40 0, vI 21] [] s5 (fun v6 s6 => Ev d 202 0 [vR 40 0, vI x1, vI x2, vR 0 0] [] s6 (fun v7 s7 => if (s7 40 0 7) = (0 : Int) then Ev d 199 0 [vR 40 0, vI x1, vI 1] [] s7 (fun v8 s8 => Q (xwr (v7 + v8)) s8) else Q 0 s7)) else Ev d 202 0 [vR 40 0, vI x1, vI x2, vR 0 0] [] s5 (fun v9 s9 => Q v9 s9)))) := EvN_eq [] 31 _ _ _ _ _ _ _
set_option maxRecDepth 100000 in
theorem b_M_voice_0 {d : Nat} {σ : xM} {Q : Int → xM → Prop} {x1 : Int} {x2 : Int} {x3 : Int} : Ev (d + 1) 204 0 [vR 40 0, vI x1, vI x2, vI x3, vR 0 0] [] σ Q = (Ev d 131 0 [vR 40 0, vI x1] [] σ (fun v1 s1 => if v1 = (0 : Int) then Ev d 124 0 [vR 40 0, vI (-1000000001)] [] s1 (fun v2 s2 => Q v2 s2) else Ev d 125 0 [vI x2, vI 0, vI 3] [] s1 (fun v3 s3 => if v3 = (0 : Int) then Ev d 124 0 [vR 40 0, vI (-1000000001)] [] s3 (fun v4 s4 => Q v4 s4) else ((0 : Int) = 0 ∨ (0 : Int) = 1) ∧ (if x2 = (0 : Int) then Ev d 196 0 [vR 40 0, vI x1, vI x3] [] (xup (xup s3 40 0 6 0) 40 0 7 0) (fun v5 s5 => if (s5 40 0 7) = (0 : Int) then Q v5 s5 else Ev d 124 0 [vR 40 0, vI (-1000000006)] [] s5 (fun v6 s6 => Q v6 s6)) else if x2 = (1 : Int) then Ev d 199 0 [vR 40 0, vI x1, vI x3] [] (xup (xup s3 40 0 6 0) 40 0 7 0) (fun v7 s7 => if (s7 40 0 7) = (0 : Int) then Q v7 s7 else Ev d 124 0 [vR 40 0, vI (-1000000006)] [] s7 (fun v8 s8 => Q v8 s8)) else if x2 = (2 : Int) then Ev d 201 0 [vR 40 0, vI x1, vI x3] [] (xup (xup s3 40 0 6 0) 40 0 7 0) (fun v9 s9 => if (s9 40 0 7) = (0 : Int) then Q v9 s9 else Ev d 124 0 [vR 40 0, vI (-1000000006)] [] s9 (fun v10 s10 => Q v10 s10)) else Ev d 203 0 [vR 40 0, vI x1, vI x3, vR 0 0] [] (xup (xup s3 40 0 6 0) 40 0 7 0) (fun v11 s11 => if (s11 40 0 7) = (0 : Int) then Q v11 s11 else Ev d 124 0 [vR 40 0, vI (-1000000006)] [] s11 (fun v12 s12 => Q v12 s12)))))) := EvN_eq [] 38 _ _ _ _ _ _ _
set_option maxRecDepth 100000 in
theorem b_M_body_0 {d : Nat} {σ : xM} {Q : Int → xM → Prop} {x1 : Int} : Ev (d + 1) 205 0 [vR 40 0, vI x1] [] σ Q = (Ev d 125 0 [vI x1, vI 0, vI (xwr ((σ 40 0 6) - 1))] [] σ (fun v1 s1 => if v1 = (0 : Int) then Ev d 124 0 [vR 40 0, vI (-1000000002)] [] s1 (fun v2 s2 => Q v2 s2) else ((0 : Int) ≤ x1 ∧ x1 < 30) ∧ (Q (s1 56 0 x1.toNat) s1))) := EvN_eq [] 15 _ _ _ _ _ _ _
set_option maxRecDepth 100000 in
theorem b_M_isSheet_0 {d : Nat} {σ : xM} {Q : Int → xM → Prop} {x0 : Int} : Ev (d + 1) 206 0 [vI x0] [] σ Q = (Ev d 125 0 [vI x0, vI 0, vI 3] [] σ (fun v1 s1 => (v1 = 0 ∨ v1 = 1) ∧ Q v1 s1)) := EvN_eq [] 6 _ _ _ _ _ _ _
set_option maxRecDepth 100000 in
theorem b_M_sheet_0 {d : Nat} {σ : xM} {Q : Int → xM → Prop} {x1 : Int} {x2 : Int} {x3 : Int} : Ev (d + 1) 207 0 [vR 40 0, vI x1, vI x2, vI x3, vR 0 0] [] σ Q = (Ev d 206 0 [vI x1] [] σ (fun v1 s1 => if v1 = (0 : Int) then Ev d 124 0 [vR 40 0, vI (-1000000001)] [] s1 (fun v2 s2 => Q v2 s2) else if x2 = (0 : Int) then if (0 : Int) < x2 then if x3 < (0 : Int) then Ev d 124 0 [vR 40 0, vI (-1000000003)] [] s1 (fun v3 s3 => Q v3 s3) else if (0 : Int) < x2 then if (24 : Int) < x3 then Ev d 124 0 [vR 40 0, vI (-1000000001)] [] s1 (fun v4 s4 => Q v4 s4) else ((0 : Int) ≤ x1 ∧ x1 < 4) ∧ (if x2 = (0 : Int) then ((0 : Int) ≤ x1 ∧ x1 < 4) ∧ (Ev (d + 1) 207 93 [vR 40 0, vI x1, vI x2, vI x3, vI 0] [] (xup (xup s1 45 0 x1.toNat x2) 46 0 x1.toNat 0) Q) else ((0 : Int) ≤ x1 ∧ x1 < 4) ∧ (Ev (d + 1) 207 93 [vR 40 0, vI x1, vI x2, vI x3, vI 0] [] (xup (xup s1 45 0 x1.toNat x2) 46 0 x1.toNat x3) Q)) else ((0 : Int) ≤ x1 ∧ x1 < 4) ∧ (if x2 = (0 : Int) then ((0 : Int) ≤ x1 ∧ x1 < 4) ∧ (Ev (d + 1) 207 93 [vR 40 0, vI x1, vI x2, vI x3, vI 0] [] (xup (xup s1 45 0 x1.toNat x2) 46 0 x1.toNat 0) Q) else ((0 : Int) ≤ x1 ∧ x1 < 4) ∧ (Ev (d + 1) 207 93 [vR 40 0, vI x1, vI x2, vI x3, vI 0] [] (xup (xup s1 45 0 x1.toNat x2) 46 0 x1.toNat x3) Q)) else if (0 : Int) < x2 then if (24 : Int) < x3 then Ev d 124 0 [vR 40 0, vI (-1000000001)] [] s1 (fun v5 s5 => Q v5 s5) else ((0 : Int) ≤ x1 ∧ x1 < 4) ∧ (if x2 = (0 : Int) then ((0 : Int) ≤ x1 ∧ x1 < 4) ∧ (Ev (d + 1) 207 93 [vR 40 0, vI x1, vI x2, vI x3, vI 0] [] (xup (xup s1 45 0 x1.toNat x2) 46 0 x1.toNat 0) Q) else ((0 : Int) ≤ x1 ∧ x1 < 4) ∧ (Ev (d + 1) 207 93 [vR 40 0, vI x1, vI x2, vI x3, vI 0] [] (xup (xup s1 45 0 x1.toNat x2) 46 0 x1.toNat x3) Q)) else ((0 : Int) ≤ x1 ∧ x1 < 4) ∧ (if x2 = (0 : Int) then ((0 : Int) ≤ x1 ∧ x1 < 4) ∧ (Ev (d + 1) 207 93 [vR 40 0, vI x1, vI x2, vI x3, vI 0] [] (xup (xup s1 45 0 x1.toNat x2) 46 0 x1.toNat 0) Q) else ((0 : Int) ≤ x1 ∧ x1 < 4) ∧ (Ev (d + 1) 207 93 [vR 40 0, vI x1, vI x2, vI x3, vI 0] [] (xup (xup s1 45 0 x1.toNat x2) 46 0 x1.toNat x3) Q)) else if x2 = (8 : Int) then if (0 : Int) < x2 then if x3 < (0 : Int) then Ev d 124 0 [vR 40 0, vI (-1000000003)] [] s1 (fun v6 s6 => Q v6 s6) else if (0 : Int) < x2 then if (24 : Int) < x3 then Ev d 124 0 [vR 40 0, vI (-1000000001)] [] s1 (fun v7 s7 => Q v7 s7) else ((0 : Int) ≤ x1 ∧ x1 < 4) ∧ (if x2 = (0 : Int) then ((0 : Int) ≤ x1 ∧ x1 < 4) ∧ (Ev (d + 1) 207 93 [vR 40 0, vI x1, vI x2, vI x3, vI 0] [] (xup (xup s1 45 0 x1.toNat x2) 46 0 x1.toNat 0) Q) else ((0 : Int) ≤ x1 ∧ x1 < 4) ∧ (Ev (d + 1) 207 93 [vR 40 0, vI x1, vI x2, vI x3, vI 0] [] (xup (xup s1 45 0 x1.toNat x2) 46 0 x1.toNat x3) Q)) else ((0 : Int) ≤ x1 ∧ x1 < 4) ∧ (if x2 = (0 : Int) then ((0 : Int) ≤ x1 ∧ x1 < 4) ∧ (Ev (d + 1) 207 93 [vR 40 0, vI x1, vI x2, vI x3, vI 0] [] (xup (xup s1 45 0 x1.toNat x2) 46 0 x1.toNat 0) Q) else ((0 : Int) ≤ x1 ∧ x1 < 4) ∧ (Ev (d + 1) 207 93 [vR 40 0, vI x1, vI x2, vI x3, vI 0] [] (xup (xup s1 45 0 x1.toNat x2) 46 0 x1.toNat x3) Q)) else if (0 : Int) < x2 then if (24 : Int) < x3 then Ev d 124 0 [vR 40 0, vI (-1000000001)] [] s1 (fun v8 s8 => Q v8 s8) else ((0 : Int) ≤ x1 ∧ x1 < 4) ∧ (if x2 = (0 : Int) then ((0 : Int) ≤ x1 ∧ x1 < 4) ∧ (Ev (d + 1) 207 93 [vR 40 0, vI x1, vI x2, vI x3, vI 0] [] (xup (xup s1 45 0 x1.toNat x2) 46 0 x1.toNat 0) Q) else ((0 : Int) ≤ x1 ∧ x1 < 4) ∧ (Ev (d + 1) 207 93 [vR 40 0, vI x1, vI x2, vI x3, vI 0] [] (xup (xup s1 45 0 x1.toNat x2) 46 0 x1.toNat x3) Q)) else ((0 : Int) ≤ x1 ∧ x1 < 4) ∧ (if x2 = (0 : Int) then ((0 : Int) ≤ x1 ∧ x1 < 4) ∧ (Ev (d + 1) 207 93 [vR 40 0, vI x1, vI x2, vI x3, vI 0] [] (xup (xup s1 45 0 x1.toNat x2) 46 0 x1.toNat 0) Q) else ((0 : Int) ≤ x1 ∧ x1 < 4) ∧ (Ev (d + 1) 207 93 [vR 40 0, vI x1, vI x2, vI x3, vI 0] [] (xup (xup s1 45 0 x1.toNat x2) 46 0 x1.toNat x3) Q)) else if x2 = (16 : Int) then if (0 : Int) < x2 then if x3 < (0 : Int) then Ev d 124 0 [vR 40 0, vI (-1000000003)] [] s1 (fun v9 s9 => Q v9 s9) else if (0 : Int) < x2 then if (24 : Int) < x3 then Ev d 124 0 [vR 40 0, vI (-1000000001)] [] s1 (fun v10 s10 => Q v10 s10) else ((0 : Int) ≤ x1 ∧ x1 < 4) ∧ (if x2 = (0 : Int) then ((0 : Int) ≤ x1 ∧ x1 < 4) ∧ (Ev (d + 1) 207 93 [vR 40 0, vI x1, vI x2, vI x3, vI 0] [] (xup (xup s1 45 0 x1.toNat x2) 46 0 x1.toNat 0) Q) else ((0 : Int) ≤ x1 ∧ x1 < 4) ∧ (Ev (d + 1) 207 93 [vR 40 0, vI x1, vI x2, vI x3, vI 0] [] (xup (xup s1 45 0 x1.toNat x2) 46 0 x1.toNat x3) Q)) else ((0 : Int) ≤ x1 ∧ x1 < 4) ∧ (if x2 = (0 : Int) then ((0 : Int) ≤ x1 ∧ x1 < 4) ∧ (Ev (d + 1) 207 93 [vR 40 0, vI x1, vI x2, vI x3, vI 0] [] (xup (xup s1 45 0 x1.toNat x2) 46 0 x1.toNat 0) Q) else ((0 : Int) ≤ x1 ∧ x1 < 4) ∧ (Ev (d + 1) 207 93 [vR 40 0, vI x1, vI x2, vI x3, vI 0] [] (xup (xup s1 45 0 x1.toNat x2) 46 0 x1.toNat x3) Q)) else if (0 : Int) < x2 then if (24 : Int) < x3 then Ev d 124 0 [vR 40 0, vI (-1000000001)] [] s1 (fun v11 s11 => Q v11 s11) else ((0 : Int) ≤ x1 ∧ x1 < 4) ∧ (if x2 = (0 : Int) then ((0 : Int) ≤ x1 ∧ x1 < 4) ∧ (Ev (d + 1) 207 93 [vR 40 0, vI x1, vI x2, vI x3, vI 0] [] (xup (xup s1 45 0 x1.toNat x2) 46 0 x1.toNat 0) Q) else ((0 : Int) ≤ x1 ∧ x1 < 4) ∧ (Ev (d + 1) 207 93 [vR 40 0, vI x1, vI x2, vI x3, vI 0] [] (xup (xup s1 45 0 x1.toNat x2) 46 0 x1.toNat x3) Q)) else ((0 : Int) ≤ x1 ∧ x1 < 4) ∧ (if x2 = (0 : Int) then ((0 : Int) ≤ x1 ∧ x1 < 4) ∧ (Ev (d + 1) 207 93 [vR 40 0, vI x1, vI x2, vI x3, vI 0] [] (xup (xup s1 45 0 x1.toNat x2) 46 0 x1.toNat 0) Q) else ((0 : Int) ≤ x1 ∧ x1 < 4) ∧ (Ev (d + 1) 207 93 [vR 40 0, vI x1, vI x2, vI x3, vI 0] [] (xup (xup s1 45 0 x1.toNat x2) 46 0 x1.toNat x3) Q)) else if x2 = (32 : Int) then if (0 : Int) < x2 then if x3 < (0 : Int) then Ev d 124 0 [vR 40 0, vI (-1000000003)] [] s1 (fun v12 s12 => Q v12 s12) else if (0 : Int) < x2 then if (24 : Int) < x3 then Ev d 124 0 [vR 40 0, vI (-1000000001)] [] s1 (fun v13 s13 => Q v13 s13) else ((0 : Int) ≤ x1 ∧ x1 < 4) ∧ (if x2 = (0 : Int) then ((0 : Int) ≤ x1 ∧ x1 < 4) ∧ (Ev (d + 1) 207 93 [vR 40 0, vI x1, vI x2, vI x3, vI 0] [] (xup (xup s1 45 0 x1.toNat x2) 46 0 x1.toNat 0) Q) else ((0 : Int) ≤ x1 ∧ x1 < 4) ∧ (Ev (d + 1) 207 93 [vR 40 0, vI x1, vI x2, vI x3, vI 0] [] (xup (xup s1 45 0 x1.toNat x2) 46 0 x1.toNat x3) Q)) else ((0 : Int) ≤ x1 ∧ x1 < 4) ∧ (if x2 = (0 : Int) then ((0 : Int) ≤ x1 ∧ x1 < 4) ∧ (Ev (d + 1) 207 93 [vR 40 0, vI x1, vI x2, vI x3, vI 0] [] (xup (xup s1 45 0 x1.toNat x2) 46 0 x1.toNat 0) Q) else ((0 : Int) ≤ x1 ∧ x1 < 4) ∧ (Ev (d + 1) 207 93 [vR 40 0, vI x1, vI x2, vI x3, vI 0] [] (xup (xup s1 45 0 x1.toNat x2) 46 0 x1.toNat x3) Q)) else if (0 : Int) < x2 then if (24 : Int) < x3 then Ev d 124 0 [vR 40 0, vI (-1000000001)] [] s1 (fun v14 s14 => Q v14 s14) else ((0 : Int) ≤ x1 ∧ x1 < 4) ∧ (if x2 = (0 : Int) then ((0 : Int) ≤ x1 ∧ x1 < 4) ∧ (Ev (d + 1) 207 93 [vR 40 0, vI x1, vI x2, vI x3, vI 0] [] (xup (xup s1 45 0 x1.toNat x2) 46 0 x1.toNat 0) Q) else ((0 : Int) ≤ x1 ∧ x1 < 4) ∧ (Ev (d + 1) 207 93 [vR 40 0, vI x1, vI x2, vI x3, vI 0] [] (xup (xup s1 45 0 x1.toNat x2) 46 0 x1.toNat x3) Q)) else ((0 : Int) ≤ x1 ∧ x1 < 4) ∧ (if x2 = (0 : Int) then ((0 : Int) ≤ x1 ∧ x1 < 4) ∧ (Ev (d + 1) 207 93 [vR 40 0, vI x1, vI x2, vI x3, vI 0] [] (xup (xup s1 45 0 x1.toNat x2) 46 0 x1.toNat 0) Q) else ((0 : Int) ≤ x1 ∧ x1 < 4) ∧ (Ev (d + 1) 207 93 [vR 40 0, vI x1, vI x2, vI x3, vI 0] [] (xup (xup s1 45 0 x1.toNat x2) 46 0 x1.toNat x3) Q)) else Ev d 124 0 [vR 40 0, vI (-1000000001)] [] s1 (fun v15 s15 => Q v15 s15))) := EvN_eq [93] 40 _ _ _ _ _ _ _
set_option maxRecDepth 100000 in
theorem b_M_sheet_93 {d : Nat} {σ : xM} {Q : Int → xM → Prop} {x1 : Int} {x2 : Int} {x3 : Int} {x4 : Int} : Ev d 207 93 [vR 40 0, vI x1, vI x2, vI x3, vI x4] [] σ Q = (if x4 < (24 : Int) then ((0 : Int) ≤ (xwr ((xwr (24 * x1)) + x4)) ∧ (xwr ((xwr (24 * x1)) + x4)) < 96) ∧ (Ev d 207 93 [vR 40 0, vI x1, vI x2, vI x3, vI (xwr (x4 + 1))] [] (xup σ 47 0 ((xwr ((xwr (24 * x1)) + x4)).toNat) 0) Q) else Q 1 σ) := EvN_eq [93] 16 _ _ _ _ _ _ _
set_option maxRecDepth 100000 in
theorem b_M_notThere_0 {d : Nat} {σ : xM} {Q : Int → xM → Prop} {x1 : Int} : Ev (d + 1) 208 0 [vR 40 0, vI x1] [] σ Q = (Ev d 206 0 [vI x1] [] σ (fun v1 s1 => if v1 = (0 : Int) then Q (-1000000001) s1 else ((0 : Int) ≤ x1 ∧ x1 < 4) ∧ (if (s1 45 0 x1.toNat) = (0 : Int) then Q (-1000000002) s1 else Q 0 s1))) := EvN_eq [] 12 _ _ _ _ _ _ _
set_option maxRecDepth 100000 in
theorem b_M_put_0 {d : Nat} {σ : xM} {Q : Int → xM → Prop} {x1 : Int} {x2 : Int} {x3 : Int} : Ev (d + 1) 209 0 [vR 40 0, vI x1, vI x2, vI x3, vR 0 0] [] σ Q = (Ev d 208 0 [vR 40 0, vI x1] [] σ (fun v1 s1 => if v1 = (0 : Int) then ((0 : Int) ≤ x1 ∧ x1 < 4) ∧ (Ev d 125 0 [vI x2, vI 0, vI (xwr ((s1 46 0 x1.toNat) - 1))] [] s1 (fun v2 s2 => if v2 = (0 : Int) then if ((-1000000001) : Int) = (0 : Int) then ((0 : Int) ≤ x1 ∧ x1 < 4) ∧ (if (s2 45 0 x1.toNat) = (8 : Int) then ((0 : Int) ≤ (xwr ((xwr (24 * x1)) + x2)) ∧ (xwr ((xwr (24 * x1)) + x2)) < 96) ∧ (Q 1 (xup s2 47 0 ((xwr ((xwr (24 * x1)) + x2)).toNat) (xi2b x3))) else ((0 : Int) ≤ x1 ∧ x1 < 4) ∧ (if (s2 45 0 x1.toNat) = (16 : Int) then ((0 : Int) ≤ (xwr ((xwr (24 * x1)) + x2)) ∧ (xwr ((xwr (24 * x1)) + x2)) < 96) ∧ (Q 1 (xup s2 47 0 ((xwr ((xwr (24 * x1)) + x2)).toNat) (xi2s x3))) else ((0 : Int) ≤ (xwr ((xwr (24 * x1)) + x2)) ∧ (xwr ((xwr (24 * x1)) + x2)) < 96) ∧ (Q 1 (xup s2 47 0 ((xwr ((xwr (24 * x1)) + x2)).toNat) x3)))) else Ev d 124 0 [vR 40 0, vI (-1000000001)] [] s2 (fun v3 s3 => Q v3 s3) else if v1 = (0 : Int) then ((0 : Int) ≤ x1 ∧ x1 < 4) ∧ (if (s2 45 0 x1.toNat) = (8 : Int) then ((0 : Int) ≤ (xwr ((xwr (24 * x1)) + x2)) ∧ (xwr ((xwr (24 * x1)) + x2)) < 96) ∧ (Q 1 (xup s2 47 0 ((xwr ((xwr (24 * x1)) + x2)).toNat) (xi2b x3))) else ((0 : Int) ≤ x1 ∧ x1 < 4) ∧ (if (s2 45 0 x1.toNat) = (16 : Int) then ((0 : Int) ≤ (xwr ((xwr (24 * x1)) + x2)) ∧ (xwr ((xwr (24 * x1)) + x2)) < 96) ∧ (Q 1 (xup s2 47 0 ((xwr ((xwr (24 * x1)) + x2)).toNat) (xi2s x3))) else ((0 : Int) ≤ (xwr ((xwr (24 * x1)) + x2)) ∧ (xwr ((xwr (24 * x1)) + x2)) < 96) ∧ (Q 1 (xup s2 47 0 ((xwr ((xwr (24 * x1)) + x2)).toNat) x3)))) else Ev d 124 0 [vR 40 0, vI v1] [] s2 (fun v4 s4 => Q v4 s4))) else if v1 = (0 : Int) then ((0 : Int) ≤ x1 ∧ x1 < 4) ∧ (if (s1 45 0 x1.toNat) = (8 : Int) then ((0 : Int) ≤ (xwr ((xwr (24 * x1)) + x2)) ∧ (xwr ((xwr (24 * x1)) + x2)) < 96) ∧ (Q 1 (xup s1 47 0 ((xwr ((xwr (24 * x1)) + x2)).toNat) (xi2b x3))) else ((0 : Int) ≤ x1 ∧ x1 < 4) ∧ (if (s1 45 0 x1.toNat) = (16 : Int) then ((0 : Int) ≤ (xwr ((xwr (24 * x1)) + x2)) ∧ (xwr ((xwr (24 * x1)) + x2)) < 96) ∧ (Q 1 (xup s1 47 0 ((xwr ((xwr (24 * x1)) + x2)).toNat) (xi2s x3))) else ((0 : Int) ≤ (xwr ((xwr (24 * x1)) + x2)) ∧ (xwr ((xwr (24 * x1)) + x2)) < 96) ∧ (Q 1 (xup s1 47 0 ((xwr ((xwr (24 * x1)) + x2)).toNat) x3)))) else Ev d 124 0 [vR 40 0, vI v1] [] s1 (fun v5 s5 => Q v5 s5))) := EvN_eq [] 47 _ _ _ _ _ _ _
set_option maxRecDepth 100000 in
theorem b_M_notMoved_0 {d : Nat} {σ : xM} {Q : Int → xM → Prop} {x1 : Int} {x2 : Int} {x3 : Int} {x4 : Int} {x5 : Int} : Ev (d + 1) 210 0 [vR 40 0, vI x1, vI x2, vI x3, vI x4, vI x5, vR 0 0] [] σ Q = (Ev d 206 0 [vI x1] [] σ (fun v1 s1 => if v1 = (0 : Int) then Q (-1000000001) s1 else Ev d 206 0 [vI x3] [] s1 (fun v2 s2 => if v2 = (0 : Int) then Q (-1000000001) s2 else ((0 : Int) ≤ x1 ∧ x1 < 4) ∧ (if (s2 45 0 x1.toNat) = (0 : Int) then Q (-1000000002) s2 else ((0 : Int) ≤ x3 ∧ x3 < 4) ∧ (if (s2 45 0 x3.toNat) = (0 : Int) then Q (-1000000002) s2 else ((0 : Int) ≤ x1 ∧ x1 < 4) ∧ (((0 : Int) ≤ x3 ∧ x3 < 4) ∧ (if (s2 45 0 x1.toNat) = (s2 45 0 x3.toNat) then if x5 < (0 : Int) then if (0 : Int) = (0 : Int) then Q (-1000000001) s2 else Q 0 s2 else if x2 < (0 : Int) then if (0 : Int) = (0 : Int) then Q (-1000000001) s2 else Q 0 s2 else if x4 < (0 : Int) then if (0 : Int) = (0 : Int) then Q (-1000000001) s2 else Q 0 s2 else ((0 : Int) ≤ x1 ∧ x1 < 4) ∧ (if (xwr ((s2 46 0 x1.toNat) - x2)) < x5 then if (0 : Int) = (0 : Int) then Q (-1000000001) s2 else Q 0 s2 else ((0 : Int) ≤ x3 ∧ x3 < 4) ∧ (if (xwr ((s2 46 0 x3.toNat) - x4)) < x5 then if (0 : Int) = (0 : Int) then Q (-1000000001) s2 else Q 0 s2 else if (1 : Int) = (0 : Int) then Q (-1000000001) s2 else Q 0 s2)) else Q (-1000000005) s2))))))) := EvN_eq [] 56 _ _ _ _ _ _ _
set_option maxRecDepth 100000 in
theorem b_M_move_0 {d : Nat} {σ : xM} {Q : Int → xM → Prop} {x1 : Int} {x2 : Int} {x3 : Int} {x4 : Int} {x5 : Int} : Ev (d + 1) 211 0 [vR 40 0, vI x1, vI x2, vI x3, vI x4, vI x5, vR 0 0, vR 0 0, vR 0 0] [] σ Q = (Ev d 210 0 [vR 40 0, vI x1, vI x2, vI x3, vI x4, vI x5, vR 0 0] [] σ (fun v1 s1 => if v1 = (0 : Int) then Ev (d + 1) 211 28 [vR 40 0, vI x1, vI x2, vI x3, vI x4, vI x5, vI v1, vI 0, vR 0 0] [] s1 Q else Ev d 124 0 [vR 40 0, vI v1] [] s1 (fun v2 s2 => Q v2 s2))) := EvN_eq [28] 15 _ _ _ _ _ _ _
set_option maxRecDepth 100000 in
theorem b_M_move_28 {d : Nat} {σ : xM} {Q : Int → xM → Prop} {x1 : Int} {x2 : Int} {x3 : Int} {x4 : Int} {x5 : Int} {x6 : Int} {x7 : Int} {wx8 : xV} : Ev d 211 28 [vR 40 0, vI x1, vI x2, vI x3, vI x4, vI x5, vI x6, vI x7, wx8] [] σ Q = (if x7 < x5 then if x2 < x4 then ((0 : Int) ≤ (xwr ((xwr ((xwr (24 * x1)) + x2)) + (xwr ((xwr (x5 - 1)) - x7)))) ∧ (xwr ((xwr ((xwr (24 * x1)) + x2)) + (xwr ((xwr (x5 - 1)) - x7)))) < 96) ∧ (((0 : Int) ≤ (xwr ((xwr ((xwr (24 * x3)) + x4)) + (xwr ((xwr (x5 - 1)) - x7)))) ∧ (xwr ((xwr ((xwr (24 * x3)) + x4)) + (xwr ((xwr (x5 - 1)) - x7)))) < 96) ∧ (Ev d 211 28 [vR 40 0, vI x1, vI x2, vI x3, vI x4, vI x5, vI x6, vI (xwr (x7 + 1)), vI (xwr ((xwr (x5 - 1)) - x7))] [] (xup σ 47 0 ((xwr ((xwr ((xwr (24 * x3)) + x4)) + (xwr ((xwr (x5 - 1)) - x7)))).toNat) (σ 47 0 ((xwr ((xwr ((xwr (24 * x1)) + x2)) + (xwr ((xwr (x5 - 1)) - x7)))).toNat))) Q)) else ((0 : Int) ≤ (xwr ((xwr ((xwr (24 * x1)) + x2)) + x7)) ∧ (xwr ((xwr ((xwr (24 * x1)) + x2)) + x7)) < 96) ∧ (((0 : Int) ≤ (xwr ((xwr ((xwr (24 * x3)) + x4)) + x7)) ∧ (xwr ((xwr ((xwr (24 * x3)) + x4)) + x7)) < 96) ∧ (Ev d 211 28 [vR 40 0, vI x1, vI x2, vI x3, vI x4, vI x5, vI x6, vI (xwr (x7 + 1)), vI x7] [] (xup σ 47 0 ((xwr ((xwr ((xwr (24 * x3)) + x4)) + x7)).toNat) (σ 47 0 ((xwr ((xwr ((xwr (24 * x1)) + x2)) + x7)).toNat))) Q)) else Q x5 σ) := EvN_eq [28] 37 _ _ _ _ _ _ _
set_option maxRecDepth 100000 in
theorem b_M_casts_0 {d : Nat} {σ : xM} {Q : Int → xM → Prop} {x1 : Int} : Ev (d + 1) 212 0 [vR 40 0, vI x1, vR 0 0, vR 0 0, vR 0 0, vR 0 0] [] σ Q = (Ev d 208 0 [vR 40 0, vI x1] [] σ (fun v1 s1 => if v1 = (0 : Int) then Ev d 178 0 [vR 40 0, vR 0 0] [] s1 (fun v2 s2 => Ev (d + 1) 212 25 [vR 40 0, vI x1, vI v1, vI 0, vI 1, vR 0 0] [] s2 Q) else Ev d 124 0 [vR 40 0, vI v1] [] s1 (fun v3 s3 => Q v3 s3))) := EvN_eq [25] 14 _ _ _ _ _ _ _
set_option maxRecDepth 100000 in
theorem b_M_casts_25 {d : Nat} {σ : xM} {Q : Int → xM → Prop} {x1 : Int} {x2 : Int} {x3 : Int} {x4 : Int} {wx5 : xV} : Ev (d + 1) 212 25 [vR 40 0, vI x1, vI x2, vI x3, vI x4, wx5] [] σ Q = (((0 : Int) ≤ x1 ∧ x1 < 4) ∧ (if x3 < (σ 46 0 x1.toNat) then ((0 : Int) ≤ 3 ∧ (3 : Int) < 410) ∧ (if x3 < (σ 41 0 (Int.toNat 3)) then if x4 = (0 : Int) then Q x3 σ else ((0 : Int) ≤ (xwr ((xwr (24 * x1)) + x3)) ∧ (xwr ((xwr (24 * x1)) + x3)) < 96) ∧ (if (σ 47 0 ((xwr ((xwr (24 * x1)) + x3)).toNat)) = ((-1) : Int) then if (1 : Int) = (0 : Int) then Ev (d + 1) 212 25 [vR 40 0, vI x1, vI x2, vI x3, vI 1, vI (σ 47 0 ((xwr ((xwr (24 * x1)) + x3)).toNat))] [] σ Q else Ev d 136 0 [vR 40 0, vI x3, vI 5, vI (σ 47 0 ((xwr ((xwr (24 * x1)) + x3)).toNat))] [] σ (fun v1 s1 => Ev (d + 1) 212 25 [vR 40 0, vI x1, vI x2, vI (xwr (x3 + 1)), vI 1, vI (σ 47 0 ((xwr ((xwr (24 * x1)) + x3)).toNat))] [] s1 Q) else Ev d 131 0 [vR 40 0, vI (σ 47 0 ((xwr ((xwr (24 * x1)) + x3)).toNat))] [] σ (fun v2 s2 => if v2 = (0 : Int) then if (0 : Int) = (0 : Int) then Ev (d + 1) 212 25 [vR 40 0, vI x1, vI x2, vI x3, vI 0, vI (σ 47 0 ((xwr ((xwr (24 * x1)) + x3)).toNat))] [] s2 Q else Ev d 136 0 [vR 40 0, vI x3, vI 5, vI (σ 47 0 ((xwr ((xwr (24 * x1)) + x3)).toNat))] [] s2 (fun v3 s3 => Ev (d + 1) 212 25 [vR 40 0, vI x1, vI x2, vI (xwr (x3 + 1)), vI 0, vI (σ 47 0 ((xwr ((xwr (24 * x1)) + x3)).toNat))] [] s3 Q) else Ev d 137 0 [vR 40 0, vI x3, vI (σ 47 0 ((xwr ((xwr (24 * x1)) + x3)).toNat)), vR 0 0, vR 0 0] [] s2 (fun v4 s4 => if v4 = (0 : Int) then if (0 : Int) = (0 : Int) then Ev (d + 1) 212 25 [vR 40 0, vI x1, vI x2, vI x3, vI 0, vI (σ 47 0 ((xwr ((xwr (24 * x1)) + x3)).toNat))] [] s4 Q else Ev d 136 0 [vR 40 0, vI x3, vI 5, vI (σ 47 0 ((xwr ((xwr (24 * x1)) + x3)).toNat))] [] s4 (fun v5 s5 => Ev (d + 1) 212 25 [vR 40 0, vI x1, vI x2, vI (xwr (x3 + 1)), vI 0, vI (σ 47 0 ((xwr ((xwr (24 * x1)) + x3)).toNat))] [] s5 Q) else Ev d 143 0 [vR 40 0, vI (σ 47 0 ((xwr ((xwr (24 * x1)) + x3)).toNat)), vR 0 0] [] s4 (fun v6 s6 => if v6 < (0 : Int) then if (1 : Int) = (0 : Int) then Ev (d + 1) 212 25 [vR 40 0, vI x1, vI x2, vI x3, vI 1, vI (σ 47 0 ((xwr ((xwr (24 * x1)) + x3)).toNat))] [] s6 Q else Ev d 136 0 [vR 40 0, vI x3, vI 5, vI (σ 47 0 ((xwr ((xwr (24 * x1)) + x3)).toNat))] [] s6 (fun v7 s7 => Ev (d + 1) 212 25 [vR 40 0, vI x1, vI x2, vI (xwr (x3 + 1)), vI 1, vI (σ 47 0 ((xwr ((xwr (24 * x1)) + x3)).toNat))] [] s7 Q) else if (0 : Int) = (0 : Int) then Ev (d + 1) 212 25 [vR 40 0, vI x1, vI x2, vI x3, vI 0, vI (σ 47 0 ((xwr ((xwr (24 * x1)) + x3)).toNat))] [] s6 Q else Ev d 136 0 [vR 40 0, vI x3, vI 5, vI (σ 47 0 ((xwr ((xwr (24 * x1)) + x3)).toNat))] [] s6 (fun v8 s8 => Ev (d + 1) 212 25 [vR 40 0, vI x1, vI x2, vI (xwr (x3 + 1)), vI 0, vI (σ 47 0 ((xwr ((xwr (24 * x1)) + x3)).toNat))] [] s8 Q))))) else Q x3 σ) else Q x3 σ)) := EvN_eq [25] 53 _ _ _ _ _ _ _
set_option maxRecDepth 100000 in
theorem b_M_judge_0 {d : Nat} {σ : xM} {Q : Int → xM → Prop} {x1 : Int} : Ev (d + 1) 213 0 [vR 40 0, vI x1, vR 0 0] [] σ Q = (Ev d 208 0 [vR 40 0, vI x1] [] σ (fun v1 s1 => if v1 = (0 : Int) then Ev d 191 0 [vR 40 0, vI x1, vR 0 0] [] s1 (fun v2 s2 => Q v2 s2) else Ev d 124 0 [vR 40 0, vI v1] [] s1 (fun v3 s3 => Q v3 s3))) := EvN_eq [] 12 _ _ _ _ _ _ _
set_option maxRecDepth 100000 in
theorem b_M_image_0 {d : Nat} {σ : xM} {Q : Int → xM → Prop} : Ev (d + 1) 214 0 [vR 40 0] [] σ Q = (Ev d 127 0 [vR 41 0, vR 42 0, vR 0 0] [] σ (fun v1 s1 => Q ((xup s1 40 0 0 (xwr ((s1 40 0 0) + 1))) 40 0 0) (xup s1 40 0 0 (xwr ((s1 40 0 0) + 1))))) := EvN_eq [] 15 _ _ _ _ _ _ _
set_option maxRecDepth 100000 in
theorem b_M_restore_0 {d : Nat} {σ : xM} {Q : Int → xM → Prop} : Ev (d + 1) 215 0 [vR 40 0] [] σ Q = (if (σ 40 0 0) = (0 : Int) then Ev d 124 0 [vR 40 0, vI (-1000000002)] [] σ (fun v1 s1 => Q v1 s1) else Ev d 127 0 [vR 42 0, vR 41 0, vR 0 0] [] σ (fun v2 s2 => ((0 : Int) ≤ 0 ∧ (0 : Int) < 410) ∧ (Q (s2 41 0 (Int.toNat 0)) s2))) := EvN_eq [] 14 _ _ _ _ _ _ _
set_option maxRecDepth 100000 in
theorem b_M_tell_0 {d : Nat} {σ : xM} {Q : Int → xM → Prop} {x1 : Int} : Ev (d + 1) 216 0 [vR 40 0, vI x1] [] σ Q = (((0 : Int) ≤ 6 ∧ (6 : Int) < 410) ∧ (if (σ 41 0 (Int.toNat 6)) = (24 : Int) then Ev d 124 0 [vR 40 0, vI (-1000000004)] [] σ (fun v1 s1 => Q v1 s1) else ((0 : Int) ≤ 6 ∧ (6 : Int) < 410) ∧ (((0 : Int) ≤ (xwr (144 + (σ 41 0 (Int.toNat 6)))) ∧ (xwr (144 + (σ 41 0 (Int.toNat 6)))) < 410) ∧ (((0 : Int) ≤ 6 ∧ (6 : Int) < 410) ∧ (((0 : Int) ≤ 6 ∧ (6 : Int) < 410) ∧ (((0 : Int) ≤ 6 ∧ (6 : Int) < 410) ∧ (Q ((xup (xup σ 41 0 ((xwr (144 + (σ 41 0 (Int.toNat 6)))).toNat) x1) 41 0 (Int.toNat 6) (xwr (((xup σ 41 0 ((xwr (144 + (σ 41 0 (Int.toNat 6)))).toNat) x1) 41 0 (Int.toNat 6)) + 1))) 41 0 (Int.toNat 6)) (xup (xup σ 41 0 ((xwr (144 + (σ 41 0 (Int.toNat 6)))).toNat) x1) 41 0 (Int.toNat 6) (xwr (((xup σ 41 0 ((xwr (144 + (σ 41 0 (Int.toNat 6)))).toNat) x1) 41 0 (Int.toNat 6)) + 1)))))))))) := EvN_eq [] 30 _ _ _ _ _ _ _
set_option maxRecDepth 100000 in
theorem b_M_check_0 {d : Nat} {σ : xM} {Q : Int → xM → Prop} : Ev d 217 0 [vR 40 0, vR 0 0, vR 0 0] [] σ Q = (((0 : Int) ≤ 6 ∧ (6 : Int) < 410) ∧ (((0 : Int) ≤ 6 ∧ (6 : Int) < 410) ∧ (Ev d 217 18 [vR 40 0, vI (σ 41 0 (Int.toNat 6)), vI 0] [] (xup σ 41 0 (Int.toNat 6) 0) Q))) := EvN_eq [18] 14 _ _ _ _ _ _ _
set_option maxRecDepth 100000 in
theorem b_M_check_18 {d : Nat} {σ : xM} {Q : Int → xM → Prop} {x1 : Int} {x2 : Int} : Ev (d + 1) 217 18 [vR 40 0, vI x1, vI x2] [] σ Q = (if x2 < x1 then Ev d 132 0 [vR 40 0, vI x2] [] σ (fun v1 s1 => if v1 = (0 : Int) then Q (xwr (1 + x2)) s1 else ((0 : Int) ≤ (xwr (144 + x2)) ∧ (xwr (144 + x2)) < 410) ∧ (Ev d 141 0 [vR 40 0, vI x2, vR 0 0] [] s1 (fun v2 s2 => if (s1 41 0 ((xwr (144 + x2)).toNat)) = v2 then Ev (d + 1) 217 18 [vR 40 0, vI x1, vI (xwr (x2 + 1))] [] s2 Q else Q (xwr (1 + x2)) s2))) else Q 0 σ) := EvN_eq [18] 22 _ _ _ _ _ _ _
set_option maxRecDepth 100000 in
theorem b_M_count_0 {d : Nat} {σ : xM} {Q : Int → xM → Prop} {x1 : Int} : Ev (d + 1) 218 0 [vR 40 0, vI x1] [] σ Q = (if x1 = 0 then ((0 : Int) ≤ 2 ∧ (2 : Int) < 410) ∧ (Q (σ 41 0 (Int.toNat 2)) σ) else if x1 = 1 then ((0 : Int) ≤ 3 ∧ (3 : Int) < 410) ∧ (Q (σ 41 0 (Int.toNat 3)) σ) else if x1 = 2 then ((0 : Int) ≤ 0 ∧ (0 : Int) < 410) ∧ (Q (σ 41 0 (Int.toNat 0)) σ) else if x1 = 3 then ((0 : Int) ≤ 4 ∧ (4 : Int) < 410) ∧ (Q (σ 41 0 (Int.toNat 4)) σ) else if x1 = 4 then ((0 : Int) ≤ 5 ∧ (5 : Int) < 410) ∧ (Q (σ 41 0 (Int.toNat 5)) σ) else if x1 = 5 then ((0 : Int) ≤ 6 ∧ (6 : Int) < 410) ∧ (Q (σ 41 0 (Int.toNat 6)) σ) else if x1 = 6 then Q (σ 40 0 6) σ else if x1 = 7 then ((0 : Int) ≤ 1 ∧ (1 : Int) < 410) ∧ (Q (σ 41 0 (Int.toNat 1)) σ) else Ev d 124 0 [vR 40 0, vI (-1000000001)] [] σ (fun v1 s1 => Q v1 s1)) := EvN_eq [] 8 _ _ _ _ _ _ _
set_option maxRecDepth 100000 in
theorem b_M_told_0 {d : Nat} {σ : xM} {Q : Int → xM → Prop} {x1 : Int} : Ev (d + 1) 219 0 [vR 40 0, vI x1] [] σ Q = (Ev d 125 0 [vI x1, vI 1, vI 6] [] σ (fun v1 s1 => if v1 = (0 : Int) then Ev d 124 0 [vR 40 0, vI (-1000000001)] [] s1 (fun v2 s2 => Q v2 s2) else ((0 : Int) ≤ x1 ∧ x1 < 7) ∧ (Q (s1 44 0 x1.toNat) s1))) := EvN_eq [] 12 _ _ _ _ _ _ _
end
section
/-! THE INVARIANT that ties class and reference; plain rows -/
theorem xw {x : Int} (h1 : -2147483648 ≤ x) (h2 : x < 2147483648) : xwr x = x := xn_id ⟨h1, h2⟩
theorem xin {x n : Int} {P : Prop} (h1 : 0 ≤ x) (h2 : x < n) : ((0 ≤ x ∧ x < n) ∧ P) = P := by simp [h1, h2]
theorem xtn_add {a b : Int} (ha : 0 ≤ a) (hb : 0 ≤ b) : (a + b).toNat = a.toNat + b.toNat := Int.toNat_add ha hb
theorem xtn_mul {a b : Int} (ha : 0 ≤ a) (hb : 0 ≤ b) : (a * b).toNat = a.toNat * b.toNat := by
  obtain ⟨m, rfl⟩ := Int.eq_ofNat_of_zero_le ha
  obtain ⟨n, rfl⟩ := Int.eq_ofNat_of_zero_le hb
  rw [← Int.natCast_mul]
  rfl
theorem xz0 {P : Prop} : (((0 : Int) = 0 ∨ (0 : Int) = 1) ∧ P) = P := by simp
theorem xz1 {P : Prop} : (((1 : Int) = 0 ∨ (1 : Int) = 1) ∧ P) = P := by simp
theorem xzc {c : Prop} [Decidable c] {P : Prop} : (((if c then (1 : Int) else 0) = 0 ∨ (if c then (1 : Int) else 0) = 1) ∧ P) = P := by by_cases h : c <;> simp [h]
theorem xbc {c : Prop} [Decidable c] : ((if c then (1 : Int) else 0) = 0) = ¬ c := by by_cases h : c <;> simp [h]
theorem xbc1 {c : Prop} [Decidable c] : ((if c then (1 : Int) else 0) = 1) = c := by by_cases h : c <;> simp [h]
theorem xne10 {P : Prop} : ((10 : Int) ≠ 0 ∧ P) = P := by simp
theorem xne2 {P : Prop} : ((2 : Int) ≠ 0 ∧ P) = P := by simp
theorem xup_t {σ : xM} {t i k t' : Nat} {v : Int} (h : t' ≠ t) : xup σ t i k v t' = σ t' := by
  funext a b
  unfold xup
  rw [if_neg (fun q => h q.1)]
theorem xup_i {σ : xM} {t i k i' : Nat} {v : Int} (h : i' ≠ i) : xup σ t i k v t i' = σ t i' := by
  funext b
  unfold xup
  rw [if_neg (fun q => h q.2.1)]
theorem xup_s {σ : xM} {t i k : Nat} {v : Int} : xup σ t i k v t i k = v := by
  unfold xup
  rw [if_pos ⟨rfl, rfl, rfl⟩]
theorem xup_k {σ : xM} {t i k k' : Nat} {v : Int} (h : k' ≠ k) : xup σ t i k v t i k' = σ t i k' := by
  rw [xup_at, if_neg h]
def xst (s c : Nat) : Nat := cond (Nat.beq s 0) c (7 + c)
def xs2 (s u : Nat) : Nat := cond (Nat.beq s 0) u (2 + u)
def xop (a : Int) : Prop := a = 37 ∨ a = 38 ∨ a = 42 ∨ a = 43 ∨ a = 45 ∨ a = 47 ∨ a = 60 ∨ a = 61 ∨ a = 62 ∨ a = 124
/-- a code of the class and the reference's step -/
def xcd (c a w : Int) : Prop := (a = 1 ∧ c = w ∧ 0 ≤ w) ∨ (a = 2 ∧ 0 ≤ w ∧ w ≤ 2 ∧ c = -1 - w) ∨ (a = 3 ∧ c = -33) ∨ (xop a ∧ c = -a)
/-- how many stand on the pile behind k steps -/
def xdep (P : Nat → Int) : Nat → Int
  | 0 => 0
  | k + 1 => xdep P k + (if P (1 + k) = 1 ∨ P (1 + k) = 2 then 1 else if P (1 + k) = 3 then 0 else -1)
/-- a text: of the class (len, codes), of the reference (P: length, steps, numbers) -/
def xtx (len : Int) (cs : Nat → Int) (P : Nat → Int) : Prop :=
  P 0 = len ∧ 0 ≤ len ∧ len ≤ 60 ∧ (∀ k : Nat, (k : Int) < len → xcd (cs k) (P (1 + k)) (P (61 + k)) ∧ (P (1 + k) = 3 → 1 ≤ xdep P k) ∧ (P (1 + k) ≠ 1 → P (1 + k) ≠ 2 → P (1 + k) ≠ 3 → 2 ≤ xdep P k)) ∧ (0 < len → xdep P len.toNat = 1)
def xcA (σ : xM) (s : Nat) (R : Nat → Int) : Prop := σ 5 s 0 = R 2 ∧ σ 5 s 1 = R 3 ∧ σ 5 s 2 = R 0 ∧ σ 5 s 3 = R 4 ∧ σ 5 s 4 = R 1 ∧ σ 5 s 5 = R 5 ∧ σ 5 s 6 = R 6
def xcB (σ : xM) (s : Nat) (R : Nat → Int) : Prop := ∀ p, p < 7 → σ 7 (xst s p) 0 = R (7 + 2 * p) ∧ σ 7 (xst s p) 1 = R (7 + 2 * p + 1)
def xcC (σ : xM) (s : Nat) (R : Nat → Int) : Prop := ∀ c, c < 7 → ∀ k, k < 6 → σ 9 (xst s c) k = R (21 + 9 * c + k)
def xcW (σ : xM) (s : Nat) (R : Nat → Int) : Prop := ∀ c, c < 7 → ∀ k, k < 3 → σ 10 (xst s c) k = R (21 + 9 * c + (6 + k))
def xcT (σ : xM) (s : Nat) (R : Nat → Int) : Prop := ∀ i, i < 60 → σ 11 s i = R (84 + i)
def xcN (σ : xM) (s : Nat) (R : Nat → Int) : Prop := ∀ i, i < 24 → σ 16 s i = R (144 + i)
def xcX (σ : xM) (s : Nat) (R : Nat → Int) : Prop := ∀ u, u < 2 → xtx (σ 13 (xs2 s u) 0) (σ 14 (xs2 s u)) (fun k => R (168 + 121 * u + k))
/-- the class's stage s is the row R -/
def xcpl (σ : xM) (s : Nat) (R : Nat → Int) : Prop := xcA σ s R ∧ xcB σ s R ∧ xcC σ s R ∧ xcW σ s R ∧ xcT σ s R ∧ xcN σ s R ∧ xcX σ s R
/-- a row that may be -/
def xvl (R : Nat → Int) : Prop :=
  (0 ≤ R 2 ∧ R 2 ≤ 7) ∧ (0 ≤ R 3 ∧ R 3 ≤ 7) ∧ (0 ≤ R 0 ∧ R 0 ≤ 9999) ∧ (-99999 ≤ R 4 ∧ R 4 ≤ 99999) ∧ (0 ≤ R 5 ∧ R 5 ≤ 60) ∧ (0 ≤ R 6 ∧ R 6 ≤ 24) ∧
  (∀ p : Nat, (p : Int) < R 2 → (0 ≤ R (7 + 2 * p) ∧ R (7 + 2 * p) ≤ 6) ∧ (0 ≤ R (7 + 2 * p + 1) ∧ R (7 + 2 * p + 1) ≤ 9)) ∧
  (∀ c : Nat, (c : Int) < R 3 → (0 ≤ R (21 + 9 * c + 0) ∧ R (21 + 9 * c + 0) ≤ 9) ∧ (1 ≤ R (21 + 9 * c + 1) ∧ R (21 + 9 * c + 1) ≤ 9) ∧ (R (21 + 9 * c + 2) = 0 ∨ R (21 + 9 * c + 2) = 1) ∧ (R (21 + 9 * c + 3) = 0 ∨ R (21 + 9 * c + 3) = 1) ∧ (-1 ≤ R (21 + 9 * c + 4) ∧ R (21 + 9 * c + 4) < R 2) ∧ (-1 ≤ R (21 + 9 * c + 5) ∧ R (21 + 9 * c + 5) < R 2)) ∧
  (∀ c : Nat, (c : Int) < R 3 → ∀ k, k < 3 → (-1 ≤ R (21 + 9 * c + (6 + k)) ∧ R (21 + 9 * c + (6 + k)) < R 2))
def xiE (σ : xM) : Prop := ∀ k, 1 ≤ k → k < 7 → σ 39 0 k = σ 44 0 k
def xiK (σ : xM) : Prop := σ 4 0 0 = σ 40 0 0 ∧ (σ 40 0 0 ≠ 0 → xvl (σ 42 0) ∧ xcpl σ 1 (σ 42 0))
def xiS (σ : xM) : Prop := ∀ s, s < 4 → σ 36 s 0 = σ 45 0 s ∧ σ 36 s 1 = σ 46 0 s ∧ (σ 45 0 s = 0 ∨ σ 45 0 s = 8 ∨ σ 45 0 s = 16 ∨ σ 45 0 s = 32) ∧ (0 ≤ σ 46 0 s ∧ σ 46 0 s ≤ 24) ∧ (σ 45 0 s = 0 → σ 46 0 s = 0) ∧ ∀ i, i < 24 → σ 37 s i = σ 47 0 (24 * s + i)
def xiV (σ : xM) : Prop := σ 33 0 0 = σ 40 0 6 ∧ (0 ≤ σ 40 0 6 ∧ σ 40 0 6 ≤ 30) ∧ ∀ i, i < 30 → σ 34 0 i = σ 56 0 i
/-- what holds between the calls -/
def Inv (σ : xM) : Prop := xvl (σ 41 0) ∧ xcpl σ 0 (σ 41 0) ∧ xiE σ ∧ xiK σ ∧ xiS σ ∧ xiV σ
theorem xcpl_cg {σ σ' : xM} {s : Nat} {R : Nat → Int} (h : xcpl σ s R) (h5 : σ' 5 = σ 5) (h7 : σ' 7 = σ 7) (h9 : σ' 9 = σ 9) (h10 : σ' 10 = σ 10) (h11 : σ' 11 = σ 11) (h13 : σ' 13 = σ 13) (h14 : σ' 14 = σ 14) (h16 : σ' 16 = σ 16) : xcpl σ' s R := by
  unfold xcpl xcA xcB xcC xcW xcT xcN xcX at h ⊢
  rw [h5, h7, h9, h10, h11, h13, h14, h16]
  exact h
/-- what a call leaves alone -/
theorem Inv_cg {σ σ' : xM} (h : Inv σ) (hf : ∀ t, t = 4 ∨ t = 5 ∨ t = 7 ∨ t = 9 ∨ t = 10 ∨ t = 11 ∨ t = 13 ∨ t = 14 ∨ t = 16 ∨ t = 33 ∨ t = 34 ∨ t = 36 ∨ t = 37 ∨ t = 39 ∨ t = 40 ∨ t = 41 ∨ t = 42 ∨ t = 44 ∨ t = 45 ∨ t = 46 ∨ t = 47 ∨ t = 56 → σ' t = σ t) : Inv σ' := by
  obtain ⟨h1, h2, h3, h4, h5, h6⟩ := h
  refine ⟨by rw [hf 41 (by omega)]; exact h1, ?_, ?_, ?_, ?_, ?_⟩
  · rw [hf 41 (by omega)]
    exact xcpl_cg h2 (hf 5 (by omega)) (hf 7 (by omega)) (hf 9 (by omega)) (hf 10 (by omega)) (hf 11 (by omega)) (hf 13 (by omega)) (hf 14 (by omega)) (hf 16 (by omega))
  · unfold xiE at h3 ⊢
    rw [hf 39 (by omega), hf 44 (by omega)]
    exact h3
  · unfold xiK at h4 ⊢
    rw [hf 4 (by omega), hf 40 (by omega), hf 42 (by omega)]
    exact ⟨h4.1, fun hn => ⟨(h4.2 hn).1, xcpl_cg (h4.2 hn).2 (hf 5 (by omega)) (hf 7 (by omega)) (hf 9 (by omega)) (hf 10 (by omega)) (hf 11 (by omega)) (hf 13 (by omega)) (hf 14 (by omega)) (hf 16 (by omega))⟩⟩
  · unfold xiS at h5 ⊢
    rw [hf 36 (by omega), hf 37 (by omega), hf 45 (by omega), hf 46 (by omega), hf 47 (by omega)]
    exact h5
  · unfold xiV at h6 ⊢
    rw [hf 33 (by omega), hf 34 (by omega), hf 40 (by omega), hf 56 (by omega)]
    exact h6
theorem Inv_err {σ : xM} {k : Nat} {x : Int} (h : Inv σ) (h1 : 1 ≤ k) (h7 : k < 7) (hx : x = σ 44 0 k) : Inv (xup (xup σ 39 0 k (xwr (σ 39 0 k + 1))) 44 0 k (xwr (x + 1))) := by
  subst hx
  obtain ⟨i1, i2, i3, i4, i5, i6⟩ := h
  have hf : ∀ t, t ≠ 39 → t ≠ 44 → xup (xup σ 39 0 k (xwr (σ 39 0 k + 1))) 44 0 k (xwr (σ 44 0 k + 1)) t = σ t := fun t a b => by rw [xup_t b, xup_t a]
  refine ⟨by rw [hf 41 (by decide) (by decide)]; exact i1, ?_, ?_, ?_, ?_, ?_⟩
  · rw [hf 41 (by decide) (by decide)]
    exact xcpl_cg i2 (hf _ (by decide) (by decide)) (hf _ (by decide) (by decide)) (hf _ (by decide) (by decide)) (hf _ (by decide) (by decide)) (hf _ (by decide) (by decide)) (hf _ (by decide) (by decide)) (hf _ (by decide) (by decide)) (hf _ (by decide) (by decide))
  · intro j h1 h2
    rw [xup_t (t' := 39) (by decide), xup_at, xup_at, xup_t (t' := 44) (by decide), i3 j h1 h2, i3 k ‹_› h7]
  · unfold xiK at i4 ⊢
    rw [hf 4 (by decide) (by decide), hf 40 (by decide) (by decide), hf 42 (by decide) (by decide)]
    exact ⟨i4.1, fun hn => ⟨(i4.2 hn).1, xcpl_cg (i4.2 hn).2 (hf _ (by decide) (by decide)) (hf _ (by decide) (by decide)) (hf _ (by decide) (by decide)) (hf _ (by decide) (by decide)) (hf _ (by decide) (by decide)) (hf _ (by decide) (by decide)) (hf _ (by decide) (by decide)) (hf _ (by decide) (by decide))⟩⟩
  · unfold xiS at i5 ⊢
    rw [hf 36 (by decide) (by decide), hf 37 (by decide) (by decide), hf 45 (by decide) (by decide), hf 46 (by decide) (by decide), hf 47 (by decide) (by decide)]
    exact i5
  · unfold xiV at i6 ⊢
    rw [hf 33 (by decide) (by decide), hf 34 (by decide) (by decide), hf 40 (by decide) (by decide), hf 56 (by decide) (by decide)]
    exact i6
/-- the smallest methods -/
theorem e_in {d : Nat} {σ : xM} {Q : Int → xM → Prop} {x a b : Int} : Ev d m_M_in 0 [vI x, vI a, vI b] [] σ Q = Q (if a ≤ x ∧ x ≤ b then 1 else 0) σ := by
  rw [b_M_in_0]
  by_cases h1 : x < a
  · rw [if_pos h1, if_neg (by omega), xz0]
  · by_cases h2 : b < x
    · rw [if_neg h1, if_pos h2, if_neg (by omega), xz0]
    · rw [if_neg h1, if_neg h2, if_pos (by omega), xz1]
theorem e_isWithin {d : Nat} {σ : xM} {Q : Int → xM → Prop} {x a b : Int} : Ev d m_P_isWithin 0 [vI x, vI a, vI b] [] σ Q = Q (if a ≤ x ∧ x ≤ b then 1 else 0) σ := by
  rw [b_P_isWithin_0]
  by_cases h1 : x < a
  · rw [if_pos h1, if_neg (by omega), xz0]
  · by_cases h2 : b < x
    · rw [if_neg h1, if_pos h2, if_neg (by omega), xz0]
    · rw [if_neg h1, if_neg h2, if_pos (by omega), xz1]
theorem e_isKm {d : Nat} {σ : xM} {Q : Int → xM → Prop} {x : Int} : Ev (d + 1) m_M_isKm 0 [vI x] [] σ Q = Q (if 0 ≤ x ∧ x ≤ 69 then 1 else 0) σ := by rw [b_M_isKm_0, e_in, xzc]
theorem e_isKN {d : Nat} {σ : xM} {Q : Int → xM → Prop} {x : Int} : Ev (d + 1) m_P_isKindAndNumber 0 [vI x] [] σ Q = Q (if 0 ≤ x ∧ x ≤ 69 then 1 else 0) σ := by rw [b_P_isKindAndNumber_0, e_isWithin, xzc]
theorem e_isUse {d : Nat} {σ : xM} {Q : Int → xM → Prop} {x : Int} : Ev (d + 1) m_P_isUse 0 [vI x] [] σ Q = Q (if 0 ≤ x ∧ x ≤ 1 then 1 else 0) σ := by rw [b_P_isUse_0, e_isWithin, xzc]
theorem e_PisSheet {d : Nat} {σ : xM} {Q : Int → xM → Prop} {x : Int} : Ev (d + 1) m_P_isSheet 0 [vI x] [] σ Q = Q (if 0 ≤ x ∧ x ≤ 3 then 1 else 0) σ := by rw [b_P_isSheet_0, e_isWithin, xzc]
theorem e_MisSheet {d : Nat} {σ : xM} {Q : Int → xM → Prop} {x : Int} : Ev (d + 1) m_M_isSheet 0 [vI x] [] σ Q = Q (if 0 ≤ x ∧ x ≤ 3 then 1 else 0) σ := by rw [b_M_isSheet_0, e_in, xzc]
theorem e_hasPart {d : Nat} {σ : xM} {Q : Int → xM → Prop} {x : Int} : Ev d m_S_hasPart 0 [vR 5 0, vI x] [] σ Q = Q (if 0 ≤ x ∧ x < σ 5 0 0 then 1 else 0) σ := by
  rw [b_S_hasPart_0]
  by_cases h1 : x < 0
  · rw [if_pos h1, if_neg (by omega), xz0]
  · by_cases h2 : x < σ 5 0 0
    · rw [if_neg h1, if_pos h2, if_pos (by omega), xz1]
    · rw [if_neg h1, if_neg h2, if_neg (by omega), xz0]
theorem e_hasChild {d : Nat} {σ : xM} {Q : Int → xM → Prop} {x : Int} : Ev d m_S_hasChild 0 [vR 5 0, vI x] [] σ Q = Q (if 0 ≤ x ∧ x < σ 5 0 1 then 1 else 0) σ := by
  rw [b_S_hasChild_0]
  by_cases h1 : x < 0
  · rw [if_pos h1, if_neg (by omega), xz0]
  · by_cases h2 : x < σ 5 0 1
    · rw [if_neg h1, if_pos h2, if_pos (by omega), xz1]
    · rw [if_neg h1, if_neg h2, if_neg (by omega), xz0]
theorem e_isPart {d : Nat} {σ : xM} {Q : Int → xM → Prop} {x : Int} (h0 : 0 ≤ σ 41 0 2) (h7 : σ 41 0 2 ≤ 7) : Ev (d + 1) m_M_isPart 0 [vR 40 0, vI x] [] σ Q = Q (if 0 ≤ x ∧ x < σ 41 0 2 then 1 else 0) σ := by
  rw [b_M_isPart_0, e_in, xzc, xin (by decide) (by decide), show Int.toNat 2 = 2 from rfl, xw (by omega) (by omega)]
  by_cases h : 0 ≤ x ∧ x < σ 41 0 2
  · rw [if_pos h, if_pos (by omega)]
  · rw [if_neg h, if_neg (by omega)]
theorem e_isChild {d : Nat} {σ : xM} {Q : Int → xM → Prop} {x : Int} (h0 : 0 ≤ σ 41 0 3) (h7 : σ 41 0 3 ≤ 7) : Ev (d + 1) m_M_isChild 0 [vR 40 0, vI x] [] σ Q = Q (if 0 ≤ x ∧ x < σ 41 0 3 then 1 else 0) σ := by
  rw [b_M_isChild_0, e_in, xzc, xin (by decide) (by decide), show Int.toNat 3 = 3 from rfl, xw (by omega) (by omega)]
  by_cases h : 0 ≤ x ∧ x < σ 41 0 3
  · rw [if_pos h, if_pos (by omega)]
  · rw [if_neg h, if_neg (by omega)]
theorem e_hasPartN {d : Nat} {σ : xM} {Q : Int → xM → Prop} {x : Int} : Ev (d + 1) m_S_hasPartOrNone 0 [vR 5 0, vI x] [] σ Q = Q (if x = -1 ∨ 0 ≤ x ∧ x < σ 5 0 0 then 1 else 0) σ := by
  rw [b_S_hasPartOrNone_0]
  simp only [e_hasPart, xbc, xz0, xz1]
  by_cases h1 : x = -1
  · simp [h1]
  · by_cases h2 : 0 ≤ x ∧ x < σ 5 0 0
    · simp [h1, h2]
    · simp [h1, h2]
theorem e_fail1 {d : Nat} {σ : xM} {Q : Int → xM → Prop} : Ev d m_P_fail 0 [vR 4 0, vI 1] [] σ Q = Q (-1000000001) (xup σ 39 0 1 (xwr (σ 39 0 1 + 1))) := by
  rw [b_P_fail_0, xin (by decide) (by decide), xin (by decide) (by decide), xw (by decide) (by decide)]
  rfl
theorem e_err1 {d : Nat} {σ : xM} {Q : Int → xM → Prop} : Ev d m_M_error 0 [vR 40 0, vI (-1000000001)] [] σ Q = Q (-1000000001) (xup σ 44 0 1 (xwr (σ 44 0 1 + 1))) := by
  rw [b_M_error_0, xw (x := (-1000000000) - (-1000000001)) (by decide) (by decide), xin (by decide) (by decide), xin (by decide) (by decide)]
  rfl
theorem e_fail2 {d : Nat} {σ : xM} {Q : Int → xM → Prop} : Ev d m_P_fail 0 [vR 4 0, vI 2] [] σ Q = Q (-1000000002) (xup σ 39 0 2 (xwr (σ 39 0 2 + 1))) := by
  rw [b_P_fail_0, xin (by decide) (by decide), xin (by decide) (by decide), xw (by decide) (by decide)]
  rfl
theorem e_err2 {d : Nat} {σ : xM} {Q : Int → xM → Prop} : Ev d m_M_error 0 [vR 40 0, vI (-1000000002)] [] σ Q = Q (-1000000002) (xup σ 44 0 2 (xwr (σ 44 0 2 + 1))) := by
  rw [b_M_error_0, xw (x := (-1000000000) - (-1000000002)) (by decide) (by decide), xin (by decide) (by decide), xin (by decide) (by decide)]
  rfl
theorem e_fail3 {d : Nat} {σ : xM} {Q : Int → xM → Prop} : Ev d m_P_fail 0 [vR 4 0, vI 3] [] σ Q = Q (-1000000003) (xup σ 39 0 3 (xwr (σ 39 0 3 + 1))) := by
  rw [b_P_fail_0, xin (by decide) (by decide), xin (by decide) (by decide), xw (by decide) (by decide)]
  rfl
theorem e_err3 {d : Nat} {σ : xM} {Q : Int → xM → Prop} : Ev d m_M_error 0 [vR 40 0, vI (-1000000003)] [] σ Q = Q (-1000000003) (xup σ 44 0 3 (xwr (σ 44 0 3 + 1))) := by
  rw [b_M_error_0, xw (x := (-1000000000) - (-1000000003)) (by decide) (by decide), xin (by decide) (by decide), xin (by decide) (by decide)]
  rfl
theorem e_fail4 {d : Nat} {σ : xM} {Q : Int → xM → Prop} : Ev d m_P_fail 0 [vR 4 0, vI 4] [] σ Q = Q (-1000000004) (xup σ 39 0 4 (xwr (σ 39 0 4 + 1))) := by
  rw [b_P_fail_0, xin (by decide) (by decide), xin (by decide) (by decide), xw (by decide) (by decide)]
  rfl
theorem e_err4 {d : Nat} {σ : xM} {Q : Int → xM → Prop} : Ev d m_M_error 0 [vR 40 0, vI (-1000000004)] [] σ Q = Q (-1000000004) (xup σ 44 0 4 (xwr (σ 44 0 4 + 1))) := by
  rw [b_M_error_0, xw (x := (-1000000000) - (-1000000004)) (by decide) (by decide), xin (by decide) (by decide), xin (by decide) (by decide)]
  rfl
theorem e_fail5 {d : Nat} {σ : xM} {Q : Int → xM → Prop} : Ev d m_P_fail 0 [vR 4 0, vI 5] [] σ Q = Q (-1000000005) (xup σ 39 0 5 (xwr (σ 39 0 5 + 1))) := by
  rw [b_P_fail_0, xin (by decide) (by decide), xin (by decide) (by decide), xw (by decide) (by decide)]
  rfl
theorem e_err5 {d : Nat} {σ : xM} {Q : Int → xM → Prop} : Ev d m_M_error 0 [vR 40 0, vI (-1000000005)] [] σ Q = Q (-1000000005) (xup σ 44 0 5 (xwr (σ 44 0 5 + 1))) := by
  rw [b_M_error_0, xw (x := (-1000000000) - (-1000000005)) (by decide) (by decide), xin (by decide) (by decide), xin (by decide) (by decide)]
  rfl
theorem e_fail6 {d : Nat} {σ : xM} {Q : Int → xM → Prop} : Ev d m_P_fail 0 [vR 4 0, vI 6] [] σ Q = Q (-1000000006) (xup σ 39 0 6 (xwr (σ 39 0 6 + 1))) := by
  rw [b_P_fail_0, xin (by decide) (by decide), xin (by decide) (by decide), xw (by decide) (by decide)]
  rfl
theorem e_err6 {d : Nat} {σ : xM} {Q : Int → xM → Prop} : Ev d m_M_error 0 [vR 40 0, vI (-1000000006)] [] σ Q = Q (-1000000006) (xup σ 44 0 6 (xwr (σ 44 0 6 + 1))) := by
  rw [b_M_error_0, xw (x := (-1000000000) - (-1000000006)) (by decide) (by decide), xin (by decide) (by decide), xin (by decide) (by decide)]
  rfl
end
section
/-! NEW CELLS: the constructors' instructions -/
def xadd {α : Type} (f : Nat → Nat → α) (t i : Nat) (q : α) : Nat → Nat → α := fun a b => if a = t ∧ b = i then q else f a b
def xcn (cnt : Nat → Nat) (t : Nat) : Nat → Nat := fun a => if a = t then cnt t + 1 else cnt a
def xzr (σ : xM) (t i : Nat) : xM := fun a b k => if a = t ∧ b = i then 0 else σ a b k
def xr0 (ρ : xP) (t i : Nat) : xP := fun a b k => if a = t ∧ b = i then (0, 0) else ρ a b k
def xru (ρ : xP) (t i k : Nat) (v : Nat × Nat) : xP := fun a b j => if a = t ∧ b = i ∧ j = k then v else ρ a b j
def xrvG (cnt : Nat → Nat) (ρ : xP) : Prop := ∀ t i k, (ρ t i k).1 = 0 ∨ xokr cnt (ρ t i k).1 (ρ t i k).2
section XA
variable {D : va_G} {ad : Nat → Nat → Nat} {ca : Nat → Nat → ClassId} {cnt : Nat → Nat} {ρ : xP} {σ : xM} {A : Nat → Prop} {U : State} {H H1 : Heap}
theorem xadd_at {α : Type} {f : Nat → Nat → α} {t i : Nat} {q : α} : xadd f t i q t i = q := by unfold xadd; rw [if_pos ⟨rfl, rfl⟩]
theorem xadd_ne {α : Type} {f : Nat → Nat → α} {t i a b : Nat} {q : α} (h : ¬ (a = t ∧ b = i)) : xadd f t i q a b = f a b := by unfold xadd; rw [if_neg h]
theorem xvd_cn {t a b : Nat} (h : xvd (xcn cnt t) a b) : (a = t ∧ b = cnt t) ∨ (¬ (a = t ∧ b = cnt t) ∧ xvd cnt a b) := by
  obtain ⟨h1, h2, h3⟩ := h
  unfold xcn at h3
  by_cases e : a = t
  · rw [if_pos e] at h3
    subst e
    by_cases e2 : b = cnt a
    · exact Or.inl ⟨rfl, e2⟩
    · exact Or.inr ⟨fun q => e2 q.2, h1, h2, by omega⟩
  · rw [if_neg e] at h3
    exact Or.inr ⟨fun q => e q.1, h1, h2, h3⟩
theorem xvd_up {t a b : Nat} (h : xvd cnt a b) : xvd (xcn cnt t) a b ∧ ¬ (a = t ∧ b = cnt t) := by
  obtain ⟨h1, h2, h3⟩ := h
  refine ⟨⟨h1, h2, ?_⟩, ?_⟩
  · unfold xcn
    by_cases e : a = t
    · rw [if_pos e]; subst e; omega
    · rw [if_neg e]; exact h3
  · rintro ⟨rfl, rfl⟩
    omega
theorem xokr_up {t a b : Nat} (h : xokr cnt a b) (ht : 4 ≤ t) : xokr (xcn cnt t) a b ∧ ¬ (a = t ∧ b = cnt t) := by
  rcases h with h | h | h | h
  · exact ⟨Or.inl h, fun q => by omega⟩
  · exact ⟨Or.inr (Or.inl h), fun q => by omega⟩
  · exact ⟨Or.inr (Or.inr (Or.inl h)), fun q => by omega⟩
  · exact ⟨Or.inr (Or.inr (Or.inr (xvd_up h).1)), (xvd_up h).2⟩
theorem xok_up {t : Nat} {v : xV} (h : xok cnt v) (ht : 4 ≤ t) : xok (xcn cnt t) v := by
  rcases v with x | x | q
  · exact h
  · exact h
  · rcases h with h | h
    · exact Or.inl h
    · exact Or.inr (xokr_up h ht).1
theorem xcv_up {t q : Nat} {v : xV} (h : xok cnt v) (ht : 4 ≤ t) : xcv (xadd ad t (cnt t) q) v = xcv ad v := by
  rcases v with x | x | z
  · rfl
  · rfl
  · simp only [xcv]
    rcases h with h | h
    · rw [show Nat.beq z.1 0 = true from by rw [h]; rfl]; rfl
    · rw [xadd_ne (xokr_up h ht).2]
theorem xmap_up {t q : Nat} : ∀ {r : List xV}, xoks cnt r → 4 ≤ t → r.map (xcv (xadd ad t (cnt t) q)) = r.map (xcv ad)
  | [], _, _ => rfl
  | v :: r, h, ht => by
    obtain ⟨h1, h2⟩ := xoks_c.mp h
    rw [List.map_cons, List.map_cons, xcv_up h1 ht, xmap_up h2 ht]
theorem xLr_up {M t q : Nat} {L : List xV} {ls : Array Slot} (h : xLr M cnt ad L ls) (ht : 4 ≤ t) : xLr M (xcn cnt t) (xadd ad t (cnt t) q) L ls :=
  ⟨h.1, h.2.1, h.2.2.1, fun k v hk => ⟨xok_up (h.2.2.2 k v hk).1 ht, (h.2.2.2 k v hk).2.1, fun hn => by rw [xcv_up (h.2.2.2 k v hk).1 ht]; exact (h.2.2.2 k v hk).2.2 hn⟩⟩
theorem xE_up {t q a b : Nat} {cA : ClassId} (hG : xrvG cnt ρ) (ht : 4 ≤ t) (hn : ¬ (a = t ∧ b = cnt t)) : xE (xadd ad t (cnt t) q) (xadd ca t (cnt t) cA) (xr0 ρ t (cnt t)) (xzr σ t (cnt t)) a b = xE ad ca ρ σ a b := by
  have e1 : ∀ k, xzr σ t (cnt t) a b k = σ a b k := fun k => by unfold xzr; rw [if_neg hn]
  have e2 : ∀ k, xr0 ρ t (cnt t) a b k = ρ a b k := fun k => by unfold xr0; rw [if_neg hn]
  have e3 : xadd ca t (cnt t) cA a b = ca a b := xadd_ne hn
  have e4 : ∀ k, xcv (xadd ad t (cnt t) q) (xfv (xr0 ρ t (cnt t)) (xzr σ t (cnt t)) a b k) = xcv ad (xfv ρ σ a b k) := by
    intro k
    have hf : xfv (xr0 ρ t (cnt t)) (xzr σ t (cnt t)) a b k = xfv ρ σ a b k := by
      unfold xfv
      rw [e1, e2]
    rw [hf]
    unfold xfv
    split
    · rcases hG a b k with h | h
      · exact xcv_up (cnt := cnt) (Or.inl h) ht
      · exact xcv_up (cnt := cnt) (Or.inr h) ht
    · cases hb : Nat.beq (σ a b k).toNat 0 with
      | true => rfl
      | false =>
        show Value.ref _ = Value.ref _
        rw [xadd_ne (fun z => by omega)]
    · rfl
  have e5 : (fun j => cond (Nat.beq (xr0 ρ t (cnt t) a b j).1 0) none (some (xadd ad t (cnt t) q (xr0 ρ t (cnt t) a b j).1 (xr0 ρ t (cnt t) a b j).2))) = fun j => cond (Nat.beq (ρ a b j).1 0) none (some (ad (ρ a b j).1 (ρ a b j).2)) := by
    funext j
    rw [e2]
    rcases hG a b j with h | h
    · rw [h]; rfl
    · rw [xadd_ne (xokr_up h ht).2]
  unfold xE
  split
  · rw [show (fun k => xcv (xadd ad t (cnt t) q) (xfv (xr0 ρ t (cnt t)) (xzr σ t (cnt t)) a b k)) = fun k => xcv ad (xfv ρ σ a b k) from funext e4]
  · rw [e5, e3]
  · rw [e3, show (fun j => Int32.ofInt (xzr σ t (cnt t) a b j)) = fun j => Int32.ofInt (σ a b j) from funext fun j => by rw [e1]]
theorem xWd.push {t q : Nat} {e : va_E} {cA : ClassId} (h : xWd D ad ca cnt ρ σ A U H) (hG : xrvG cnt ρ) (ht4 : 4 ≤ t) (hP : va_P D xcl (xW ad ca cnt ρ σ ++ [(q, e)]) H1) (hD : va_D A (xW ad ca cnt ρ σ ++ [(q, e)]))
    (he : e = xE (xadd ad t (cnt t) q) (xadd ca t (cnt t) cA) (xr0 ρ t (cnt t)) (xzr σ t (cnt t)) t (cnt t)) (harr : xkind t ≠ 1 → ArrOfT U cA (xaty t) ∧ va_RA U cA (xaty t)) :
    xWd D (xadd ad t (cnt t) q) (xadd ca t (cnt t) cA) (xcn cnt t) (xr0 ρ t (cnt t)) (xzr σ t (cnt t)) A U H1 ∧ xrvG (xcn cnt t) (xr0 ρ t (cnt t)) := by
  have hlast : (xW ad ca cnt ρ σ ++ [(q, e)])[(xW ad ca cnt ρ σ).length]? = some (q, e) := by simp
  have hold : ∀ a b, xvd cnt a b → ∃ k : Nat, k < (xW ad ca cnt ρ σ).length ∧ (xW ad ca cnt ρ σ ++ [(q, e)])[k]? = some (ad a b, xE ad ca ρ σ a b) := by
    intro a b hv
    obtain ⟨k, -, hk⟩ := xW_idx (ad := ad) (ca := ca) (ρ := ρ) (σ := σ) hv
    have hlt := (List.getElem?_eq_some_iff.mp hk).1
    exact ⟨k, hlt, by rw [List.getElem?_append_left hlt]; exact hk⟩
  have hG' : xrvG (xcn cnt t) (xr0 ρ t (cnt t)) := by
    intro a b k
    unfold xr0
    by_cases hc : a = t ∧ b = cnt t
    · rw [if_pos hc]; exact Or.inl rfl
    · rw [if_neg hc]
      rcases hG a b k with h | h
      · exact Or.inl h
      · exact Or.inr (xokr_up h ht4).1
  refine ⟨⟨fun a b hv => ?_, fun a b a' b' hv hv' e1 => ?_, fun a b hv => ?_, fun a b k => ?_, fun a b k _ _ => hG' a b k, fun a b hv hk => ?_⟩, hG'⟩
  · rcases xvd_cn hv with ⟨rfl, rfl⟩ | ⟨hn, ho⟩
    · have := hP _ _ hlast
      rw [he] at this
      rw [xadd_at]
      exact this
    · obtain ⟨k, -, hk⟩ := hold a b ho
      rw [xE_up hG ht4 hn, xadd_ne hn]
      exact hP _ _ hk
  · rcases xvd_cn hv with ⟨rfl, rfl⟩ | ⟨hn, ho⟩
    · rcases xvd_cn hv' with ⟨rfl, rfl⟩ | ⟨hn', ho'⟩
      · exact ⟨rfl, rfl⟩
      · obtain ⟨k, hlt, hk⟩ := hold a' b' ho'
        rw [xadd_at, xadd_ne hn'] at e1
        have := hD.1 _ _ _ _ hlast hk e1
        omega
    · rcases xvd_cn hv' with ⟨rfl, rfl⟩ | ⟨hn', ho'⟩
      · obtain ⟨k, hlt, hk⟩ := hold a b ho
        rw [xadd_at, xadd_ne hn] at e1
        have := hD.1 _ _ _ _ hk hlast e1
        omega
      · rw [xadd_ne hn, xadd_ne hn'] at e1
        exact h.2.1 a b a' b' ho ho' e1
  · rcases xvd_cn hv with ⟨rfl, rfl⟩ | ⟨hn, ho⟩
    · rw [xadd_at]; exact hD.2 _ _ hlast
    · rw [xadd_ne hn]; exact h.2.2.1 a b ho
  · unfold xzr
    by_cases hc : a = t ∧ b = cnt t
    · rw [if_pos hc]; exact ⟨by decide, by decide⟩
    · rw [if_neg hc]; exact h.2.2.2.1 a b k
  · rcases xvd_cn hv with ⟨rfl, rfl⟩ | ⟨hn, ho⟩
    · rw [xadd_at]; exact harr hk
    · rw [xadd_ne hn]; exact h.2.2.2.2.2 a b ho hk
end XA
theorem xROk.ad {ad ad' : Nat → Nat → Nat} {A : Nat → Prop} {U : State} {H : Heap} (ha : ∀ t i, t < 4 → ad' t i = ad t i) (h : xROk ad A U H) : xROk ad' A U H := by
  unfold xROk at h ⊢
  rw [ha 3 0 (by decide), show (fun i => ad' 1 (i + 1)) = fun i => ad 1 (i + 1) from funext fun i => ha 1 _ (by decide), show (fun i => ad' 2 (i + 1)) = fun i => ad 2 (i + 1) from funext fun i => ha 2 _ (by decide)]
  exact h
theorem xEx.ad {ad ad' : Nat → Nat → Nat} {U : State} (ha : ∀ t i, t < 4 → ad' t i = ad t i) (h : xEx ad U) : xEx ad' U :=
  ⟨h.1, h.2.1, h.2.2.1, fun q hq => by rw [ha 1 _ (by decide)]; exact h.2.2.2 q hq⟩
theorem xFix.ad {p : Program} {s : State} {m : MethodId} {args : Array Value} {meth : Method} {c : Code} {M : Nat} {A : Nat → Prop} {ad ad' : Nat → Nat → Nat} {D : va_G} (ha : ∀ t i, t < 4 → ad' t i = ad t i) (h : xFix p s m args meth c M A ad D) : xFix p s m args meth c M A ad' D :=
  ⟨h.1, h.2.1, h.2.2.1, h.2.2.2.1, h.2.2.2.2.1, h.2.2.2.2.2.1, h.2.2.2.2.2.2.1, h.2.2.2.2.2.2.2.1.ad ha, h.2.2.2.2.2.2.2.2.1, h.2.2.2.2.2.2.2.2.2.1.ad ha, h.2.2.2.2.2.2.2.2.2.2.1, h.2.2.2.2.2.2.2.2.2.2.2⟩
theorem xadd_lo {ad : Nat → Nat → Nat} {t i q : Nat} (ht : 4 ≤ t) : ∀ a b, a < 4 → xadd ad t i q a b = ad a b := fun a b h => xadd_ne (fun z => by omega)
/-- what a new object holds -/
def xdef (t k : Nat) : Value := match xft t k with
  | 1 => .null
  | 2 => .null
  | _ => .int 0
theorem xdefault {ty : FieldType} (h : ty.isReference = true) : defaultValue ty = .null := by cases ty <;> first | rfl | cases h
section XB
variable {p : Program} {l : Launch} {e : Env} {R : Room} {s : State} {m : MethodId} {args : Array Value} {below : List Frame} {meth : Method} {c : Code} {cells slots : Nat} {Q : State → Prop}
variable {A : Nat → Prop} {ad : Nat → Nat → Nat} {ca : Nat → Nat → ClassId} {D : va_G} {cnt : Nat → Nat} {ρ : xP} {σ : xM} {H : Heap} {locs : List Loc}
/-- new, at any frame -/
theorem xq_new {cc : ByteArray} {own : String} {x t pc : Nat} {ls : Array Slot} {rest : List Value} (hx : p.tables.exec = Jvm.exec) (hb : c.code = cc) (hts : ∀ w ∈ xGT, w.before args s = true) (hown : s.vm.findClass own = some m.cls) (hK : va_K D xcl [] s) (hA : ∀ q : Nat, s.heap.size ≤ q → A q) (hW : xWd D ad ca cnt ρ σ A s H) (hG : xrvG cnt ρ) (hS : va_S A s.heap H locs)
    (ht : xkind t = 1) (hcl : Cond.classLink own x (xCt t) ∈ xGT) (hinst : Cond.instantiable (xCt t) (xsz t) ∈ xGT) (hini : Cond.initialized (xCt t) ∈ xGT) (hcells : cells + 1 ≤ R.cells) (hslots : slots + xsz t ≤ R.slots) (hd : decode cc pc = .ok (.new x, 3))
    (k : ∀ (q : Nat) (H1 : Heap), xWd D (xadd ad t (cnt t) q) (xadd ca t (cnt t) 0) (xcn cnt t) (xr0 ρ t (cnt t)) (xzr σ t (cnt t)) A s H1 → xrvG (xcn cnt t) (xr0 ρ t (cnt t)) → va_S A s.heap H1 locs → W p l e R s m args below meth c H1 locs (cells + 1) (slots + xsz t) Q (F0 m (pc + 3) ls (.ref q :: rest))) :
    W p l e R s m args below meth c H locs cells slots Q (F0 m pc ls rest) := by
  have ht4 : 4 ≤ t := xkind_4 (by rw [ht]; decide)
  refine va_new (fs := (List.range (xsz t)).map (xdef t)) hx hb hts (xcl_lay ht) (xty t) (xty_ok ht) hown (hts _ hcl) (hts _ hinst) (hts _ hini) hK hW.P hW.Dd hS hA (xcl_at ht) (fun j hj => ?_) hcells hslots hd (fun q H1 hP1 hD1 hS1 => ?_)
  · have hfs : vp_V ((List.range (xsz t)).map (xdef t)) j = xdef t j := by
      unfold vp_V
      rw [List.getD_eq_getElem?_getD, xrng_map hj]
      rfl
    rw [hfs]
    have h := xfty ht hj
    unfold xdef
    split at h
    · rename_i e1
      rw [e1, (of_decide_eq_true h).1]
      rfl
    · rename_i e1
      rw [e1, xdefault (of_decide_eq_true h)]
      rfl
    · rename_i e1
      rw [e1, (of_decide_eq_true h).1]
      rfl
    · rename_i e1
      rw [e1, (of_decide_eq_true h).1]
      rfl
    · cases h
  · have he : (Sum.inr (xci t, (List.range (xsz t)).map (xdef t)) : va_E) = xE (xadd ad t (cnt t) q) (xadd ca t (cnt t) 0) (xr0 ρ t (cnt t)) (xzr σ t (cnt t)) t (cnt t) := by
      unfold xE
      rw [ht]
      show _ = Sum.inr (xci t, _)
      congr 2
      apply List.map_congr_left
      intro k _
      unfold xdef xfv xr0 xzr
      split
      · rename_i e1; rw [e1]; simp [xcv]
      · rename_i e1; rw [e1]; simp [xcv]
      · rename_i e1 e2
        split
        · rename_i e3; exact absurd e3 e1
        · rename_i e3; exact absurd e3 e2
        · simp [xcv]
    obtain ⟨hW1, hG1⟩ := hW.push hG ht4 hP1 hD1 he (fun hn => absurd ht hn)
    exact k q H1 hW1 hG1 hS1
end XB
end
section
/-! NEW CELLS, on: arrays, references, Object's constructor -/
section XC
variable {p : Program} {l : Launch} {e : Env} {R : Room} {s : State} {m : MethodId} {args : Array Value} {below : List Frame} {meth : Method} {c : Code} {cells slots : Nat} {Q : State → Prop}
variable {M : Nat} {A : Nat → Prop} {ad : Nat → Nat → Nat} {ca : Nat → Nat → ClassId} {D : va_G} {cnt : Nat → Nat} {ρ : xP} {σ : xM}
theorem xWd.set2 {U : State} {H H1 : Heap} {ρ' : xP} {σ' : xM} {t i q0 : Nat} {e : va_E} (h : xWd D ad ca cnt ρ σ A U H) (hv : xvd cnt t i) (hq : (xids cnt)[q0]? = some (t, i)) (hP : va_P D xcl ((xW ad ca cnt ρ σ).set q0 (ad t i, e)) H1) (he : xE ad ca ρ' σ' t i = e)
    (ho : ∀ t' i', (t', i') ≠ (t, i) → xE ad ca ρ' σ' t' i' = xE ad ca ρ σ t' i') (hrg : xrg σ') (hrv : xrv cnt ρ') : xWd D ad ca cnt ρ' σ' A U H1 := by
  refine ⟨fun t' i' hv' => ?_, h.2.1, h.2.2.1, hrg, hrv, h.2.2.2.2.2⟩
  by_cases hc : (t', i') = (t, i)
  · obtain ⟨rfl, rfl⟩ := Prod.mk.inj hc
    rw [he]
    refine hP q0 _ ?_
    have hlt : q0 < (xW ad ca cnt ρ σ).length := by
      unfold xW
      rw [List.length_map]
      exact (List.getElem?_eq_some_iff.mp hq).1
    exact List.getElem?_set_self hlt
  · obtain ⟨k, hk, hk2⟩ := xW_idx (ad := ad) (ca := ca) (ρ := ρ) (σ := σ) hv'
    rw [ho t' i' hc]
    refine hP k _ ?_
    have hne : q0 ≠ k := by
      intro e
      subst e
      exact hc (Option.some.inj (hk.symm.trans hq))
    rw [List.getElem?_set_ne hne]
    exact hk2
theorem xru_ne {t i k : Nat} {v : Nat × Nat} {a b : Nat} (h : (a, b) ≠ (t, i)) (j : Nat) : xru ρ t i k v a b j = ρ a b j := by
  unfold xru
  rw [if_neg]
  rintro ⟨rfl, rfl, -⟩
  exact h rfl
theorem xru_at {t i k : Nat} {v : Nat × Nat} (j : Nat) : xru ρ t i k v t i j = if j = k then v else ρ t i j := by
  unfold xru
  by_cases h : j = k
  · rw [if_pos ⟨rfl, rfl, h⟩, if_pos h]
  · rw [if_neg (fun q => h q.2.2), if_neg h]
theorem xE_rcongr {ρ' : xP} {t i : Nat} (h : ∀ k, ρ' t i k = ρ t i k) : xE ad ca ρ' σ t i = xE ad ca ρ σ t i := by
  unfold xE
  have h1 : (fun k => xcv ad (xfv ρ' σ t i k)) = fun k => xcv ad (xfv ρ σ t i k) := funext fun k => by unfold xfv; rw [h k]
  have h2 : (fun j => cond (Nat.beq (ρ' t i j).1 0) none (some (ad (ρ' t i j).1 (ρ' t i j).2))) = fun j => cond (Nat.beq (ρ t i j).1 0) none (some (ad (ρ t i j).1 (ρ t i j).2)) := funext fun j => by rw [h j]
  rw [h1, h2]
theorem xfv_rcongr {ρ' : xP} {t i k : Nat} (h : ρ' t i k = ρ t i k) : xfv ρ' σ t i k = xfv ρ σ t i k := by
  unfold xfv
  rw [h]
theorem xru_G {t i k : Nat} {v : Nat × Nat} (hG : xrvG cnt ρ) (hv : v.1 = 0 ∨ xokr cnt v.1 v.2) : xrvG cnt (xru ρ t i k v) := by
  intro a b j
  unfold xru
  by_cases h : a = t ∧ b = i ∧ j = k
  · rw [if_pos h]; exact hv
  · rw [if_neg h]; exact hG a b j
theorem xo_newa (F : xFix p s m args meth c M A ad D) {pc t : Nat} {aty : ArrayType} {L r : List xV} (hd : decode (xy M).2.1 pc = .ok (.newarray aty, 2)) (hk : xkind t = 2 ∨ xkind t = 3) (hty : newarray.typeOf aty = xaty t) (hw : Cond.arrayClass (xaty t) ∈ xGT) (hG : xrvG cnt ρ) (hcells : cells + 1 ≤ R.cells) (hslots : slots + xsz t ≤ R.slots)
    (k : ∀ (q : Nat) (cA : ClassId), xNx p l e R s m args below meth c (cells + 1) (slots + xsz t) Q M A (xadd ad t (cnt t) q) (xadd ca t (cnt t) cA) D (xcn cnt t) (xr0 ρ t (cnt t)) (pc + 2) L (vR t (cnt t) :: r) (xzr σ t (cnt t))) :
    xNx p l e R s m args below meth c cells slots Q M A ad ca D cnt ρ pc L (vI (xlen t) :: r) σ := by
  intro H locs ls hW hS hL hs
  obtain ⟨hx0, hr⟩ := xoks_c.mp hs
  have hk0 : xkind t ≠ 0 := by omega
  have ht4 : 4 ≤ t := xkind_4 hk0
  obtain ⟨el, hl⟩ := xlen_ok (t := t) (by omega)
  have h0 : 0 ≤ xlen t := by rw [el]; omega
  obtain ⟨hx, hb, hml, -, hown, -, hts, hex, hA, hro, hK, -⟩ := id F
  have hdv : defaultValue (xaty t) = .int (Int32.ofInt 0) := by
    rcases hk with h | h
    · rw [xarr_2 h]; rfl
    · rw [xarr_3 h]; rfl
  have hcb : componentBytes (xaty t) ≤ 4 := by
    rcases hk with h | h
    · rw [xarr_2 h]; decide
    · rw [xarr_3 h]; decide
  have hsz : xsz t ≤ 2000 := by
    have : ∀ t, t < 57 → xsz t ≤ 2000 := by decide +kernel
    exact this t (xkind_lt hk0)
  refine va_newa (atype := aty) (a0 := (xsz t, .inl (fun _ => Int32.ofInt 0))) hx hb (by rw [hty]; exact hts _ hw) hty hK hW.P hW.Dd hS hA (fun cA => by rw [vp_cell_i, hdv]) (fun q => by rw [xn_0, xn_lt hx0 xn_r0] at q; omega) (by rw [xn_nat h0 hx0, el]; rfl) (Nat.le_trans (Nat.mul_le_mul hsz hcb) (by decide)) hcells hslots hd (fun q cA H1 hK1 hP1 hD1 hS1 => ?_)
  have he : (Sum.inl (cA, xsz t, .inl (fun _ => Int32.ofInt 0)) : va_E) = xE (xadd ad t (cnt t) q) (xadd ca t (cnt t) cA) (xr0 ρ t (cnt t)) (xzr σ t (cnt t)) t (cnt t) := by
    rw [xE_i (by omega) (by omega), xadd_at]
    congr 4
    funext j
    unfold xzr
    rw [if_pos ⟨rfl, rfl⟩]
  obtain ⟨hW1, hG1⟩ := hW.push hG ht4 hP1 hD1 he (fun _ => hK1.2 0 _ rfl)
  have h := k q cA H1 locs ls hW1 hS1 (xLr_up hL ht4) (xoks_c.mpr ⟨Or.inr (Or.inr (Or.inr (Or.inr ⟨ht4, xkind_lt hk0, by show cnt t < xcn cnt t t; unfold xcn; rw [if_pos rfl]; omega⟩))), fun v hv => xok_up (hr v hv) ht4⟩)
  rw [List.map_cons, xcv_R (xb0 hk0), xadd_at, xmap_up hr ht4] at h
  exact h
theorem xo_newq (F : xFix p s m args meth c M A ad D) {pc x t : Nat} {C : String} {L r : List xV} (hd : decode (xy M).2.1 pc = .ok (.anewarray x, 3)) (hk : xkind t = 4) (hty : xaty t = .object C) (hC : C ∈ ["PlayParts$Role", "PlayParts$Child", "PlayParts$Text", "PlayParts$Sheet"]) (hw : Cond.classLink (xow M) x C ∈ xGT) (hG : xrvG cnt ρ) (hcells : cells + 1 ≤ R.cells) (hslots : slots + xsz t ≤ R.slots)
    (k : ∀ (q : Nat) (cA : ClassId), xNx p l e R s m args below meth c (cells + 1) (slots + xsz t) Q M A (xadd ad t (cnt t) q) (xadd ca t (cnt t) cA) D (xcn cnt t) (xr0 ρ t (cnt t)) (pc + 3) L (vR t (cnt t) :: r) (xzr σ t (cnt t))) :
    xNx p l e R s m args below meth c cells slots Q M A ad ca D cnt ρ pc L (vI (xlen t) :: r) σ := by
  intro H locs ls hW hS hL hs
  obtain ⟨hx0, hr⟩ := xoks_c.mp hs
  have hk0 : xkind t ≠ 0 := by omega
  have ht4 : 4 ≤ t := xkind_4 hk0
  obtain ⟨el, hl⟩ := xlen_ok (t := t) (by omega)
  have h0 : 0 ≤ xlen t := by rw [el]; omega
  obtain ⟨hx, hb, hml, -, hown, -, hts, hex, hA, hro, hK, -⟩ := id F
  have hsz : xsz t ≤ 2000 := by
    have : ∀ t, t < 57 → xsz t ≤ 2000 := by decide +kernel
    exact this t (xkind_lt hk0)
  refine va_newq (C := C) (N' := xsz t) hx hb hown (hts _ hw) (hex.2.1 C hC) hK hW.P hW.Dd hS hA (fun q => by rw [xn_0, xn_lt hx0 xn_r0] at q; omega) (by rw [xn_nat h0 hx0, el]; rfl) (by omega) hcells hslots hd (fun q cA H1 hK1 hP1 hD1 hS1 => ?_)
  have he : (Sum.inl (cA, xsz t, .inr (.inr (.inr (.inr (fun _ => none))))) : va_E) = xE (xadd ad t (cnt t) q) (xadd ca t (cnt t) cA) (xr0 ρ t (cnt t)) (xzr σ t (cnt t)) t (cnt t) := by
    rw [xE_q hk, xadd_at]
    congr 7
    funext j
    unfold xr0
    rw [if_pos ⟨rfl, rfl⟩]
    rfl
  obtain ⟨hW1, hG1⟩ := hW.push hG ht4 hP1 hD1 he (fun _ => by rw [hty]; exact hK1.2 0 _ rfl)
  have h := k q cA H1 locs ls hW1 hS1 (xLr_up hL ht4) (xoks_c.mpr ⟨Or.inr (Or.inr (Or.inr (Or.inr ⟨ht4, xkind_lt hk0, by show cnt t < xcn cnt t t; unfold xcn; rw [if_pos rfl]; omega⟩))), fun v hv => xok_up (hr v hv) ht4⟩)
  rw [List.map_cons, xcv_R (xb0 hk0), xadd_at, xmap_up hr ht4] at h
  exact h
theorem xo_newo (F : xFix p s m args meth c M A ad D) {pc x t : Nat} {L r : List xV} (hd : decode (xy M).2.1 pc = .ok (.new x, 3)) (ht : xkind t = 1) (hcl : Cond.classLink (xow M) x (xCt t) ∈ xGT) (hinst : Cond.instantiable (xCt t) (xsz t) ∈ xGT) (hini : Cond.initialized (xCt t) ∈ xGT) (hG : xrvG cnt ρ) (hcells : cells + 1 ≤ R.cells) (hslots : slots + xsz t ≤ R.slots)
    (k : ∀ (q : Nat), xNx p l e R s m args below meth c (cells + 1) (slots + xsz t) Q M A (xadd ad t (cnt t) q) (xadd ca t (cnt t) 0) D (xcn cnt t) (xr0 ρ t (cnt t)) (pc + 3) L (vR t (cnt t) :: r) (xzr σ t (cnt t))) :
    xNx p l e R s m args below meth c cells slots Q M A ad ca D cnt ρ pc L r σ := by
  intro H locs ls hW hS hL hr
  have hk0 : xkind t ≠ 0 := by omega
  have ht4 : 4 ≤ t := xkind_4 hk0
  obtain ⟨hx, hb, hml, -, hown, -, hts, hex, hA, hro, hK, -⟩ := id F
  refine xq_new hx hb hts hown hK hA hW hG hS ht hcl hinst hini hcells hslots hd (fun q H1 hW1 hG1 hS1 => ?_)
  have h := k q H1 locs ls hW1 hS1 (xLr_up hL ht4) (xoks_c.mpr ⟨Or.inr (Or.inr (Or.inr (Or.inr ⟨ht4, xkind_lt hk0, by show cnt t < xcn cnt t t; unfold xcn; rw [if_pos rfl]; omega⟩))), fun v hv => xok_up (hr v hv) ht4⟩)
  rw [List.map_cons, xcv_R (xb0 hk0), xadd_at, xmap_up hr ht4] at h
  exact h
theorem xref_n {ty : FieldType} (h : ty.isReference = true) (a : Nat) : narrow ty (.ref a) = .ref a ∧ fits ty (.ref a) = true := by cases ty <;> first | (cases h; done) | exact ⟨rfl, rfl⟩
theorem xo_putr (F : xFix p s m args meth c M A ad D) {pc x : Nat} {L r : List xV} {q : Nat × Nat} {i tv iv : Nat} (hd : decode (xy M).2.1 pc = .ok (.putfield x, 3)) (hf : xfld (xrec M).1 x = some q) (hk : xkind q.1 = 1) (hft : xft q.1 q.2 = 1) (hfin : (xFt q.1 q.2).2.2.2 = true) (hini : (xy M).1.name = "<init>") (hown : xCt q.1 = xow M) (hnest : xfw (xrec M).1 x false q ∈ lw_tbl) (htv : Nat.beq tv 0 = false)
    (k : xNx p l e R s m args below meth c cells slots Q M A ad ca D cnt (xru ρ q.1 i q.2 (tv, iv)) (pc + 3) L r σ) (hG : xrvG cnt ρ) : xNx p l e R s m args below meth c cells slots Q M A ad ca D cnt ρ pc L (vR tv iv :: vR q.1 i :: r) σ := by
  intro H locs ls hW hS hL hs
  obtain ⟨hvv, hs1⟩ := xoks_c.mp hs
  obtain ⟨hx, hr⟩ := xoks_c.mp hs1
  have hk0 : xkind q.1 ≠ 0 := by rw [hk]; decide
  have hv := xok_vd hx hk0
  obtain ⟨-, hsz, -⟩ := xfld_w hf
  have hsz : q.2 < xsz q.1 := by
    rcases hsz with h1 | h1
    · exact h1
    · rw [h1] at hk; exact absurd hk (by decide +kernel)
  obtain ⟨k0, hk1, he⟩ := xW_idx (ad := ad) (ca := ca) (ρ := ρ) (σ := σ) hv
  have hE : ∀ ρ, xE ad ca ρ σ q.1 i = .inr (xci q.1, (List.range (xsz q.1)).map fun j => xcv ad (xfv ρ σ q.1 i j)) := fun σ => by unfold xE; rw [hk]; rfl
  rw [hE] at he
  rw [List.map_cons, List.map_cons, xcv_R (xb0 hk0)]
  have hsame : ∀ x, s.fieldFound? (xFt q.1 q.2).1 (xFt q.1 q.2).2.1 (xFt q.1 q.2).2.2.1 = some x → s.fieldFound? (xCt q.1) (xFt q.1 q.2).2.1 (xFt q.1 q.2).2.2.1 = some x := by
    rw [xdecl hk hsz]; exact fun _ h => h
  have hty := xfty hk hsz
  rw [hft] at hty
  have hty := of_decide_eq_true hty
  have hfv : xfv (xru ρ q.1 i q.2 (tv, iv)) σ q.1 i q.2 = vR tv iv := by
    unfold xfv
    rw [hft, xru_at, if_pos rfl]
    rfl
  have hnew : xE ad ca (xru ρ q.1 i q.2 (tv, iv)) σ q.1 i = .inr (xci q.1, ((List.range (xsz q.1)).map fun j => xcv ad (xfv ρ σ q.1 i j)).set q.2 (xcv ad (vR tv iv))) := by
    rw [hE, xrng_set hsz (by rw [hfv]) (fun j hj => by rw [xfv_rcongr (by rw [xru_at, if_neg hj])])]
  have hG' := xru_G (t := q.1) (i := i) (k := q.2) hG (show (tv, iv).1 = 0 ∨ xokr cnt (tv, iv).1 (tv, iv).2 from hvv)
  obtain ⟨hx0, hb, -, -, hownc, -, hts, hex, -, -, hK, hnm⟩ := id F
  have hrn := xref_n hty (ad tv iv)
  have eR : xcv ad (vR tv iv) = .ref (ad tv iv) := xcv_R htv
  refine va_putF hx0 hb hts (xcl_lay hk) (xty q.1) (xty_ok hk) (xnm_ok hk) hownc hK hW.P hW.Dd hS k0 he (xcl_at hk) q.2 hsz (hts _ (xGT_m hnest rfl)) hsame hfin (hnm.trans hini) ((xdecl hk hsz).trans hown) (xty_ok hk q.2 hsz) (by rw [eR]; exact hrn.1) (by rw [eR]; exact hrn.2) (by rw [List.length_map, List.length_range]; exact hsz) hd (fun H1 locs1 hP1 _ hS1 => ?_)
  exact k H1 locs1 ls (hW.set2 hv hk1 hP1 hnew (fun t' i' hne => xE_rcongr (fun j => xru_ne hne j)) hW.2.2.2.1 (fun a b j _ _ => hG' a b j)) hS1 hL hr
theorem xo_aast (F : xFix p s m args meth c M A ad D) {pc t i tv iv : Nat} {x : Int} {L r : List xV} (hd : decode (xy M).2.1 pc = .ok (.aastore, 1)) (hk : xkind t = 4) (hkv : xkind tv = 1) (hty : xaty t = .object (xCt tv)) (hx : 0 ≤ x ∧ x < xlen t) (hG : xrvG cnt ρ)
    (k : xNx p l e R s m args below meth c cells slots Q M A ad ca D cnt (xru ρ t i x.toNat (tv, iv)) (pc + 1) L r σ) : xNx p l e R s m args below meth c cells slots Q M A ad ca D cnt ρ pc L (vR tv iv :: vI x :: vR t i :: r) σ := by
  intro H locs ls hW hS hL hs
  obtain ⟨hvv, hs0⟩ := xoks_c.mp hs
  obtain ⟨hxx, hs1⟩ := xoks_c.mp hs0
  obtain ⟨ho, hr⟩ := xoks_c.mp hs1
  have hk0 : xkind t ≠ 0 := by omega
  have hkv0 : xkind tv ≠ 0 := by omega
  have hv := xok_vd ho hk0
  have hvo := xok_vd hvv hkv0
  obtain ⟨k0, hk1, he⟩ := xW_idx (ad := ad) (ca := ca) (ρ := ρ) (σ := σ) hv
  obtain ⟨kv, -, hev⟩ := xW_idx (ad := ad) (ca := ca) (ρ := ρ) (σ := σ) hvo
  rw [xE_q hk] at he
  have hE : xE ad ca ρ σ tv iv = .inr (xci tv, (List.range (xsz tv)).map fun j => xcv ad (xfv ρ σ tv iv j)) := by unfold xE; rw [hkv]; rfl
  rw [hE] at hev
  rw [List.map_cons, List.map_cons, List.map_cons, xcv_R (xb0 hk0), xcv_R (xb0 hkv0)]
  have hlt := xlt (by omega) hx
  have hG' := xru_G (t := t) (i := i) (k := x.toNat) hG (show (tv, iv).1 = 0 ∨ xokr cnt (tv, iv).1 (tv, iv).2 from hvv)
  refine va_astq F.1 F.2.1 (xKa F hW hv (by omega)) hW.P hW.Dd hS k0 0 kv (xci tv) he (by rw [hty]; rfl) hev (xcl_at hkv) (xn_in hx.1 hlt.1 hlt.2) hd (fun H1 locs1 hP1 _ hS1 => ?_)
  refine k H1 locs1 ls (hW.set2 hv hk1 hP1 ?_ (fun t' i' hne => xE_rcongr (fun j => xru_ne hne j)) hW.2.2.2.1 (fun a b j _ _ => hG' a b j)) hS1 hL hr
  rw [xE_q hk, xn_nat hx.1 hlt.2]
  congr 7
  funext j
  rw [xru_at]
  unfold va_up
  by_cases hj : j = x.toNat
  · rw [if_pos hj, if_pos hj]
    show cond (Nat.beq tv 0) _ _ = _
    rw [xb0 hkv0]
    rfl
  · rw [if_neg hj, if_neg hj]
theorem xo_obj (F : xFix p s m args meth c M A ad D) {pc x t i : Nat} {L r : List xV} (hd : decode (xy M).2.1 pc = .ok (.invokespecial x, 3)) (hc : xcal (xrec M).1 x = some (999, 5)) (ht : Nat.beq t 0 = false) (hr8 : xrs r = true) (hRf : 1 ≤ R.frames) (hRl : 40 ≤ R.locals)
    (k : xNx p l e R s m args below meth c cells slots Q M A ad ca D cnt ρ (pc + 3) L r σ) : xNx p l e R s m args below meth c cells slots Q M A ad ca D cnt ρ pc L (vR t i :: r) σ := by
  intro H locs ls hW hS hL hs
  obtain ⟨ho, hr⟩ := xoks_c.mp hs
  have hw := (xcal_w hc).1
  have hsum := xrs_sum (ad := ad) hr8
  obtain ⟨hx, hb, hml, -, hown, -, hts, hex, hA, hro, hK, -⟩ := id F
  rw [List.map_cons, xcv_R ht]
  refine W.objInit hx hb hown (hts _ (xGT_m hw rfl)) (hts _ xw_obj_inst) (hts _ xw_obj_code) rfl (by rw [hml]; exact hL.1) rfl hd hRf ?_ (k H locs ls hW hS hL hr)
  have := lv_room (m := m) (pc := pc) (ls := ls) (rest := .ref (ad t i) :: r.map (xcv ad)) hsum
  omega
end XC
end
section
/-! AN ARRAY OF INT ROWS, made at once -/
section XM
variable {p : Program} {l : Launch} {e : Env} {R : Room} {s : State} {m : MethodId} {args : Array Value} {below : List Frame} {meth : Method} {c : Code} {cells slots : Nat} {Q : State → Prop} {H : Heap} {locs : List Loc}
/-- behind i rows -/
def xmS (p : Program) (l : Launch) (e : Env) (R : Room) (s : State) (m : MethodId) (args : Array Value) (below : List Frame) (meth : Method) (c : Code) (locs : List Loc) (cells slots N K : Nat) (H : Heap) (vm : Vm) (cA comp : ClassId) (i : Nat) (T : State) : Prop :=
  Stand p l e R s m args below meth c T locs (cells + 1 + i) (slots + N + i * K) ∧ T.vm = vm ∧ T.heap.size = H.size + 1 + i ∧ T.heap[H.size]? = some (arrV cA N (fun j => if j < i then .ref (H.size + 1 + j) else .null)) ∧ (∀ q : Nat, q < H.size → T.heap[q]? = H[q]?) ∧ ∀ j : Nat, j < i → T.heap[H.size + 1 + j]? = some (arrV comp K (fun _ => .int 0))
theorem xm_step {N K : Nat} {vm : Vm} {cA comp : ClassId} {i : Nat} {T : State} (hi : i < N) (hs : s.heap.size ≤ H.size) (h : xmS p l e R s m args below meth c locs cells slots N K H vm cA comp i T) :
    xmS p l e R s m args below meth c locs cells slots N K H vm cA comp (i + 1) ((T.pushCell { cls := comp, slots := Array.replicate K (.int 0), vm := .none }).setCell H.size ((arrV cA N (fun j => if j < i then .ref (H.size + 1 + j) else .null)).setSlot i (.ref (H.size + 1 + i)))) := by
  obtain ⟨X, h1, h2, h3, h4, h5⟩ := h
  have hlt : H.size < T.heap.size := by omega
  have hc : (T.pushCell { cls := comp, slots := Array.replicate K (.int 0), vm := .none }).heap[H.size]? = some (arrV cA N (fun j => if j < i then .ref (H.size + 1 + j) else .null)) := by rw [State.heap_pushCell_of_lt (h := hlt)]; exact h3
  have X1 := (X.pushed ({ cls := comp, slots := Array.replicate K (.int 0), vm := .none } : Cell)).stored hc i (.ref (H.size + 1 + i))
  have X2 := X1.dropFresh (fun x hx => by rw [List.mem_singleton.mp hx]; exact hs)
  have e1 : ({ cls := comp, slots := Array.replicate K (.int 0), vm := .none } : Cell).slots.size = K := by simp
  rw [e1] at X2
  refine ⟨?_, h1, ?_, ?_, fun q hq => ?_, fun j hj => ?_⟩
  · have e2 : cells + 1 + (i + 1) = cells + 1 + i + 1 := by omega
    have e3 : slots + N + (i + 1) * K = slots + N + i * K + K := by rw [Nat.succ_mul]; omega
    rw [e2, e3]
    exact X2
  · simp [State.setCell, h2]
    omega
  · rw [State.heap_setCell_self hc, arrV_store]
    congr 2
    funext j
    unfold updV
    by_cases hj : j = i
    · rw [if_pos hj, if_pos (by omega), hj]
    · rw [if_neg hj]
      show (if j < i then _ else _) = _
      by_cases hji : j < i
      · rw [if_pos hji, if_pos (by omega)]
      · rw [if_neg hji, if_neg (by omega)]
  · rw [State.heap_setCell_other (show H.size ≠ q by omega), State.heap_pushCell_of_lt (h := show q < T.heap.size by omega)]
    exact h4 q hq
  · rw [State.heap_setCell_other (show H.size ≠ H.size + 1 + j by omega)]
    by_cases hji : j < i
    · rw [State.heap_pushCell_of_lt (h := show H.size + 1 + j < T.heap.size by omega)]
      exact h5 j hji
    · have e4 : H.size + 1 + j = T.heap.size := by omega
      rw [e4, ← arrV_new]
      exact State.heap_pushCell_size _ _
def xmF (T : State) (cA comp : ClassId) (N K : Nat) : Nat → State
  | 0 => T.pushCell { cls := cA, slots := Array.replicate N .null, vm := .none }
  | i + 1 => ((xmF T cA comp N K i).pushCell { cls := comp, slots := Array.replicate K (.int 0), vm := .none }).setCell T.heap.size ((arrV cA N (fun j => if j < i then .ref (T.heap.size + 1 + j) else .null)).setSlot i (.ref (T.heap.size + 1 + i)))
theorem xmF_top (T : State) (f : JFrame) (cA comp : ClassId) (N K : Nat) : ∀ i, xmF (T.setTop f) cA comp N K i = (xmF T cA comp N K i).setTop f
  | 0 => rfl
  | i + 1 => by simp only [xmF, xmF_top T f cA comp N K i, State.heap_setTop, State.pushCell_setTop, State.setCell_setTop]
set_option maxHeartbeats 8000000 in
theorem xm_multi {cc : ByteArray} (hexec : p.tables.exec = Jvm.exec) (hb : c.code = cc) {own : String} {index pc : Nat} {ls : Array Slot} {rest : List Value} (hown : s.vm.findClass own = some m.cls) (hclink : (Cond.classLink own index "[[I").before args s = true) (hao : xAOa s) (harr : (Cond.arrayClass .int).before args s = true)
    (hdg : decode cc pc = .ok (.multianewarray index 2, 4)) {n k : Int32} (hn : ¬ n < 0) (hk : ¬ k < 0) (hn1 : n.toNatClampNeg ≤ 1000) (hk1 : k.toNatClampNeg ≤ 1000) (hs : s.heap.size ≤ H.size)
    (hcells : cells + (1 + n.toNatClampNeg) ≤ R.cells) (hslots : slots + (n.toNatClampNeg + n.toNatClampNeg * k.toNatClampNeg) ≤ R.slots)
    (kk : ∀ (H1 : Heap) (cA comp : ClassId) (kA : Class), s.vm.findClass "[[I" = some cA → s.vm.classes[cA]? = some kA → kA.kind = .array comp (.array .int) → s.vm.findClass "[I" = some comp → H1.size = H.size + 1 + n.toNatClampNeg → H1[H.size]? = some (arrV cA n.toNatClampNeg (fun j => .ref (H.size + 1 + j))) → (∀ q : Nat, q < H.size → H1[q]? = H[q]?) → (∀ j : Nat, j < n.toNatClampNeg → H1[H.size + 1 + j]? = some (arrV comp k.toNatClampNeg (fun _ => .int 0))) →
      W p l e R s m args below meth c H1 locs (cells + 1 + n.toNatClampNeg) (slots + n.toNatClampNeg + n.toNatClampNeg * k.toNatClampNeg) Q (F0 m (pc + 4) ls (.ref H.size :: rest))) : W p l e R s m args below meth c H locs cells slots Q (F0 m pc ls (.int k :: .int n :: rest)) := by
  subst hb
  intro T hT X
  subst hT
  obtain ⟨cA, comp, kA, hfA, hkA, hkindA, hfC⟩ := hao
  obtain ⟨comp', kC, cc, hcomp', hkC, hkindC⟩ := Cond.arrayClass_spec harr
  have ecomp : comp' = comp := Option.some.inj (hcomp'.symm.trans hfC)
  subst ecomp
  have hpl : e.platform.magicAccessors = ({} : Platform).magicAccessors := by rw [X.admits.platform]
  obtain ⟨c0, hfc0, hcl⟩ := Cond.classLink_spec hown hclink e.platform hpl
  have ec0 : c0 = cA := Option.some.inj (hfc0.symm.trans hfA)
  subst ec0
  obtain ⟨hg₁, hwarm₁, hready₁⟩ := State.classEntry (e := e) X.warmed hcl
  generalize T.vm.noted m.cls index (.cls c0) = vm₁ at hg₁ hwarm₁ hready₁
  obtain ⟨kA₁, hkA₁, heA⟩ := hwarm₁.alike.2.2 _ _ hkA
  obtain ⟨kC₁, hkC₁, heC⟩ := hwarm₁.alike.2.2 _ _ hkC
  have hkindA₁ : kA₁.kind = .array comp' (.array .int) := by rw [heA]; exact hkindA
  have hkindC₁ : kC₁.kind = .array cc .int := by rw [heC]; exact hkindC
  have X₁ := X.noted hwarm₁
  have hl1 : ∀ z : Nat, z ≤ 1000 → ¬ z > e.platform.arrayLengthLimit := fun z hz => by rw [Launch.admits_arrayLengthLimit X.admits]; omega
  have hh1 : ∀ z : Nat, z ≤ 1000 → ¬ z * 4 > e.platform.maxHeapBytes := fun z hz => by rw [Launch.admits_maxHeapBytes X.admits]; omega
  -- the end: from a state behind all rows
  have fin : ∀ T' : State, xmS p l e R s m args below meth c locs cells slots n.toNatClampNeg k.toNatClampNeg T.heap vm₁ c0 comp' n.toNatClampNeg T' → ∃ t, Steps p.tables e below (T'.setTop (F0 m (pc + 4) ls (.ref T.heap.size :: rest))) t ∧ Q t := by
    rintro T' ⟨x1, x2, x3, x4, x5, x6⟩
    refine kk T'.heap c0 comp' kA hfA hkA hkindA hfC x3 ?_ x5 x6 T' rfl x1
    rw [x4]
    congr 1
    unfold arrV
    congr 2
    funext j
    show (if j.val < n.toNatClampNeg then _ else _) = _
    rw [if_pos j.2]
  have start : xmS p l e R s m args below meth c locs cells slots n.toNatClampNeg k.toNatClampNeg T.heap vm₁ c0 comp' 0 ((T.setVm vm₁).pushCell { cls := c0, slots := Array.replicate n.toNatClampNeg .null, vm := .none }) := by
    have h := X₁.pushed ({ cls := c0, slots := Array.replicate n.toNatClampNeg .null, vm := .none } : Cell)
    have e1 : ({ cls := c0, slots := Array.replicate n.toNatClampNeg .null, vm := .none } : Cell).slots.size = n.toNatClampNeg := by simp
    rw [e1] at h
    refine ⟨by simpa using h, rfl, by simp, ?_, fun q hq => State.heap_pushCell_of_lt _ _ hq, fun j hj => absurd hj (Nat.not_lt_zero _)⟩
    have h2 : ((T.setVm vm₁).pushCell { cls := c0, slots := Array.replicate n.toNatClampNeg .null, vm := .none }).heap[T.heap.size]? = some { cls := c0, slots := Array.replicate n.toNatClampNeg .null, vm := .none } := State.heap_pushCell_size (T.setVm vm₁) _
    rw [h2, arrV_new]
    congr 2
  have all : ∀ i, i ≤ n.toNatClampNeg → xmS p l e R s m args below meth c locs cells slots n.toNatClampNeg k.toNatClampNeg T.heap vm₁ c0 comp' i (xmF (T.setVm vm₁) c0 comp' n.toNatClampNeg k.toNatClampNeg i) := by
    intro i
    induction i with
    | zero => exact fun _ => start
    | succ i ih => exact fun hi => xm_step (Nat.lt_of_succ_le hi) hs (ih (Nat.le_of_succ_le hi))
  obtain ⟨t, a1, b1⟩ := fin _ (all _ (Nat.le_refl _))
  refine ⟨t, ?_, b1⟩
  jvm_step X.here [hexec, hdg]
  simp only [multianewarray.sem, wp_bind', W.resolveClassAt_links (State.method?_setTop (F0 m pc ls (.int k :: .int n :: rest)) X.here.top) hg₁]
  rw [W.popN, if_neg (by decide)]
  refine ⟨F0 m pc ls (.int k :: .int n :: rest), State.topJava?_setTop' (s := T.setVm vm₁) _ X.here.top, [.int n, .int k], rest, rfl, rfl, ?_⟩
  simp only [List.mapM_cons, List.mapM_nil, wp_bind', wp_pure']
  have hfind : ([k].find? (· < 0)) = none := by simp [hk]
  obtain ⟨r1, r2⟩ := X₁.roomAbove hcells hslots
  have r1 : T.heap.size + (1 + n.toNatClampNeg) ≤ e.platform.maxCells := r1
  have r2 : T.slotsUsed + (n.toNatClampNeg + n.toNatClampNeg * k.toNatClampNeg) ≤ e.platform.maxSlots := r2
  rw [multianewarray.make]
  simp only [wp_bind', W.ite, hn, if_false, wp_pure', W.theClass]
  refine ⟨kA₁, hkA₁, ?_⟩
  simp only [hkindA₁]
  rw [wp_bind']
  refine W.newArray_of (c := c0) (k := kA₁) (init := .null) (by exact hkA₁) hkindA₁ (hl1 _ hn1) (hh1 _ hn1) (by show T.heap.size < _; omega) (by show T.slotsUsed + _ ≤ _; omega) rfl (fun acts' => ?_)
  simp only [hfind]
  rw [ite_self, wp_bind', Std.Legacy.Range.forIn_eq_forIn_range']
  have hsz : ([:n.toNatClampNeg] : Std.Legacy.Range).size = n.toNatClampNeg := by simp [Std.Legacy.Range.size]
  rw [hsz]
  have eS : (((((T.setTop (F0 m pc ls (Value.int k :: Value.int n :: rest))).setVm vm₁).setTop (F0 m pc ls rest)).pushCell { cls := c0, slots := Array.replicate n.toNatClampNeg Value.null }) : State) = (xmF (T.setVm vm₁) c0 comp' n.toNatClampNeg k.toNatClampNeg 0).setTop (F0 m pc ls rest) := by
    show ((((T.setVm vm₁).setTop (F0 m pc ls (Value.int k :: Value.int n :: rest))).setTop (F0 m pc ls rest)).pushCell _ : State) = _
    rw [State.setTop_setTop]
    rfl
  rw [eS]
  refine wp_forIn_inv (fun rest' s' => ∃ i, i ≤ n.toNatClampNeg ∧ rest' = List.range' i (n.toNatClampNeg - i) ∧ s' = (xmF (T.setVm vm₁) c0 comp' n.toNatClampNeg k.toNatClampNeg i).setTop (F0 m pc ls rest)) _ _ ⟨0, Nat.zero_le _, rfl, rfl⟩ ?_ ?_
  · rintro x rest' s' d' acts2 Q' ⟨i, hi, hl, rfl⟩ hnext
    have hlt : i < n.toNatClampNeg := by
      rcases Nat.lt_or_ge i n.toNatClampNeg with h | h
      · exact h
      · rw [show n.toNatClampNeg - i = 0 from by omega] at hl
        cases hl
    rw [show n.toNatClampNeg - i = (n.toNatClampNeg - (i + 1)) + 1 from by omega, List.range'_succ] at hl
    obtain ⟨rfl, hrest⟩ := List.cons.inj hl
    obtain ⟨x1, x2, x3, x4, x5, x6⟩ := all x hi
    have hmul : x * k.toNatClampNeg + k.toNatClampNeg ≤ n.toNatClampNeg * k.toNatClampNeg := by
      have := Nat.mul_le_mul_right k.toNatClampNeg (show x + 1 ≤ n.toNatClampNeg from hlt)
      rw [Nat.succ_mul] at this
      exact this
    obtain ⟨r3, r4⟩ := x1.roomAbove (a := 1) (b := k.toNatClampNeg) (by omega) (by omega)
    simp only [wp_bind']
    rw [multianewarray.make]
    simp only [wp_bind', W.ite, hk, if_false, wp_pure', W.theClass]
    refine ⟨kC₁, by show (xmF _ _ _ _ _ _).vm.classes[_]? = _; rw [x2]; exact hkC₁, ?_⟩
    simp only [hkindC₁]
    refine W.newArray_of (k := kC₁) (init := .int 0) (by show (xmF _ _ _ _ _ _).vm.classes[_]? = _; rw [x2]; exact hkC₁) hkindC₁ (hl1 _ hk1) (hh1 _ hk1) r3 r4 rfl (fun acts3 => ?_)
    have hlt0 : T.heap.size < (xmF (T.setVm vm₁) c0 comp' n.toNatClampNeg k.toNatClampNeg x).heap.size := by rw [x3]; omega
    simp only [wp_bind', W.writeLoc, wp_pure']
    refine ⟨arrV c0 n.toNatClampNeg (fun j => if j < x then .ref (T.heap.size + 1 + j) else .null), ?_, fun q => ?_, ?_, ?_, hnext _ _ _ ⟨x + 1, hlt, hrest, ?_⟩⟩
    · show ((xmF (T.setVm vm₁) c0 comp' n.toNatClampNeg k.toNatClampNeg x).pushCell _).heap[T.heap.size]? = some _
      rw [State.heap_pushCell_of_lt (h := hlt0)]
      exact x4
    · have q : (VmData.none : VmData) = .unknown := q
      cases q
    · rw [arrV_size]
      exact hlt
    · have hv : (xmF (T.setVm vm₁) c0 comp' n.toNatClampNeg k.toNatClampNeg x).vm.classes[c0]? = some kA₁ := by rw [x2]; exact hkA₁
      simp [State.fitsSlot, State.slotType?, arrV, hv, hkindA₁, fits]
    · have e9 : ((xmF (T.setVm vm₁) c0 comp' n.toNatClampNeg k.toNatClampNeg x).setTop (F0 m pc ls rest)).heap.size = T.heap.size + 1 + x := x3
      rw [e9]
      rfl
  · rintro s' d' acts2 ⟨i, hi, hl, rfl⟩
    have hiN : i = n.toNatClampNeg := by
      rcases Nat.lt_or_ge i n.toNatClampNeg with h | h
      · rw [show n.toNatClampNeg - i = (n.toNatClampNeg - (i + 1)) + 1 from by omega, List.range'_succ] at hl
        cases hl
      · omega
    subst hiN
    obtain ⟨x1, x2, x3, x4, x5, x6⟩ := all _ (Nat.le_refl n.toNatClampNeg)
    simp only [wp_pure', wp_bind', W.mark, W.pushRef, State.topJava?_setTop' _ x1.here.top, Option.some.injEq, exists_eq_left', State.setTop_setTop, State.heap_setTop]
    intro acts4
    simp [jvm, x1.here.top]
    exact a1
end XM
end
section
/-! AN ARRAY OF INT ROWS, in the world of cells -/
/-- a cell more, with the references f -/
def xrw (ρ : xP) (t i : Nat) (f : Nat → Nat × Nat) : xP := fun a b k => if a = t ∧ b = i then f k else ρ a b k
/-- n cells more of the tag t -/
def xcnN (cnt : Nat → Nat) (t n : Nat) : Nat → Nat := fun a => if a = t then cnt t + n else cnt a
def xrN (ρ : xP) (t c n : Nat) : xP := fun a b k => if a = t ∧ c ≤ b ∧ b < c + n then (0, 0) else ρ a b k
def xzN (σ : xM) (t c n : Nat) : xM := fun a b k => if a = t ∧ c ≤ b ∧ b < c + n then 0 else σ a b k
/-- what was stays -/
def xExt (cnt : Nat → Nat) (ad : Nat → Nat → Nat) (cnt' : Nat → Nat) (ad' : Nat → Nat → Nat) : Prop := (∀ a b, xokr cnt a b → xokr cnt' a b ∧ ad' a b = ad a b) ∧ ∀ a b, a < 4 → ad' a b = ad a b
theorem xExt.refl {cnt : Nat → Nat} {ad : Nat → Nat → Nat} : xExt cnt ad cnt ad := ⟨fun _ _ h => ⟨h, rfl⟩, fun _ _ _ => rfl⟩
theorem xExt.trans {c1 c2 c3 : Nat → Nat} {a1 a2 a3 : Nat → Nat → Nat} (h : xExt c1 a1 c2 a2) (h' : xExt c2 a2 c3 a3) : xExt c1 a1 c3 a3 := ⟨fun a b q => ⟨(h'.1 a b (h.1 a b q).1).1, ((h'.1 a b (h.1 a b q).1).2).trans (h.1 a b q).2⟩, fun a b q => (h'.2 a b q).trans (h.2 a b q)⟩
section XE2
variable {cnt cnt' : Nat → Nat} {ad ad' : Nat → Nat → Nat}
theorem xExt.one {t q : Nat} (ht : 4 ≤ t) : xExt cnt ad (xcn cnt t) (xadd ad t (cnt t) q) := ⟨fun _ _ h => ⟨(xokr_up h ht).1, xadd_ne (xokr_up h ht).2⟩, xadd_lo ht⟩
theorem xExt.ok (h : xExt cnt ad cnt' ad') {v : xV} (hv : xok cnt v) : xok cnt' v := by
  rcases v with x | x | q
  · exact hv
  · exact hv
  · rcases hv with h1 | h1
    · exact Or.inl h1
    · exact Or.inr (h.1 _ _ h1).1
theorem xExt.cv (h : xExt cnt ad cnt' ad') {v : xV} (hv : xok cnt v) : xcv ad' v = xcv ad v := by
  rcases v with x | x | q
  · rfl
  · rfl
  · simp only [xcv]
    rcases hv with h1 | h1
    · rw [show Nat.beq q.1 0 = true from by rw [h1]; rfl]; rfl
    · rw [(h.1 _ _ h1).2]
theorem xExt.map (h : xExt cnt ad cnt' ad') : ∀ {r : List xV}, xoks cnt r → r.map (xcv ad') = r.map (xcv ad)
  | [], _ => rfl
  | v :: r, hr => by
    obtain ⟨h1, h2⟩ := xoks_c.mp hr
    rw [List.map_cons, List.map_cons, h.cv h1, xExt.map h h2]
theorem xExt.oks (h : xExt cnt ad cnt' ad') {r : List xV} (hr : xoks cnt r) : xoks cnt' r := fun v hv => h.ok (hr v hv)
theorem xExt.lr (h : xExt cnt ad cnt' ad') {M : Nat} {L : List xV} {ls : Array Slot} (hL : xLr M cnt ad L ls) : xLr M cnt' ad' L ls :=
  ⟨hL.1, hL.2.1, hL.2.2.1, fun k v hk => ⟨h.ok (hL.2.2.2 k v hk).1, (hL.2.2.2 k v hk).2.1, fun hn => by rw [h.cv (hL.2.2.2 k v hk).1]; exact (hL.2.2.2 k v hk).2.2 hn⟩⟩
end XE2
section XF2
variable {D : va_G} {ad : Nat → Nat → Nat} {ca : Nat → Nat → ClassId} {cnt : Nat → Nat} {ρ : xP} {σ : xM} {A : Nat → Prop} {U : State} {H H1 : Heap}
theorem xE_up2 {t q a b : Nat} {cA : ClassId} {f : Nat → Nat × Nat} (hG : xrvG cnt ρ) (ht : 4 ≤ t) (hn : ¬ (a = t ∧ b = cnt t)) : xE (xadd ad t (cnt t) q) (xadd ca t (cnt t) cA) (xrw ρ t (cnt t) f) (xzr σ t (cnt t)) a b = xE ad ca ρ σ a b := by
  rw [← xE_up (q := q) (cA := cA) (σ := σ) hG ht hn]
  exact xE_rcongr fun k => by unfold xrw xr0; rw [if_neg hn, if_neg hn]
/-- a cell that lies there already comes into the world -/
theorem xWd.add {t q : Nat} {cA : ClassId} {f : Nat → Nat × Nat} (h : xWd D ad ca cnt ρ σ A U H) (hG : xrvG cnt ρ) (ht4 : 4 ≤ t) (hnew : ∀ a b, xvd cnt a b → ad a b ≠ q) (hAq : A q) (hf : ∀ k, (f k).1 = 0 ∨ xokr cnt (f k).1 (f k).2)
    (he : va_at D xcl (q, xE (xadd ad t (cnt t) q) (xadd ca t (cnt t) cA) (xrw ρ t (cnt t) f) (xzr σ t (cnt t)) t (cnt t)) H) (harr : xkind t ≠ 1 → ArrOfT U cA (xaty t) ∧ va_RA U cA (xaty t)) :
    xWd D (xadd ad t (cnt t) q) (xadd ca t (cnt t) cA) (xcn cnt t) (xrw ρ t (cnt t) f) (xzr σ t (cnt t)) A U H ∧ xrvG (xcn cnt t) (xrw ρ t (cnt t) f) := by
  have hG' : xrvG (xcn cnt t) (xrw ρ t (cnt t) f) := by
    intro a b k
    unfold xrw
    by_cases hc : a = t ∧ b = cnt t
    · rw [if_pos hc]
      rcases hf k with h | h
      · exact Or.inl h
      · exact Or.inr (xokr_up h ht4).1
    · rw [if_neg hc]
      rcases hG a b k with h | h
      · exact Or.inl h
      · exact Or.inr (xokr_up h ht4).1
  refine ⟨⟨fun a b hv => ?_, fun a b a' b' hv hv' e1 => ?_, fun a b hv => ?_, fun a b k => ?_, fun a b k _ _ => hG' a b k, fun a b hv hk => ?_⟩, hG'⟩
  · rcases xvd_cn hv with ⟨rfl, rfl⟩ | ⟨hn, ho⟩
    · rw [xadd_at]
      exact he
    · rw [xE_up2 hG ht4 hn, xadd_ne hn]
      exact h.1 a b ho
  · rcases xvd_cn hv with ⟨rfl, rfl⟩ | ⟨hn, ho⟩
    · rcases xvd_cn hv' with ⟨rfl, rfl⟩ | ⟨hn', ho'⟩
      · exact ⟨rfl, rfl⟩
      · rw [xadd_at, xadd_ne hn'] at e1
        exact absurd e1.symm (hnew _ _ ho')
    · rcases xvd_cn hv' with ⟨rfl, rfl⟩ | ⟨hn', ho'⟩
      · rw [xadd_at, xadd_ne hn] at e1
        exact absurd e1 (hnew _ _ ho)
      · rw [xadd_ne hn, xadd_ne hn'] at e1
        exact h.2.1 a b a' b' ho ho' e1
  · rcases xvd_cn hv with ⟨rfl, rfl⟩ | ⟨hn, ho⟩
    · rw [xadd_at]; exact hAq
    · rw [xadd_ne hn]; exact h.2.2.1 a b ho
  · unfold xzr
    by_cases hc : a = t ∧ b = cnt t
    · rw [if_pos hc]; exact ⟨by decide, by decide⟩
    · rw [if_neg hc]; exact h.2.2.2.1 a b k
  · rcases xvd_cn hv with ⟨rfl, rfl⟩ | ⟨hn, ho⟩
    · rw [xadd_at]; exact harr hk
    · rw [xadd_ne hn]; exact h.2.2.2.2.2 a b ho hk
theorem xWd.kept (h : xWd D ad ca cnt ρ σ A U H) (hH : ∀ q : Nat, q < H.size → H1[q]? = H[q]?) : xWd D ad ca cnt ρ σ A U H1 :=
  ⟨fun t i hv => (h.1 t i hv).kept (hH _ (h.1 t i hv).lt), h.2⟩
/-- n rows come into the world -/
theorem xWd.rows {t q : Nat} {cA : ClassId} (ht4 : 4 ≤ t) (hk : xkind t = 2) (harr : ArrOfT U cA (xaty t) ∧ va_RA U cA (xaty t)) :
    ∀ n, (∀ j, j < n → A (q + j)) → (∀ j, j < n → H[q + j]? = some (arrV cA (xsz t) (fun _ => .int 0))) → xWd D ad ca cnt ρ σ A U H → xrvG cnt ρ → (∀ a b, xvd cnt a b → ad a b < q) →
      ∃ (ad' : Nat → Nat → Nat) (ca' : Nat → Nat → ClassId), xWd D ad' ca' (xcnN cnt t n) (xrN ρ t (cnt t) n) (xzN σ t (cnt t) n) A U H ∧ xrvG (xcnN cnt t n) (xrN ρ t (cnt t) n) ∧ xExt cnt ad (xcnN cnt t n) ad' ∧ (∀ a b, xvd (xcnN cnt t n) a b → ad' a b < q + n) ∧ ∀ j, j < n → ad' t (cnt t + j) = q + j := by
  intro n
  induction n with
  | zero =>
    intro _ _ h hG hlt
    have e1 : xcnN cnt t 0 = cnt := by
      funext a
      unfold xcnN
      by_cases e : a = t
      · rw [if_pos e, e]; rfl
      · rw [if_neg e]
    have e2 : xrN ρ t (cnt t) 0 = ρ := by
      funext a b k
      unfold xrN
      rw [if_neg (by omega)]
    have e3 : xzN σ t (cnt t) 0 = σ := by
      funext a b k
      unfold xzN
      rw [if_neg (by omega)]
    rw [e1, e2, e3]
    exact ⟨ad, ca, h, hG, xExt.refl, hlt, fun j hj => absurd hj (Nat.not_lt_zero _)⟩
  | succ n ih =>
    intro hA hH h hG hlt
    obtain ⟨ad', ca', h', hG', hx', hlt', hat'⟩ := ih (fun j hj => hA j (Nat.lt_succ_of_lt hj)) (fun j hj => hH j (Nat.lt_succ_of_lt hj)) h hG hlt
    have ec : xcnN cnt t n t = cnt t + n := by unfold xcnN; rw [if_pos rfl]
    have e1 : xcnN cnt t (n + 1) = xcn (xcnN cnt t n) t := by
      funext a
      unfold xcn xcnN
      by_cases e : a = t
      · rw [if_pos e, if_pos e, if_pos rfl]; omega
      · rw [if_neg e, if_neg e, if_neg e]
    have e2 : xrN ρ t (cnt t) (n + 1) = xrw (xrN ρ t (cnt t) n) t (cnt t + n) (fun _ => (0, 0)) := by
      funext a b k
      unfold xrw xrN
      by_cases e : a = t ∧ b = cnt t + n
      · rw [if_pos e, if_pos (by omega)]
      · rw [if_neg e]
        by_cases e' : a = t ∧ cnt t ≤ b ∧ b < cnt t + n
        · rw [if_pos e', if_pos (by omega)]
        · rw [if_neg e', if_neg (by omega)]
    have e3 : xzN σ t (cnt t) (n + 1) = xzr (xzN σ t (cnt t) n) t (cnt t + n) := by
      funext a b k
      unfold xzr xzN
      by_cases e : a = t ∧ b = cnt t + n
      · rw [if_pos e, if_pos (by omega)]
      · rw [if_neg e]
        by_cases e' : a = t ∧ cnt t ≤ b ∧ b < cnt t + n
        · rw [if_pos e', if_pos (by omega)]
        · rw [if_neg e', if_neg (by omega)]
    rw [e1, e2, e3, ← ec]
    have hadd := h'.add (t := t) (q := q + n) (cA := cA) (f := fun _ => (0, 0)) hG' ht4 (fun a b hv => Nat.ne_of_lt (hlt' a b hv)) (hA n (Nat.lt_succ_self n)) (fun _ => Or.inl rfl) (by
      rw [xE_i (by omega) (by omega), xadd_at]
      show H[q + n]? = some (vp_cell _ _)
      rw [vp_cell_i, hH n (Nat.lt_succ_self n)]
      congr 2
      funext j
      unfold xzr
      rw [if_pos ⟨rfl, rfl⟩]
      rfl) (fun _ => harr)
    refine ⟨_, _, hadd.1, hadd.2, hx'.trans (xExt.one ht4), fun a b hv => ?_, fun j hj => ?_⟩
    · rcases xvd_cn hv with ⟨rfl, rfl⟩ | ⟨hn, ho⟩
      · rw [xadd_at]; omega
      · rw [xadd_ne hn]
        have := hlt' a b ho
        omega
    · by_cases hj' : j = n
      · rw [hj', ← ec, xadd_at]
      · rw [xadd_ne (by rw [ec]; omega)]
        exact hat' j (by omega)
end XF2
section XG2
variable {p : Program} {l : Launch} {e : Env} {R : Room} {s : State} {m : MethodId} {args : Array Value} {below : List Frame} {meth : Method} {c : Code} {cells slots : Nat} {Q : State → Prop}
variable {M : Nat} {A : Nat → Prop} {ad : Nat → Nat → Nat} {ca : Nat → Nat → ClassId} {D : va_G} {cnt : Nat → Nat} {ρ : xP} {σ : xM}
theorem xvd_cnN {t n a b : Nat} (h : xvd (xcnN cnt t n) a b) : xvd cnt a b ∨ (a = t ∧ cnt t ≤ b ∧ b < cnt t + n) := by
  obtain ⟨h1, h2, h3⟩ := h
  unfold xcnN at h3
  by_cases e : a = t
  · rw [if_pos e] at h3
    subst e
    by_cases e2 : b < cnt a
    · exact Or.inl ⟨h1, h2, e2⟩
    · exact Or.inr ⟨rfl, by omega, h3⟩
  · rw [if_neg e] at h3
    exact Or.inl ⟨h1, h2, h3⟩
/-- the rows' references -/
def xrf (tr c n : Nat) : Nat → Nat × Nat := fun j => if j < n then (tr, c + j) else (0, 0)
set_option maxHeartbeats 4000000 in
theorem xo_multi (F : xFix p s m args meth c M A ad D) {pc x tp tr : Nat} {L r : List xV} (hd : decode (xy M).2.1 pc = .ok (.multianewarray x 2, 4)) (hk : xkind tp = 4) (hty : xaty tp = .array .int) (hkr : xkind tr = 2) (hw : Cond.classLink (xow M) x "[[I" ∈ xGT) (hwa : Cond.arrayClass .int ∈ xGT) (hs1 : xsz tp ≤ 1000) (hs2 : xsz tr ≤ 1000) (hG : xrvG cnt ρ)
    (hcells : cells + (1 + xsz tp) ≤ R.cells) (hslots : slots + (xsz tp + xsz tp * xsz tr) ≤ R.slots)
    (k : ∀ (ad' : Nat → Nat → Nat) (ca' : Nat → Nat → ClassId), xExt cnt ad (xcn (xcnN cnt tr (xsz tp)) tp) ad' → xrvG (xcn (xcnN cnt tr (xsz tp)) tp) (xrw (xrN ρ tr (cnt tr) (xsz tp)) tp (cnt tp) (xrf tr (cnt tr) (xsz tp))) →
      xNx p l e R s m args below meth c (cells + 1 + xsz tp) (slots + xsz tp + xsz tp * xsz tr) Q M A ad' ca' D (xcn (xcnN cnt tr (xsz tp)) tp) (xrw (xrN ρ tr (cnt tr) (xsz tp)) tp (cnt tp) (xrf tr (cnt tr) (xsz tp))) (pc + 4) L (vR tp (cnt tp) :: r) (xzr (xzN σ tr (cnt tr) (xsz tp)) tp (cnt tp))) :
    xNx p l e R s m args below meth c cells slots Q M A ad ca D cnt ρ pc L (vI (xlen tr) :: vI (xlen tp) :: r) σ := by
  intro H locs ls hW hS hL hs
  obtain ⟨hx2, hs'⟩ := xoks_c.mp hs
  obtain ⟨hx1, hr⟩ := xoks_c.mp hs'
  have hk0 : xkind tp ≠ 0 := by omega
  have hk0' : xkind tr ≠ 0 := by omega
  have ht4 : 4 ≤ tp := xkind_4 hk0
  have ht4' : 4 ≤ tr := xkind_4 hk0'
  have hne : tp ≠ tr := by rintro rfl; omega
  obtain ⟨el1, hl1⟩ := xlen_ok (t := tp) (by omega)
  obtain ⟨el2, hl2⟩ := xlen_ok (t := tr) (by omega)
  have h01 : 0 ≤ xlen tp := by rw [el1]; omega
  have h02 : 0 ≤ xlen tr := by rw [el2]; omega
  have hN : (Int32.ofInt (xlen tp)).toNatClampNeg = xsz tp := by rw [xn_nat h01 hx1, el1]; rfl
  have hK : (Int32.ofInt (xlen tr)).toNatClampNeg = xsz tr := by rw [xn_nat h02 hx2, el2]; rfl
  obtain ⟨hx, hb, hml, -, hown, -, hts, hex, hA, hro, hKn, -⟩ := id F
  rw [List.map_cons, List.map_cons]
  refine xm_multi (own := xow M) (index := x) (n := Int32.ofInt (xlen tp)) (k := Int32.ofInt (xlen tr)) hx hb hown (hts _ hw) hex.2.2.1 (hts _ hwa) hd (fun q => by rw [xn_0, xn_lt hx1 xn_r0] at q; omega) (fun q => by rw [xn_0, xn_lt hx2 xn_r0] at q; omega) (by rw [hN]; exact hs1) (by rw [hK]; exact hs2) hS.1 (by rw [hN]; exact hcells) (by rw [hN, hK]; exact hslots) (fun H1 cA comp kA hfA hkA hkindA hfC hsz hout hold hrows => ?_)
  rw [hN] at hsz hout hrows
  rw [hK] at hrows
  rw [hN, hK]
  obtain ⟨comp', kC, cc, hcomp', hkC, hkindC⟩ := Cond.arrayClass_spec (hts _ hwa)
  obtain rfl : comp' = comp := Option.some.inj (hcomp'.symm.trans hfC)
  have hW1 := hW.kept hold
  have hrow : ArrOfT s comp' (xaty tr) ∧ va_RA s comp' (xaty tr) := by
    rw [xarr_2 hkr]
    exact ⟨fun N z => ⟨(fun k h => by cases h), kC, hkC, cc, hkindC⟩, hfC⟩
  obtain ⟨ad', ca', hW2, hG2, hx2', hlt2, hat2⟩ := xWd.rows (q := H.size + 1) (n := xsz tp) ht4' hkr hrow (fun j _ => hA _ (by have := hS.1; omega)) (fun j hj => hrows j hj) hW1 hG (fun a b hv => Nat.lt_succ_of_lt (hW.1 a b hv).lt)
  have ecp : xcnN cnt tr (xsz tp) tp = cnt tp := by unfold xcnN; rw [if_neg hne]
  have ecr : xcnN cnt tr (xsz tp) tr = cnt tr + xsz tp := by unfold xcnN; rw [if_pos rfl]
  have hadd := hW2.add (t := tp) (q := H.size) (cA := cA) (f := xrf tr (cnt tr) (xsz tp)) hG2 ht4 (fun a b hv => by
    rcases xvd_cnN hv with ho | ⟨rfl, hb1, hb2⟩
    · rw [(hx2'.1 a b (Or.inr (Or.inr (Or.inr ho)))).2]
      exact Nat.ne_of_lt (hW.1 a b ho).lt
    · have := hat2 (b - cnt a) (by omega)
      rw [show cnt a + (b - cnt a) = b by omega] at this
      omega) (hA _ hS.1) (fun j => by
    unfold xrf
    by_cases hj : j < xsz tp
    · rw [if_pos hj]
      exact Or.inr (Or.inr (Or.inr (Or.inr ⟨ht4', xkind_lt hk0', by rw [ecr]; show cnt tr + j < _; omega⟩)))
    · rw [if_neg hj]
      exact Or.inl rfl) (by
    rw [xE_q hk, xadd_at]
    show H1[H.size]? = some (vp_cell _ _)
    rw [vp_cell_q, hout]
    congr 1
    unfold arrV
    congr 2
    funext j
    have hz : xrw (xrN ρ tr (cnt tr) (xsz tp)) tp (xcnN cnt tr (xsz tp) tp) (xrf tr (cnt tr) (xsz tp)) tp (xcnN cnt tr (xsz tp) tp) j.val = (tr, cnt tr + j.val) := by
      unfold xrw xrf
      rw [if_pos ⟨rfl, rfl⟩, if_pos j.2]
    show Value.ref (Array.size H + 1 + j.val) = va_rf (cond (Nat.beq (xrw (xrN ρ tr (cnt tr) (xsz tp)) tp (xcnN cnt tr (xsz tp) tp) (xrf tr (cnt tr) (xsz tp)) tp (xcnN cnt tr (xsz tp) tp) j.val).1 0) none (some (xadd ad' tp (xcnN cnt tr (xsz tp) tp) (Array.size H) (xrw (xrN ρ tr (cnt tr) (xsz tp)) tp (xcnN cnt tr (xsz tp) tp) (xrf tr (cnt tr) (xsz tp)) tp (xcnN cnt tr (xsz tp) tp) j.val).1 (xrw (xrN ρ tr (cnt tr) (xsz tp)) tp (xcnN cnt tr (xsz tp) tp) (xrf tr (cnt tr) (xsz tp)) tp (xcnN cnt tr (xsz tp) tp) j.val).2)))
    rw [hz]
    show _ = va_rf (cond (Nat.beq tr 0) none (some (xadd ad' tp _ _ tr (cnt tr + j.val))))
    rw [xb0 hk0', xadd_ne (fun z => hne z.1.symm), hat2 j.val j.2]
    rfl) (fun _ => by
    rw [hty]
    exact ⟨fun N z => ⟨(fun k h => by cases h), kA, hkA, comp', hkindA⟩, hfA⟩)
  rw [ecp] at hadd
  have hx3 := hx2'.trans (xExt.one (t := tp) (q := H.size) ht4)
  rw [ecp] at hx3
  have h := k _ _ hx3 hadd.2 H1 locs ls hadd.1 ⟨Nat.le_trans hS.1 (by omega), fun q h1 h2 => (hold q (Nat.lt_of_lt_of_le h1 hS.1)).trans (hS.2.1 q h1 h2), hS.2.2⟩ (hx3.lr hL) (xoks_c.mpr ⟨Or.inr (Or.inr (Or.inr (Or.inr ⟨ht4, xkind_lt hk0, by show cnt tp < xcn _ tp tp; unfold xcn; rw [if_pos rfl, ecp]; omega⟩))), hx3.oks hr⟩)
  rw [List.map_cons, xcv_R (xb0 hk0), xadd_at, hx3.map hr] at h
  exact h
end XG2
end
section
/-! WHAT THE CONSTRUCTORS MAKE: reckoned -/
/-- the place of an instruction that makes cells, and the tag that they get -/
def xsite : List (Nat × Nat) := [(m_P_init * 1000 + 5, 5), (m_P_init * 1000 + 16, 5), (m_P_init * 1000 + 27, 17), (m_P_init * 1000 + 38, 19), (m_P_init * 1000 + 49, 25), (m_P_init * 1000 + 60, 33), (m_P_init * 1000 + 72, 35), (m_P_init * 1000 + 81, 38), (m_P_init * 1000 + 89, 39), (m_P_init * 1000 + 106, 36), (m_S_init * 1000 + 7, 6), (m_S_init * 1000 + 16, 8), (m_S_init * 1000 + 30, 11), (m_S_init * 1000 + 37, 12), (m_S_init * 1000 + 46, 16), (m_S_init * 1000 + 64, 7), (m_S_init * 1000 + 91, 9), (m_S_init * 1000 + 117, 13), (m_C_init * 1000 + 6, 10), (m_T_init * 1000 + 7, 14), (m_T_init * 1000 + 15, 15), (m_D_init * 1000 + 5, 13), (m_D_init * 1000 + 18, 18), (m_A_init * 1000 + 9, 20), (m_A_init * 1000 + 22, 22), (m_A_init * 1000 + 32, 24), (m_L_init * 1000 + 7, 26), (m_L_init * 1000 + 15, 27), (m_L_init * 1000 + 23, 28), (m_L_init * 1000 + 31, 29), (m_L_init * 1000 + 40, 30), (m_L_init * 1000 + 50, 32), (m_V_init * 1000 + 7, 34), (m_H_init * 1000 + 7, 37), (m_M_init * 1000 + 8, 41), (m_M_init * 1000 + 17, 42), (m_M_init * 1000 + 26, 43), (m_M_init * 1000 + 34, 44), (m_M_init * 1000 + 41, 45), (m_M_init * 1000 + 48, 46), (m_M_init * 1000 + 56, 47), (m_M_init * 1000 + 64, 48), (m_M_init * 1000 + 72, 49), (m_M_init * 1000 + 79, 50), (m_M_init * 1000 + 87, 51), (m_M_init * 1000 + 96, 52), (m_M_init * 1000 + 104, 53), (m_M_init * 1000 + 112, 54), (m_M_init * 1000 + 120, 55), (m_M_init * 1000 + 128, 56)]
/-- a class's name at an index of a class's pool -/
def xclN : List (Nat × (String × Nat)) := [((xrec m_P_init).1 * 1000 + 7, ("PlayParts$Stage", 100)), ((xrec m_S_init).1 * 1000 + 9, ("PlayParts$Role", 106)), ((xrec m_S_init).1 * 1000 + 17, ("PlayParts$Child", 108)), ((xrec m_S_init).1 * 1000 + 31, ("PlayParts$Text", 110)), ((xrec m_P_init).1 * 1000 + 19, ("PlayParts$Reader", 239)), ((xrec m_D_init).1 * 1000 + 9, ("PlayParts$Text", 245)), ((xrec m_P_init).1 * 1000 + 26, ("PlayParts$Caster", 269)), ((xrec m_A_init).1 * 1000 + 9, ("[[I", 275)), ((xrec m_P_init).1 * 1000 + 33, ("PlayParts$Liar", 295)), ((xrec m_L_init).1 * 1000 + 25, ("[[I", 301)), ((xrec m_P_init).1 * 1000 + 40, ("PlayParts$Voices", 333)), ((xrec m_P_init).1 * 1000 + 47, ("PlayParts$Sheet", 361))]
def xinN : List (Nat × (Nat × Nat)) := [(4, (93, 73)), (5, (101, 74)), (7, (112, 75)), (9, (129, 76)), (13, (167, 77)), (17, (240, 78)), (19, (270, 79)), (25, (296, 80)), (33, (334, 81)), (36, (363, 82)), (40, (985, 83))]
theorem xclN_all : xclN.all (fun e => decide (lw_tbl[e.2.2]? = some (.classLink (xnth "" xowL (e.1 / 1000)) (e.1 % 1000) e.2.1))) = true := by decide +kernel
theorem xinN_all : xinN.all (fun e => decide (lw_tbl[e.2.1]? = some (.instantiable (xCt e.1) (xsz e.1))) && decide (lw_tbl[e.2.2]? = some (.initialized (xCt e.1)))) = true := by decide +kernel
theorem xclN_ok {c x : Nat} {C : String} {n : Nat} (hx : x < 1000) (h : xas xclN (c * 1000 + x) = some (C, n)) : Cond.classLink (xnth "" xowL c) x C ∈ xGT := by
  have h1 := of_decide_eq_true (List.all_eq_true.mp xclN_all _ (xas_mem _ _ _ h))
  rw [show (c * 1000 + x, (C, n)).1 / 1000 = c from by show (c * 1000 + x) / 1000 = c; omega, show (c * 1000 + x, (C, n)).1 % 1000 = x from by show (c * 1000 + x) % 1000 = x; omega] at h1
  exact xGT_in _ h1 rfl
theorem xinN_ok {t : Nat} {q : Nat × Nat} (h : xas xinN t = some q) : Cond.instantiable (xCt t) (xsz t) ∈ xGT ∧ Cond.initialized (xCt t) ∈ xGT := by
  have h1 := List.all_eq_true.mp xinN_all _ (xas_mem _ _ _ h)
  rw [Bool.and_eq_true] at h1
  exact ⟨xGT_in _ (of_decide_eq_true h1.1) rfl, xGT_in _ (of_decide_eq_true h1.2) rfl⟩
theorem xw_arrI : Cond.arrayClass .int ∈ xGT := xGT_in 128 (by decide +kernel) (by decide +kernel)
theorem xw_arrZ : Cond.arrayClass .boolean ∈ xGT := xGT_in 332 (by decide +kernel) (by decide +kernel)
/-- a field's word, not of a nest mate -/
def xpn (c x : Nat) : Bool := match xas (xnth [] xfpT c) x with
  | some p => !p.2
  | none => false
theorem xpn_ok {c x : Nat} {q : Nat × Nat} (h : xfld c x = some q) (hp : xpn c x = true) : xfw c x false q ∈ lw_tbl := by
  have h1 := xall_nth (T := xfldT) (n := 14) (f := xchF) (d := []) (by decide +kernel) rfl xchF_ok c (x, q) (xas_mem (xnth [] xfldT c) x q h)
  unfold xchF at h1
  unfold xpn at hp
  cases hq : xas (xnth [] xfpT c) x with
  | none => rw [hq] at hp; cases hp
  | some p =>
    rw [hq] at hp
    simp only [hq, Bool.and_eq_true, decide_eq_true_eq] at h1
    obtain ⟨p1, p2⟩ := p
    cases p2 with
    | true => cases hp
    | false => exact List.mem_of_getElem? h1.1.1
def xaqN (t : Nat) : String := match xaty t with
  | .object C => C
  | _ => ""
def xsl : List (Nat × Nat × Nat × Int) → xM
  | [] => fun _ _ _ => 0
  | e :: l => xup (xsl l) e.1 e.2.1 e.2.2.1 e.2.2.2
/-- no int of the cell was set -/
def xfree (l : List (Nat × Nat × Nat × Int)) (t i : Nat) : Bool := l.all fun e => !(Nat.beq e.1 t && Nat.beq e.2.1 i)
def xfreN (l : List (Nat × Nat × Nat × Int)) (t i n : Nat) : Bool := l.all fun e => !(Nat.beq e.1 t && Nat.ble i e.2.1 && Nat.blt e.2.1 (i + n))
/-- how many cells of each kind, references, ints, cells and places used -/
abbrev xGt : Type := (Nat → Nat) × xP × List (Nat × Nat × Nat × Int) × Nat × Nat
def xgnew (t : Nat) (g : xGt) : xGt := (xcn g.1 t, xr0 g.2.1 t (g.1 t), g.2.2.1, g.2.2.2.1 - 1, g.2.2.2.2 - xsz t)
def xgcan (t : Nat) (g : xGt) : Bool := xfree g.2.2.1 t (g.1 t) && Nat.blt 0 g.2.2.2.1 && Nat.ble (xsz t) g.2.2.2.2
def xgmul (t : Nat) (g : xGt) : xGt := (xcn (xcnN g.1 (t + 1) (xsz t)) t, xrw (xrN g.2.1 (t + 1) (g.1 (t + 1)) (xsz t)) t (g.1 t) (xrf (t + 1) (g.1 (t + 1)) (xsz t)), g.2.2.1, g.2.2.2.1 - (1 + xsz t), g.2.2.2.2 - (xsz t + xsz t * xsz (t + 1)))
/-- what is left at the end is not more -/
def xgchk (g1 : xGt) (o : Option xGt) : Option xGt := match o with
  | some g => cond (Nat.ble g.2.2.2.1 g1.2.2.2.1 && Nat.ble g.2.2.2.2 g1.2.2.2.2) (some g) none
  | none => none
def xcmp (c : ClassFile.Cond) (x y : Int) : Option Bool := match c with
  | .ge => some (!decide (x < y))
  | _ => none
def xG : Nat → Nat → Nat → List xV → List xV → xGt → Option xGt
  | 0, _, _, _, _, _ => none
  | n + 1, M, pc, L, st, g => match xat M pc with
    | none => none
    | some q => match q.1 with
      | .iconst v => xG n M (pc + 1) L (vI v :: st) g
      | .bipush v => xG n M (pc + 2) L (vI v :: st) g
      | .sipush v => xG n M (pc + 3) L (vI v :: st) g
      | .ldc x => match xkon (xrec M).1 x, xstr (xrec M).1 x with
        | none, some z => xG n M (pc + 2) L (vR 1 z :: st) g
        | _, _ => none
      | .iload_n k => match xget L k with
        | .inl x => xG n M (pc + 1) L (vI x :: st) g
        | _ => none
      | .aload_n k => match xget L k with
        | .inr (.inr q) => cond (Nat.beq q.1 0) none (xG n M (pc + 1) L (vR q.1 q.2 :: st) g)
        | _ => none
      | .istore_n k => match st with
        | .inl x :: r => cond (xlgS M k) none (xG n M (pc + 1) (xset L k (vI x)) r g)
        | _ => none
      | .iinc k v => match xget L k with
        | .inl x => cond (xlgS M k) none (xG n M (pc + 3) (xset L k (vI (xwr (x + v)))) st g)
        | _ => none
      | .if_icmp c o => match st with
        | .inl y :: .inl x :: r => match xcmp c x y with
          | some b => xG n M (cond b (xjmp pc o) (pc + 3)) L r g
          | none => none
        | _ => none
      | .goto o => xG n M (xjmp pc o) L st g
      | .dup => match st with
        | .inr (.inr q) :: r => xG n M (pc + 1) L (vR q.1 q.2 :: vR q.1 q.2 :: r) g
        | _ => none
      | .getfield x => match st, xfld (xrec M).1 x with
        | .inr (.inr q) :: r, some f => cond (Nat.beq q.1 f.1 && Nat.beq (xft f.1 f.2) 1 && !(Nat.beq f.1 1)) (xG n M (pc + 3) L (vR (g.2.1 q.1 q.2 f.2).1 (g.2.1 q.1 q.2 f.2).2 :: r) g) none
        | _, _ => none
      | .putfield x => match st, xfld (xrec M).1 x with
        | v :: .inr (.inr q) :: r, some f => cond (Nat.beq q.1 f.1 && !(Nat.beq q.1 1)) (match xft f.1 f.2, v with
          | 0, .inl y => cond (Nat.beq q.1 1) none (xG n M (pc + 3) L r (g.1, g.2.1, (q.1, q.2, f.2, y) :: g.2.2.1, g.2.2.2))
          | 1, .inr (.inr w) => cond (Nat.beq w.1 0 || !(xpn (xrec M).1 x && (xFt f.1 f.2).2.2.2 && decide (xCt f.1 = xow M) && decide ((xy M).1.name = "<init>"))) none (xG n M (pc + 3) L r (g.1, xru g.2.1 q.1 q.2 f.2 (w.1, w.2), g.2.2.1, g.2.2.2))
          | 2, .inr (.inr w) => cond (Nat.beq w.1 1) (xG n M (pc + 3) L r (g.1, g.2.1, (q.1, q.2, f.2, (w.2 : Int)) :: g.2.2.1, g.2.2.2)) none
          | _, _ => none) none
        | _, _ => none
      | .iastore => match st with
        | .inl v :: .inl x :: .inr (.inr q) :: r => cond (xints q.1 && decide (0 ≤ x ∧ x < xlen q.1)) (xG n M (pc + 1) L r (g.1, g.2.1, (q.1, q.2, x.toNat, v) :: g.2.2.1, g.2.2.2)) none
        | _ => none
      | .aastore => match st with
        | .inr (.inr w) :: .inl x :: .inr (.inr q) :: r => cond (Nat.beq (xkind q.1) 4 && Nat.beq (xkind w.1) 1 && decide (xaqN q.1 = xCt w.1) && decide (0 ≤ x ∧ x < xlen q.1)) (xG n M (pc + 1) L r (g.1, xru g.2.1 q.1 q.2 x.toNat (w.1, w.2), g.2.2.1, g.2.2.2)) none
        | _ => none
      | .new x => match xas xsite (M * 1000 + pc), xas xclN ((xrec M).1 * 1000 + x) with
        | some t, some C => cond (Nat.beq (xkind t) 1 && decide (C.1 = xCt t) && (xas xinN t).isSome && Nat.blt x 1000 && xgcan t g) (xgchk (xgnew t g) (xG n M (pc + 3) L (vR t (g.1 t) :: st) (xgnew t g))) none
        | _, _ => none
      | .newarray ty => match xas xsite (M * 1000 + pc), st with
        | some t, .inl x :: r => cond ((Nat.beq (xkind t) 2 || Nat.beq (xkind t) 3) && decide (newarray.typeOf ty = xaty t) && decide (x = xlen t) && xgcan t g) (xgchk (xgnew t g) (xG n M (pc + 2) L (vR t (g.1 t) :: r) (xgnew t g))) none
        | _, _ => none
      | .anewarray c => match xas xsite (M * 1000 + pc), xas xclN ((xrec M).1 * 1000 + c), st with
        | some t, some C, .inl x :: r => cond (Nat.beq (xkind t) 4 && decide (xaty t = .object C.1) && ["PlayParts$Role", "PlayParts$Child", "PlayParts$Text", "PlayParts$Sheet"].contains C.1 && Nat.blt c 1000 && decide (x = xlen t) && xgcan t g) (xgchk (xgnew t g) (xG n M (pc + 3) L (vR t (g.1 t) :: r) (xgnew t g))) none
        | _, _, _ => none
      | .multianewarray c d => match xas xsite (M * 1000 + pc), xas xclN ((xrec M).1 * 1000 + c), st with
        | some t, some C, .inl y :: .inl x :: r => cond (Nat.beq d 2 && decide (C.1 = "[[I") && Nat.blt c 1000 && Nat.beq (xkind t) 4 && decide (xaty t = .array .int) && Nat.beq (xkind (t + 1)) 2 && Nat.ble (xsz t) 1000 && Nat.ble (xsz (t + 1)) 1000 && decide (x = xlen t) && decide (y = xlen (t + 1)) && xfree g.2.2.1 t (g.1 t) && xfreN g.2.2.1 (t + 1) (g.1 (t + 1)) (xsz t) && Nat.ble (1 + xsz t) g.2.2.2.1 && Nat.ble (xsz t + xsz t * xsz (t + 1)) g.2.2.2.2)
            (xgchk (xgmul t g) (xG n M (pc + 4) L (vR t (g.1 t) :: r) (xgmul t g))) none
        | _, _, _ => none
      | .invokespecial x => match xcal (xrec M).1 x, st with
        | some q, .inr (.inr o) :: r => match q.2 with
          | 5 => cond (Nat.beq q.1 999 && !(Nat.beq o.1 0) && xrs r) (xG n M (pc + 3) L r g) none
          | 2 => cond (Nat.beq (xrec q.1).2.2.2.1 o.1 && Nat.beq (xrec q.1).2.2.2.2 1 && Nat.blt q.1 xN && xrs r && Nat.beq (xrec q.1).2.2.1 0 && decide ((xy q.1).1.name = "<init>") && !(Nat.beq o.1 0) && Nat.blt 0 (xrec q.1).2.1) (match xG n q.1 0 (xent q.1 [vR o.1 o.2]) [] g with
            | some g' => cond (Nat.ble g'.2.2.2.1 g.2.2.2.1 && Nat.ble g'.2.2.2.2 g.2.2.2.2) (xgchk g' (xG n M (pc + 3) L r g')) none
            | none => none) none
          | 4 => cond (Nat.beq (xrec q.1).2.2.2.1 o.1 && Nat.beq (xrec q.1).2.2.2.2 1 && Nat.blt q.1 xN && xrs r && Nat.beq (xrec q.1).2.2.1 0 && decide ((xy q.1).1.name = "<init>") && !(Nat.beq o.1 0) && Nat.blt 0 (xrec q.1).2.1) (match xG n q.1 0 (xent q.1 [vR o.1 o.2]) [] g with
            | some g' => cond (Nat.ble g'.2.2.2.1 g.2.2.2.1 && Nat.ble g'.2.2.2.2 g.2.2.2.2) (xgchk g' (xG n M (pc + 3) L r g')) none
            | none => none) none
          | _ => none
        | _, _ => none
      | .return_ => match st with
        | [] => cond (Nat.beq (xrec M).2.2.1 0) (some g) none
        | _ => none
      | _ => none
def xg0 : xGt := (fun _ => 0, fun _ _ _ => (0, 0), [], 200, 20000)

/-- both objects -/
def xgP : Option xGt := xG 700 m_P_init 0 (xent m_P_init [vR 4 0]) [] (xgnew 4 xg0)
def xgM (g : xGt) : Option xGt := xG 200 m_M_init 0 (xent m_M_init [vR 40 0]) [] (xgnew 40 g)
def xgAll : Option xGt := match xgP with
  | some g => xgM g
  | none => none
/-- a place that holds a reference -/
def xrfp (t k : Nat) : Bool := Nat.beq (xkind t) 4 || (Nat.beq (xkind t) 1 && Nat.beq (xft t k) 1)
def xpeq (p q : Nat × Nat) : Bool := Nat.beq p.1 q.1 && Nat.beq p.2 q.2
def xgcnt (g : xGt) : Bool := (List.range 57).all fun t => Nat.blt t 4 || Nat.beq (g.1 t) (xcnt t)
def xgrho (g : xGt) : Bool := (List.range 57).all fun t => Nat.blt t 4 || (List.range (xcnt t)).all fun i => (List.range (xsz t)).all fun k => !(xrfp t k) || xpeq (g.2.1 t i k) (xrho t i k)
def xgok : Bool := match xgAll with
  | some g => xgcnt g && xgrho g && decide (g.2.2.1 = [(41, 0, 1, 1), (17, 0, 3, 1), (5, 1, 4, 1), (5, 0, 4, 1)])
  | none => false
theorem xgok_ok : xgok = true := by decide +kernel
end
section
/-! CONSTRUCTORS: their contract, their calls -/
def xPreG (D : va_G) (ad : Nat → Nat → Nat) (ca : Nat → Nat → ClassId) (sz : Nat) (cnt : Nat → Nat) (ρ : xP) (σ : xM) (as : List xV) (U : State) : Prop :=
  U.heap.size = sz ∧ xWd D ad ca cnt ρ σ (xAs ad cnt sz) U U.heap ∧ xrvG cnt ρ ∧ va_K D xcl [] U ∧ xEx ad U ∧ xROk ad (xAs ad cnt sz) U U.heap ∧ xoks cnt as
theorem xPreG.blind {D : va_G} {ad : Nat → Nat → Nat} {ca : Nat → Nat → ClassId} {sz : Nat} {cnt : Nat → Nat} {ρ : xP} {σ : xM} {as : List xV} : FrameBlind (va_Pc (as.map (xcv ad)) (xPreG D ad ca sz cnt ρ σ as)) := by
  rintro a U g mk ⟨e, h1, h2, hG, h3, h4, h5, h6⟩
  exact ⟨e, h1, h2.moved (U := U.calling g mk a) (Vm.Alike.refl U.vm) (fun _ _ _ h => h), hG, va_K.moved (u := U) (U := U.calling g mk a) (Vm.Alike.refl U.vm) h3, h4.same (u := U) (U := U.calling g mk a) rfl, h5.moved (U := U.calling g mk a) (Vm.Alike.refl U.vm), h6⟩
abbrev xAd : Type := (Nat → Nat → Nat) × (Nat → Nat → ClassId)
def xQg (cnt0 : Nat → Nat) (ad0 : Nat → Nat → Nat) (g : xGt) (D : va_G) (A : Nat → Prop) : Array Value → State → Outcome → State → Prop :=
  va_Qv (fun u : xAd => xExt cnt0 ad0 g.1 u.1 ∧ xrvG g.1 g.2.1) (fun u t => xWd D u.1 u.2 g.1 g.2.1 (xsl g.2.2.1) A t t.heap) A
/-- a constructor's contract -/
def xCon (l : Launch) (d k : Nat) (as : List xV) (g g' : xGt) : Prop := ∀ (D : va_G) (ad : Nat → Nat → Nat) (ca : Nat → Nat → ClassId) (sz : Nat),
  Met l (xy k).1 (xws k) (xroom d (g.2.2.2.1 - g'.2.2.2.1) (g.2.2.2.2 - g'.2.2.2.2)) (va_Pc (as.map (xcv ad)) (xPreG D ad ca sz g.1 g.2.1 (xsl g.2.2.1) as)) (xQg g.1 ad g' D (xAs ad g.1 sz)) (g.2.2.2.1 - g'.2.2.2.1) (g.2.2.2.2 - g'.2.2.2.2) (xAs ad g.1 sz)
section XK
variable {p : Program} {l : Launch} {e : Env} {R : Room} {s : State} {m : MethodId} {args : Array Value} {below : List Frame} {meth : Method} {c : Code} {cells slots : Nat} {Q : State → Prop}
variable {M : Nat} {A : Nat → Prop} {ad : Nat → Nat → Nat} {ca : Nat → Nat → ClassId} {D : va_G} {cnt : Nat → Nat} {ρ : xP} {σ : xM}
theorem xsubG {H : Heap} {locs : List Loc} (F : xFix p s m args meth c M A ad D) (hW : xWd D ad ca cnt ρ σ A s H) (hS : va_S A s.heap H locs) : ∀ q, xAs ad cnt H.size q → A q := by
  intro q hq
  rcases hq with ⟨t, i, hv, rfl⟩ | hq
  · exact hW.2.2.1 t i hv
  · exact F.2.2.2.2.2.2.2.2.1 q (Nat.le_trans hS.1 hq)
theorem xpreG_at {H : Heap} {locs : List Loc} {as : List xV} (F : xFix p s m args meth c M A ad D) (hW : xWd D ad ca cnt ρ σ A s H) (hG : xrvG cnt ρ) (hS : va_S A s.heap H locs) (hs : xoks cnt as) {U : State} (hU : U.heap = H) (hWU : s.WarmedH U.vm) : xPreG D ad ca H.size cnt ρ σ as U := by
  refine ⟨by rw [hU], ?_, hG, va_K.moved hWU.alike F.2.2.2.2.2.2.2.2.2.2.1, F.2.2.2.2.2.2.2.1.warm hWU, ?_, hs⟩
  · rw [hU]
    exact hW.moved hWU.alike (fun t i hv _ => Or.inl ⟨t, i, hv, rfl⟩)
  · rw [hU]
    exact ((F.2.2.2.2.2.2.2.2.2.1.kept hS.2.1).narrow (xsubG F hW hS)).moved hWU.alike
theorem xo_callG {pc x d k kd t i : Nat} {L r : List xV} {g g' : xGt} (F : xFix p s m args meth c M A ad D) (hd : decode (xy M).2.1 pc = .ok (.invokespecial x, 3)) (hc : xcal (xrec M).1 x = some (k, kd)) (hkd : kd = 2 ∨ kd = 4) (hk : k < xN) (hini : (xy k).1.name = "<init>") (hvoid : (xrec k).2.2.1 = 0) (h0 : (xrec k).2.2.2.1 = t) (ht : t ≠ 0) (hn : (xrec k).2.2.2.2 = 1) (hr8 : xrs r = true)
    (hRf : d + 2 ≤ R.frames) (hRl : 40 * d + 80 ≤ R.locals) (h1 : cells + (g.2.2.2.1 - g'.2.2.2.1) ≤ R.cells) (h2 : slots + (g.2.2.2.2 - g'.2.2.2.2) ≤ R.slots) (hG : xrvG g.1 g.2.1) (hM : xCon l d k [vR t i] g g')
    (kk : ∀ (ad' : Nat → Nat → Nat) (ca' : Nat → Nat → ClassId), xExt g.1 ad g'.1 ad' → xrvG g'.1 g'.2.1 → xNx p l e R s m args below meth c (cells + (g.2.2.2.1 - g'.2.2.2.1)) (slots + (g.2.2.2.2 - g'.2.2.2.2)) Q M A ad' ca' D g'.1 g'.2.1 (pc + 3) L r (xsl g'.2.2.1)) :
    xNx p l e R s m args below meth c cells slots Q M A ad ca D g.1 g.2.1 pc L (vR t i :: r) (xsl g.2.2.1) := by
  obtain ⟨t', rfl⟩ : ∃ t', t = t' + 1 := ⟨t - 1, by omega⟩
  intro H locs ls hW hS hL hs
  obtain ⟨ho, hr⟩ := xoks_c.mp hs
  have hb1 : xoks g.1 [vR (t' + 1) i] := xoks_c.mpr ⟨ho, fun v hv => by cases hv⟩
  have hsum := xrs_sum (ad := ad) hr8
  obtain ⟨hinst, -, hpar, hct, hpos, hkk⟩ := xm_i hk h0
  obtain ⟨hinit, hrk, hcls, hmh, -⟩ := xm_a hk
  have hw := (xcal_w hc).1
  obtain ⟨hx0, hbb, hml, -, hown, -, hts, hex, -, hro, hK, -⟩ := id F
  have hF := xsubG F hW hS
  have eR : xcv ad (vR (t' + 1) i) = .ref (ad (t' + 1) i) := rfl
  have hp : PreS s H (va_Pc ([vR (t' + 1) i].map (xcv ad)) (xPreG D ad ca H.size g.1 g.2.1 (xsl g.2.2.1) [vR (t' + 1) i])) (.ref (ad (t' + 1) i) :: []) :=
    ⟨xPreG.blind, fun U hU hWU => ⟨rfl, xpreG_at F hW hG hS hb1 hU hWU⟩⟩
  have hret : (xy k).2.2 = none := xrk_0 hrk hvoid
  have hM := hM D ad ca H.size
  have hws := xgoodIn (xws_in hk)
  rw [List.map_cons, eR]
  have hrun : va_Run p l e R s m args below meth c H locs cells slots (g.2.2.2.1 - g'.2.2.2.1) (g.2.2.2.2 - g'.2.2.2.2) (F0 m pc ls (.ref (ad (t' + 1) i) :: r.map (xcv ad))) (r.map (xcv ad)) (xQg g.1 ad g' D (xAs ad g.1 H.size) (Value.ref (ad (t' + 1) i) :: []).toArray) (xAs ad g.1 H.size) := by
    have hcode : xws k = Cond.code (xy k).1 (xy k).2.1 (xrec k).2.1 none :: xGT := by
      show Cond.code (xy k).1 (xy k).2.1 (xrec k).2.1 (xy k).2.2 :: xGT = _
      rw [hret]
    have hpar0 : (parseMethodDescriptor (xy k).1.desc).map (fun d => d.parameters.length) = some 0 := by rw [hpar, hn]
    have hroom := xroom_ok (R := R) hk hRf hRl
    rcases hkd with rfl | rfl
    · exact va_runI (n := 0) ⟨hx0, hbb, hml, hown, hts⟩ hM ⟨callB_of 0 hts hws hcode rfl rfl (hts _ hinit) (hts _ (xGT_m hw rfl)) ⟨hmh.1, hmh.2, hpar0⟩ hroom, hini, hts _ hinst⟩ hp rfl rfl hL.1 rfl (lv_room hsum) hd ⟨h1, h2⟩
    · exact va_runIN (n := 0) ⟨hx0, hbb, hml, hown, hts⟩ hM ⟨va_cnB 0 hts hws hcode rfl rfl (hex.1 _ (xnest_m hw)) (hts _ hinit) ⟨hmh.1, hmh.2, hpar0⟩ hroom, hini, hts _ hinst⟩ hp rfl rfl hL.1 rfl (lv_room hsum) hd ⟨h1, h2⟩
  refine va_callv (a := (Value.ref (ad (t' + 1) i) :: []).toArray) hrun hS (fun q _ h => hF q h) hF (fun u t H1 locs1 ht hvm hp hB hz hk hS1 => ?_)
  have h := kk u.1 u.2 hp.1 hp.2 H1 locs1 ls (by rw [ht] at hB; exact hB.moved hvm.symm (fun t i _ h => hF _ h)) hS1 (hp.1.lr hL) (hp.1.oks hr)
  rw [hp.1.map hr] at h
  exact h
end XK
end
section
/-! CONSTRUCTORS: what was reckoned, the machine does -/
theorem xcnd_t {α : Type} {b : Bool} {x : Option α} {y : α} (h : cond b x none = some y) : b = true ∧ x = some y := by
  cases b with
  | false => cases h
  | true => exact ⟨rfl, h⟩
theorem xcnd_f {α : Type} {b : Bool} {x : Option α} {y : α} (h : cond b none x = some y) : b = false ∧ x = some y := by
  cases b with
  | true => cases h
  | false => exact ⟨rfl, h⟩
theorem xgchk_ok {g1 gf : xGt} {o : Option xGt} (h : xgchk g1 o = some gf) : o = some gf ∧ gf.2.2.2.1 ≤ g1.2.2.2.1 ∧ gf.2.2.2.2 ≤ g1.2.2.2.2 := by
  unfold xgchk at h
  cases o with
  | none => cases h
  | some g =>
    obtain ⟨hb, h⟩ := xcnd_t h
    cases h
    have hb := Bool.and_eq_true _ _ ▸ hb
    exact ⟨rfl, Nat.le_of_ble_eq_true hb.1, Nat.le_of_ble_eq_true hb.2⟩
theorem xsl_free : ∀ (l : List (Nat × Nat × Nat × Int)) (t i : Nat), xfree l t i = true → xzr (xsl l) t i = xsl l
  | [], t, i, _ => by
    funext a b k
    unfold xzr
    by_cases h : a = t ∧ b = i
    · rw [if_pos h]; rfl
    · rw [if_neg h]
  | e :: l, t, i, h => by
    have h := Bool.and_eq_true _ _ ▸ (show (!(Nat.beq e.1 t && Nat.beq e.2.1 i) && xfree l t i) = true from h)
    have ih := xsl_free l t i h.2
    funext a b k
    have ihk := congrFun (congrFun (congrFun ih a) b) k
    unfold xzr at ihk ⊢
    by_cases hc : a = t ∧ b = i
    · rw [if_pos hc] at ihk ⊢
      show 0 = xup (xsl l) e.1 e.2.1 e.2.2.1 e.2.2.2 a b k
      unfold xup
      rw [if_neg]
      · exact ihk
      · rintro ⟨h1, h2, -⟩
        have : (Nat.beq e.1 t && Nat.beq e.2.1 i) = true := by rw [← h1, ← h2, hc.1, hc.2, Nat.beq_refl, Nat.beq_refl]; rfl
        rw [this] at h
        exact Bool.false_ne_true h.1
    · rw [if_neg hc]
theorem xsl_freN : ∀ (l : List (Nat × Nat × Nat × Int)) (t i n : Nat), xfreN l t i n = true → xzN (xsl l) t i n = xsl l
  | [], t, i, n, _ => by
    funext a b k
    unfold xzN
    by_cases h : a = t ∧ i ≤ b ∧ b < i + n
    · rw [if_pos h]; rfl
    · rw [if_neg h]
  | e :: l, t, i, n, h => by
    have h := Bool.and_eq_true _ _ ▸ (show (!(Nat.beq e.1 t && Nat.ble i e.2.1 && Nat.blt e.2.1 (i + n)) && xfreN l t i n) = true from h)
    have ih := xsl_freN l t i n h.2
    funext a b k
    have ihk := congrFun (congrFun (congrFun ih a) b) k
    unfold xzN at ihk ⊢
    by_cases hc : a = t ∧ i ≤ b ∧ b < i + n
    · rw [if_pos hc] at ihk ⊢
      show 0 = xup (xsl l) e.1 e.2.1 e.2.2.1 e.2.2.2 a b k
      unfold xup
      rw [if_neg]
      · exact ihk
      · rintro ⟨h1, h2, -⟩
        have : (Nat.beq e.1 t && Nat.ble i e.2.1 && Nat.blt e.2.1 (i + n)) = true := by
          rw [← h1, ← h2, hc.1, Nat.beq_refl, Nat.ble_eq_true_of_le hc.2.1]
          exact Nat.ble_eq_true_of_le hc.2.2
        rw [this] at h
        exact Bool.false_ne_true h.1
    · rw [if_neg hc]
theorem xlr_entryG {k : Nat} {cnt : Nat → Nat} {ad : Nat → Nat → Nat} {as : List xV} (hs : xoks cnt as) (hl : ∀ j z, (xents as)[j]? = some (vL z) → xlg k j = true) (hn : (xents as).length ≤ (xrec k).2.1) :
    xLr k cnt ad (xent k as) ((lg_sl (as.map (xcv ad)) ++ List.replicate ((xrec k).2.1 - (lg_sl (as.map (xcv ad))).length) Slot.unset).toArray) := by
  have h := lv_entry (as.map (xcv ad)) (n := (xrec k).2.1) (by rw [xents_len]; exact hn)
  refine ⟨h.1, h.2.1, xfit_len _ _, fun j v hj => ?_⟩
  rcases xfit_at _ _ _ _ hj with h1 | rfl
  · refine ⟨xents_ok as hs j v h1, fun z e => hl j z (by rw [← e]; exact h1), fun hv => ?_⟩
    have h2 := h.2.2 _ (xents_args ad as 0 j v h1 hv)
    rw [Nat.zero_add] at h2
    exact h2
  · exact ⟨Or.inl rfl, fun z e => (by cases e), fun hv => (by cases hv)⟩
/-- out of the frame's rows, the contract -/
theorem xcon_of {l : Launch} {d k t i : Nat} {g gf : xGt} (hk : k < xN) (hn : 1 ≤ (xrec k).2.1) (hG : xrvG g.1 g.2.1)
    (H : ∀ (p : Program) (e : Env) (R : Room) (s : State) (m : MethodId) (args : Array Value) (below : List Frame) (meth : Method) (c : Code) (A : Nat → Prop) (ad : Nat → Nat → Nat) (ca : Nat → Nat → ClassId) (D : va_G), xFix p s m args meth c k A ad D → d + 1 ≤ R.frames → 40 * d + 40 ≤ R.locals → g.2.2.2.1 - gf.2.2.2.1 ≤ R.cells → g.2.2.2.2 - gf.2.2.2.2 ≤ R.slots →
      xNx p l e R s m args below meth c 0 0 (MQ below (xQg g.1 ad gf D A) args s (g.2.2.2.1 - gf.2.2.2.1) (g.2.2.2.2 - gf.2.2.2.2) A) k A ad ca D g.1 g.2.1 0 (xent k [vR t i]) [] (xsl g.2.2.1)) : xCon l d k [vR t i] g gf := by
  intro D ad ca sz
  refine Met.ofW (cc := (xy k).2.1) (maxL := (xrec k).2.1) (ret := (xy k).2.2) (xm_a hk).2.2.2.2 rfl ?_
  intro p e s m args below meth c s₁ B hml hv
  obtain ⟨rfl, hsz, hW, -, hK, hex, hro, hoks⟩ := hv
  subst hsz
  have hown : s.vm.findClass (xow k) = some m.cls := by
    rw [← (xm_a hk).2.2.1]
    exact findClass_of_methodNamed B.named
  have F : xFix p s m ([vR t i].map (xcv ad)).toArray meth c k (xAs ad g.1 s.heap.size) ad D := ⟨B.exec, B.bytes, hml, B.returns, hown, B.notSynchronized, fun w hw => atoms_spec (ws := xws k) B.pre w (List.mem_cons_of_mem _ hw), hex, fun q h => Or.inr h, hro, hK, (name_of_methodNamed B.named B.method).1⟩
  rw [lg_entry_eq]
  exact H p e _ s m _ below meth c _ ad ca D F (Nat.le_refl _) (Nat.le_refl _) (Nat.le_refl _) (Nat.le_refl _) s.heap [] _ hW va_S.rf (xlr_entryG hoks (fun j z hz => by
    cases j with
    | zero => cases hz
    | succ j => cases hz) hn) (fun v hv => by cases hv)
theorem xrvG_new {cnt : Nat → Nat} {ρ : xP} {t : Nat} (ht4 : 4 ≤ t) (hG : xrvG cnt ρ) : xrvG (xcn cnt t) (xr0 ρ t (cnt t)) := by
  intro a b k
  unfold xr0
  by_cases hc : a = t ∧ b = cnt t
  · rw [if_pos hc]; exact Or.inl rfl
  · rw [if_neg hc]
    rcases hG a b k with h | h
    · exact Or.inl h
    · exact Or.inr (xokr_up h ht4).1
set_option maxHeartbeats 4000000 in
theorem xGsim (l : Launch) : ∀ (n M pc : Nat) (L st : List xV) (g gf : xGt), xG n M pc L st g = some gf → ∀ (p : Program) (e : Env) (R : Room) (s : State) (m : MethodId) (args : Array Value) (below : List Frame) (meth : Method) (c : Code) (A : Nat → Prop) (ad : Nat → Nat → Nat) (ca : Nat → Nat → ClassId) (D : va_G) (cnt0 : Nat → Nat) (ad0 : Nat → Nat → Nat) (cells slots N0 S0 : Nat), xFix p s m args meth c M A ad D → n + 1 ≤ R.frames → 40 * n + 40 ≤ R.locals →
      cells + g.2.2.2.1 = N0 → slots + g.2.2.2.2 = S0 → N0 ≤ R.cells + gf.2.2.2.1 → S0 ≤ R.slots + gf.2.2.2.2 → xExt cnt0 ad0 g.1 ad → xrvG g.1 g.2.1 →
      xNx p l e R s m args below meth c cells slots (MQ below (xQg cnt0 ad0 gf D A) args s (N0 - gf.2.2.2.1) (S0 - gf.2.2.2.2) A) M A ad ca D g.1 g.2.1 pc L st (xsl g.2.2.1)
  | 0, _, _, _, _, _, _, h => by cases h
  | n + 1, M, pc, L, st, g, gf, h => by
    intro p e R s m args below meth c A ad ca D cnt0 ad0 cells slots N0 S0 F hRf hRl hc hs hN hS hx hG
    have ih := xGsim l n
    have K : ∀ pc' L' st', xG n M pc' L' st' g = some gf → xNx p l e R s m args below meth c cells slots (MQ below (xQg cnt0 ad0 gf D A) args s (N0 - gf.2.2.2.1) (S0 - gf.2.2.2.2) A) M A ad ca D g.1 g.2.1 pc' L' st' (xsl g.2.2.1) :=
      fun pc' L' st' h => ih M pc' L' st' g gf h p e R s m args below meth c A ad ca D cnt0 ad0 cells slots N0 S0 F (by omega) (by omega) hc hs hN hS hx hG
    have K2 : ∀ ρ' l' pc' L' st', xrvG g.1 ρ' → xG n M pc' L' st' (g.1, ρ', l', g.2.2.2) = some gf → xNx p l e R s m args below meth c cells slots (MQ below (xQg cnt0 ad0 gf D A) args s (N0 - gf.2.2.2.1) (S0 - gf.2.2.2.2) A) M A ad ca D g.1 ρ' pc' L' st' (xsl l') :=
      fun ρ' l' pc' L' st' hG' h => ih M pc' L' st' (g.1, ρ', l', g.2.2.2) gf h p e R s m args below meth c A ad ca D cnt0 ad0 cells slots N0 S0 F (by omega) (by omega) hc hs hN hS hx hG'
    unfold xG at h
    cases hat : xat M pc with
    | none => rw [hat] at h; cases h
    | some q =>
      rw [hat] at h
      obtain ⟨hd, hok, hM⟩ := xat_ok hat
      obtain ⟨ins, nn⟩ := q
      dsimp only at h hd hok
      cases ins
      all_goals try exact absurd (show none = some gf from h) (fun q => by cases q)
      all_goals try dsimp only at h
      case iconst z =>
        have hok := Bool.and_eq_true _ _ ▸ hok
        obtain rfl : nn = 1 := Nat.eq_of_beq_eq_true hok.1
        have h2 := of_decide_eq_true hok.2
        exact xo_iconst F hd (show xr z from ⟨by omega, by omega⟩) (K _ _ _ h)
      case bipush z =>
        have hok := Bool.and_eq_true _ _ ▸ hok
        obtain rfl : nn = 2 := Nat.eq_of_beq_eq_true hok.1
        exact xo_bipush F hd (of_decide_eq_true hok.2) (K _ _ _ h)
      case sipush z =>
        have hok := Bool.and_eq_true _ _ ▸ hok
        obtain rfl : nn = 3 := Nat.eq_of_beq_eq_true hok.1
        exact xo_sipush F hd (of_decide_eq_true hok.2) (K _ _ _ h)
      case ldc x =>
        obtain rfl : nn = 2 := Nat.eq_of_beq_eq_true hok
        split at h
        · rename_i z hz1 hz2
          exact xo_ldcS F hd hz2 (K _ _ _ h)
        · cases h
      case iload_n k =>
        obtain rfl : nn = 1 := Nat.eq_of_beq_eq_true hok
        split at h
        · rename_i x hx1
          exact xo_iload_n F hd hx1 (K _ _ _ h)
        · cases h
      case aload_n k =>
        obtain rfl : nn = 1 := Nat.eq_of_beq_eq_true hok
        split at h
        · rename_i q hq
          obtain ⟨hb, h⟩ := xcnd_f h
          exact xo_aload_n F hd hq hb (K _ _ _ h)
        · cases h
      case istore_n k =>
        have hok := Bool.and_eq_true _ _ ▸ hok
        obtain rfl : nn = 1 := Nat.eq_of_beq_eq_true hok.1
        split at h
        · obtain ⟨hb, h⟩ := xcnd_f h
          exact xo_istore_n F hd (Nat.le_of_ble_eq_true hok.2) hb (K _ _ _ h)
        · cases h
      case iinc k z =>
        have hok := Bool.and_eq_true _ _ ▸ hok
        obtain rfl : nn = 3 := Nat.eq_of_beq_eq_true hok.1
        split at h
        · rename_i x hx1
          obtain ⟨hb, h⟩ := xcnd_f h
          exact xo_iinc F hd (Nat.le_of_ble_eq_true hok.2) hb hx1 (K _ _ _ h)
        · cases h
      case if_icmp cd z =>
        have hok := Bool.and_eq_true _ _ ▸ hok
        obtain rfl : nn = 3 := Nat.eq_of_beq_eq_true hok.1
        split at h
        · rename_i y x r
          refine xo_if_icmp F hd (xjmp_ok hok.2) ?_
          cases cd <;> simp only [xcmp] at h <;> first | (cases h; done) | skip
          simp only [xif]
          by_cases hxy : x < y
          · rw [if_pos hxy]
            rw [decide_eq_true hxy] at h
            exact K _ _ _ h
          · rw [if_neg hxy]
            rw [decide_eq_false hxy] at h
            exact K _ _ _ h
        · cases h
      case goto z =>
        have hok := Bool.and_eq_true _ _ ▸ hok
        obtain rfl : nn = 3 := Nat.eq_of_beq_eq_true hok.1
        exact xo_goto F hd (xjmp_ok hok.2) (K _ _ _ h)
      case dup =>
        obtain rfl : nn = 1 := Nat.eq_of_beq_eq_true hok
        split at h
        · exact xo_dup F hd (fun z q => by cases q) (K _ _ _ h)
        · cases h
      case iastore =>
        obtain rfl : nn = 1 := Nat.eq_of_beq_eq_true hok
        split at h
        · obtain ⟨hb, h⟩ := xcnd_t h
          have hb := Bool.and_eq_true _ _ ▸ hb
          exact xo_iastore F hd (Nat.eq_of_beq_eq_true hb.1) (of_decide_eq_true hb.2) (K2 _ _ _ _ _ hG h)
        · cases h
      case return_ =>
        obtain rfl : nn = 1 := Nat.eq_of_beq_eq_true hok
        split at h
        · obtain ⟨hv, h⟩ := xcnd_t h
          cases h
          have hv := Nat.eq_of_beq_eq_true hv
          intro H locs ls hW hSS hL hss
          obtain ⟨hx0, hbb, hml, hr, hown, hlk, hts, hex, -, hro, hK, -⟩ := id F
          obtain ⟨-, hrk, -, -, -⟩ := xm_a hM
          have e1 : N0 - g.2.2.2.1 = cells := by omega
          have e2 : S0 - g.2.2.2.2 = slots := by omega
          rw [e1, e2]
          exact W.vret hx0 hbb (hr.trans (xrk_0 hrk hv)) (fun t ht hWt => ⟨⟨((ad, ca) : xAd), rfl, ⟨hx, hG⟩, by show xWd D ad ca g.1 g.2.1 (xsl g.2.2.1) A t t.heap; rw [ht]; exact hW.moved hWt.alike (fun _ _ _ h => h)⟩, hSS.F ht⟩) hSS.2.2 hd hlk
        · cases h
      case getfield x =>
        obtain rfl : nn = 3 := Nat.eq_of_beq_eq_true hok
        split at h
        · rename_i q r f hf
          obtain ⟨hb, h⟩ := xcnd_t h
          have hb := Bool.and_eq_true _ _ ▸ hb
          have hb1 := Bool.and_eq_true _ _ ▸ hb.1
          have e1 := Nat.eq_of_beq_eq_true hb1.1
          have e2 := Nat.eq_of_beq_eq_true hb1.2
          obtain ⟨q1, q2⟩ := q
          obtain ⟨f1, f2⟩ := f
          obtain rfl : q1 = f1 := e1
          have hn1 : q1 ≠ 1 := by
            rintro rfl
            exact Bool.false_ne_true (show false = true from hb.2)
          have hk : xkind q1 = 1 := (xfld_w hf).2.2.resolve_right hn1
          have hsz : f2 < xsz q1 := (xfld_w hf).2.1.resolve_right hn1
          have ev : xfv g.2.1 (xsl g.2.2.1) q1 q2 f2 = .inr (.inr (g.2.1 q1 q2 f2)) := by unfold xfv; rw [show xft q1 f2 = 1 from e2]; rfl
          refine xo_getf (q := (q1, f2)) F hd hf hk (fun _ hv hr => by show xok g.1 (xfv g.2.1 (xsl g.2.2.1) q1 q2 f2); rw [ev]; exact hr _ _ _ hv hsz) ?_
          show xNx p l e R s m args below meth c cells slots _ M A ad ca D g.1 g.2.1 (pc + 3) L (xfv g.2.1 (xsl g.2.2.1) q1 q2 f2 :: r) _
          rw [ev]
          exact K _ _ _ h
        · cases h
      case aastore =>
        obtain rfl : nn = 1 := Nat.eq_of_beq_eq_true hok
        split at h
        · rename_i w x q r
          obtain ⟨hb, h⟩ := xcnd_t h
          simp only [Bool.and_eq_true, decide_eq_true_eq] at hb
          obtain ⟨⟨⟨h1, h2⟩, h3⟩, h4⟩ := hb
          have h1 := Nat.eq_of_beq_eq_true h1
          have h2 := Nat.eq_of_beq_eq_true h2
          have hty : xaty q.1 = .object (xCt w.1) := by
            unfold xaqN at h3
            split at h3
            · rename_i C hC
              rw [hC, h3]
            · have hne : ∀ t, t < 57 → xkind t = 1 → xCt t ≠ "" := by decide +kernel
              exact absurd h3.symm (hne w.1 (xkind_lt (by rw [h2]; decide)) h2)
          intro H locs ls hW hSS hL hss
          have hvv := (xoks_c.mp hss).1
          exact xo_aast F hd h1 h2 hty h4 hG (K2 _ _ _ _ _ (xru_G hG hvv) h) H locs ls hW hSS hL hss
        · cases h
      case new x =>
        obtain rfl : nn = 3 := Nat.eq_of_beq_eq_true hok
        split at h
        · rename_i t C ht hC
          obtain ⟨C1, C2⟩ := C
          obtain ⟨hb, h'⟩ := xcnd_t h
          clear h
          simp only [Bool.and_eq_true, decide_eq_true_eq, xgcan] at hb
          obtain ⟨⟨⟨⟨h1, h2⟩, h3⟩, h4⟩, ⟨⟨h5, h6⟩, h7⟩⟩ := hb
          have h1 := Nat.eq_of_beq_eq_true h1
          have h6 : 0 < g.2.2.2.1 := Nat.le_of_ble_eq_true h6
          have h7 : xsz t ≤ g.2.2.2.2 := Nat.le_of_ble_eq_true h7
          obtain ⟨h, h8, h9⟩ := xgchk_ok h'
          clear h'
          have h8 : gf.2.2.2.1 ≤ g.2.2.2.1 - 1 := h8
          have h9 : gf.2.2.2.2 ≤ g.2.2.2.2 - xsz t := h9
          obtain rfl : C1 = xCt t := h2
          obtain ⟨qi, hqi⟩ := Option.isSome_iff_exists.mp h3
          have hx4 : x < 1000 := Nat.le_of_ble_eq_true h4
          have ht4 : 4 ≤ t := xkind_4 (by rw [h1]; decide)
          refine xo_newo (t := t) F hd h1 (xclN_ok hx4 hC) (xinN_ok hqi).1 (xinN_ok hqi).2 hG (by omega) (by omega) (fun q => ?_)
          rw [xsl_free _ _ _ h5]
          exact ih M (pc + 3) L _ (xgnew t g) gf h p e R s m args below meth c A _ _ D cnt0 ad0 (cells + 1) (slots + xsz t) N0 S0 (F.ad (xadd_lo ht4)) (by omega) (by omega) (by show cells + 1 + (g.2.2.2.1 - 1) = N0; omega) (by show slots + xsz t + (g.2.2.2.2 - xsz t) = S0; omega) hN hS (hx.trans (xExt.one ht4)) (xrvG_new ht4 hG)
        · cases h
      case newarray ty =>
        obtain rfl : nn = 2 := Nat.eq_of_beq_eq_true hok
        split at h
        · rename_i t x r ht
          obtain ⟨hb, h'⟩ := xcnd_t h
          clear h
          simp only [Bool.and_eq_true, Bool.or_eq_true, decide_eq_true_eq, xgcan] at hb
          obtain ⟨⟨⟨h1, h2⟩, h3⟩, ⟨⟨h5, h6⟩, h7⟩⟩ := hb
          have h1 : xkind t = 2 ∨ xkind t = 3 := h1.imp Nat.eq_of_beq_eq_true Nat.eq_of_beq_eq_true
          have h6 : 0 < g.2.2.2.1 := Nat.le_of_ble_eq_true h6
          have h7 : xsz t ≤ g.2.2.2.2 := Nat.le_of_ble_eq_true h7
          obtain ⟨h, h8, h9⟩ := xgchk_ok h'
          clear h'
          have h8 : gf.2.2.2.1 ≤ g.2.2.2.1 - 1 := h8
          have h9 : gf.2.2.2.2 ≤ g.2.2.2.2 - xsz t := h9
          subst h3
          have ht4 : 4 ≤ t := xkind_4 (by omega)
          have hwd : Cond.arrayClass (xaty t) ∈ xGT := by
            rcases h1 with h1 | h1
            · rw [xarr_2 h1]; exact xw_arrI
            · rw [xarr_3 h1]; exact xw_arrZ
          refine xo_newa (t := t) F hd h1 h2 hwd hG (by omega) (by omega) (fun q cA => ?_)
          rw [xsl_free _ _ _ h5]
          exact ih M (pc + 2) L _ (xgnew t g) gf h p e R s m args below meth c A _ _ D cnt0 ad0 (cells + 1) (slots + xsz t) N0 S0 (F.ad (xadd_lo ht4)) (by omega) (by omega) (by show cells + 1 + (g.2.2.2.1 - 1) = N0; omega) (by show slots + xsz t + (g.2.2.2.2 - xsz t) = S0; omega) hN hS (hx.trans (xExt.one ht4)) (xrvG_new ht4 hG)
        · cases h
      case anewarray cx =>
        obtain rfl : nn = 3 := Nat.eq_of_beq_eq_true hok
        split at h
        · rename_i t C x r ht hC
          obtain ⟨C1, C2⟩ := C
          obtain ⟨hb, h'⟩ := xcnd_t h
          clear h
          simp only [Bool.and_eq_true, decide_eq_true_eq, xgcan] at hb
          obtain ⟨⟨⟨⟨⟨h1, h2⟩, hmem⟩, h4⟩, h3⟩, ⟨⟨h5, h6⟩, h7⟩⟩ := hb
          have h1 := Nat.eq_of_beq_eq_true h1
          have h6 : 0 < g.2.2.2.1 := Nat.le_of_ble_eq_true h6
          have h7 : xsz t ≤ g.2.2.2.2 := Nat.le_of_ble_eq_true h7
          obtain ⟨h, h8, h9⟩ := xgchk_ok h'
          clear h'
          have h8 : gf.2.2.2.1 ≤ g.2.2.2.1 - 1 := h8
          have h9 : gf.2.2.2.2 ≤ g.2.2.2.2 - xsz t := h9
          subst h3
          have hx4 : cx < 1000 := Nat.le_of_ble_eq_true h4
          have ht4 : 4 ≤ t := xkind_4 (by rw [h1]; decide)
          refine xo_newq (t := t) (C := C1) F hd h1 h2 (List.contains_iff_mem.mp hmem) (xclN_ok hx4 hC) hG (by omega) (by omega) (fun q cA => ?_)
          rw [xsl_free _ _ _ h5]
          exact ih M (pc + 3) L _ (xgnew t g) gf h p e R s m args below meth c A _ _ D cnt0 ad0 (cells + 1) (slots + xsz t) N0 S0 (F.ad (xadd_lo ht4)) (by omega) (by omega) (by show cells + 1 + (g.2.2.2.1 - 1) = N0; omega) (by show slots + xsz t + (g.2.2.2.2 - xsz t) = S0; omega) hN hS (hx.trans (xExt.one ht4)) (xrvG_new ht4 hG)
        · cases h
      case multianewarray cx dm =>
        obtain rfl : nn = 4 := Nat.eq_of_beq_eq_true hok
        split at h
        · rename_i t C y x r ht hC
          obtain ⟨C1, C2⟩ := C
          obtain ⟨hb, h'⟩ := xcnd_t h
          clear h
          simp only [Bool.and_eq_true, decide_eq_true_eq] at hb
          obtain ⟨⟨⟨⟨⟨⟨⟨⟨⟨⟨⟨⟨⟨b1, b2⟩, b3⟩, b4⟩, b5⟩, b6⟩, b7⟩, b8⟩, b9⟩, b10⟩, b11⟩, b12⟩, b13⟩, b14⟩ := hb
          obtain rfl : dm = 2 := Nat.eq_of_beq_eq_true b1
          obtain rfl : C1 = "[[I" := b2
          have b3 : cx < 1000 := Nat.le_of_ble_eq_true b3
          have b13 : 1 + xsz t ≤ g.2.2.2.1 := Nat.le_of_ble_eq_true b13
          have b14 : xsz t + xsz t * xsz (t + 1) ≤ g.2.2.2.2 := Nat.le_of_ble_eq_true b14
          obtain ⟨h, h8, h9⟩ := xgchk_ok h'
          clear h'
          have h8 : gf.2.2.2.1 ≤ g.2.2.2.1 - (1 + xsz t) := h8
          have h9 : gf.2.2.2.2 ≤ g.2.2.2.2 - (xsz t + xsz t * xsz (t + 1)) := h9
          subst b9
          subst b10
          refine xo_multi (tp := t) (tr := t + 1) F hd (Nat.eq_of_beq_eq_true b4) b5 (Nat.eq_of_beq_eq_true b6) (xclN_ok b3 hC) xw_arrI (Nat.le_of_ble_eq_true b7) (Nat.le_of_ble_eq_true b8) hG (by omega) (by omega) (fun ad' ca' hx' hG' => ?_)
          rw [xsl_freN _ _ _ _ b12, xsl_free _ _ _ b11]
          exact ih M (pc + 4) L _ (xgmul t g) gf h p e R s m args below meth c A _ _ D cnt0 ad0 (cells + 1 + xsz t) (slots + xsz t + xsz t * xsz (t + 1)) N0 S0 (F.ad hx'.2) (by omega) (by omega) (by show cells + 1 + xsz t + (g.2.2.2.1 - (1 + xsz t)) = N0; omega) (by show slots + xsz t + xsz t * xsz (t + 1) + (g.2.2.2.2 - (xsz t + xsz t * xsz (t + 1))) = S0; omega) hN hS (hx.trans hx') hG'
        · cases h
      case invokespecial x =>
        obtain rfl : nn = 3 := Nat.eq_of_beq_eq_true hok
        split at h
        · rename_i q o r hq
          obtain ⟨q1, q2⟩ := q
          obtain ⟨o1, o2⟩ := o
          dsimp only at h
          have call : ∀ (kd : Nat), kd = 2 ∨ kd = 4 → xcal (xrec M).1 x = some (q1, kd) → cond (Nat.beq (xrec q1).2.2.2.1 o1 && Nat.beq (xrec q1).2.2.2.2 1 && Nat.blt q1 xN && xrs r && Nat.beq (xrec q1).2.2.1 0 && decide ((xy q1).1.name = "<init>") && !(Nat.beq o1 0) && Nat.blt 0 (xrec q1).2.1) (match xG n q1 0 (xent q1 [vR o1 o2]) [] g with
            | some g' => cond (Nat.ble g'.2.2.2.1 g.2.2.2.1 && Nat.ble g'.2.2.2.2 g.2.2.2.2) (xgchk g' (xG n M (pc + 3) L r g')) none
            | none => none) none = some gf → xNx p l e R s m args below meth c cells slots (MQ below (xQg cnt0 ad0 gf D A) args s (N0 - gf.2.2.2.1) (S0 - gf.2.2.2.2) A) M A ad ca D g.1 g.2.1 pc L (vR o1 o2 :: r) (xsl g.2.2.1) := by
            intro kd hkd hcal h
            obtain ⟨hb, h⟩ := xcnd_t h
            simp only [Bool.and_eq_true, decide_eq_true_eq] at hb
            obtain ⟨⟨⟨⟨⟨⟨⟨b1, b2⟩, b3⟩, b4⟩, b5⟩, b6⟩, b7⟩, b8⟩ := hb
            have b1 := Nat.eq_of_beq_eq_true b1
            have ho : o1 ≠ 0 := by
              rintro rfl
              exact Bool.false_ne_true (show false = true from b7)
            cases hcl : xG n q1 0 (xent q1 [vR o1 o2]) [] g with
            | none => rw [hcl] at h; cases h
            | some g' =>
              rw [hcl] at h
              obtain ⟨hb, h⟩ := xcnd_t h
              have hb := Bool.and_eq_true _ _ ▸ hb
              have c1 := Nat.le_of_ble_eq_true hb.1
              have c2 := Nat.le_of_ble_eq_true hb.2
              obtain ⟨h, h8, h9⟩ := xgchk_ok h
              have hk : q1 < xN := Nat.le_of_ble_eq_true b3
              refine xo_callG (d := n) (g := g) (g' := g') F hd hcal hkd hk b6 (Nat.eq_of_beq_eq_true b5) b1 ho (Nat.eq_of_beq_eq_true b2) b4 (by omega) (by omega) (by omega) (by omega) hG ?_ (fun ad' ca' hx' hG' => ?_)
              · exact xcon_of hk (Nat.le_of_ble_eq_true b8) hG (fun p e R s m args below meth c A ad ca D F h1 h2 h3 h4 => ih q1 0 _ [] g g' hcl p e R s m args below meth c A ad ca D g.1 ad 0 0 g.2.2.2.1 g.2.2.2.2 F h1 h2 (Nat.zero_add _) (Nat.zero_add _) (by omega) (by omega) xExt.refl hG)
              · exact ih M (pc + 3) L r g' gf h p e R s m args below meth c A ad' ca' D cnt0 ad0 _ _ N0 S0 (F.ad hx'.2) (by omega) (by omega) (by omega) (by omega) hN hS (hx.trans hx') hG'
          split at h
          · obtain ⟨hb, h'⟩ := xcnd_t h
            clear h
            simp only [Bool.and_eq_true] at hb
            obtain ⟨⟨b1, b2⟩, b3⟩ := hb
            obtain rfl : q1 = 999 := Nat.eq_of_beq_eq_true b1
            refine xo_obj F hd hq ?_ b3 (by omega) (by omega) (K _ _ _ h')
            cases hz : Nat.beq o1 0 with
            | false => rfl
            | true => rw [hz] at b2; cases b2
          · exact call 2 (Or.inl rfl) hq h
          · exact call 4 (Or.inr rfl) hq h
          · cases h
        · cases h
      case putfield x =>
        obtain rfl : nn = 3 := Nat.eq_of_beq_eq_true hok
        split at h
        · rename_i v q r f hf
          obtain ⟨q1, i⟩ := q
          obtain ⟨f1, q2⟩ := f
          obtain ⟨hb, h'⟩ := xcnd_t h
          clear h
          have hb := Bool.and_eq_true _ _ ▸ hb
          obtain rfl : q1 = f1 := Nat.eq_of_beq_eq_true hb.1
          dsimp only at h'
          have hkk := (xfld_w hf).2.2
          have hn1 : q1 ≠ 1 := by
            rintro rfl
            exact Bool.false_ne_true (show false = true from hb.2)
          have hk : xkind q1 = 1 := hkk.resolve_right hn1
          have hsz : q2 < xsz q1 := (xfld_w hf).2.1.resolve_right hn1
          have hty := xfty hk hsz
          split at h'
          · rename_i y eqt
            have eqt : xft q1 q2 = 0 := eqt
            rw [eqt] at hty
            have hty := of_decide_eq_true hty
            obtain ⟨-, h⟩ := xcnd_f h'
            intro H locs ls hW hSS hL hss
            have hy := (xoks_c.mp hss).1
            refine xo_putf (q := (q1, q2)) (y := y) F hd hf hk hy hty.2 (by show narrow (xty q1 q2) _ = _; rw [hty.1]; rfl) (by show fits (xty q1 q2) _ = _; rw [hty.1]; rfl) ?_ (K2 _ _ _ _ _ hG h) H locs ls hW hSS hL hss
            unfold xfv
            rw [show xft (q1, q2).1 (q1, q2).2 = 0 from eqt, xup_at, if_pos rfl]
            rfl
          · rename_i w eqt
            have eqt : xft q1 q2 = 1 := eqt
            obtain ⟨hb, h⟩ := xcnd_f h'
            rw [Bool.or_eq_false_iff] at hb
            have hb2 := hb.2
            rw [Bool.not_eq_false'] at hb2
            simp only [Bool.and_eq_true, decide_eq_true_eq] at hb2
            obtain ⟨⟨⟨b1, b2⟩, b3⟩, b4⟩ := hb2
            intro H locs ls hW hSS hL hss
            have hvv := (xoks_c.mp hss).1
            exact xo_putr (q := (q1, q2)) F hd hf hk eqt b2 b4 b3 (xpn_ok hf b1) hb.1 (K2 _ _ _ _ _ (xru_G hG hvv) h) hG H locs ls hW hSS hL hss
          · rename_i w eqt
            have eqt : xft q1 q2 = 2 := eqt
            obtain ⟨a, z⟩ := w
            rw [eqt] at hty
            have hty := of_decide_eq_true hty
            obtain ⟨hb, h⟩ := xcnd_t h'
            obtain rfl := Nat.eq_of_beq_eq_true hb
            intro H locs ls hW hSS hL hss
            have hy := xok_1 (xoks_c.mp hss).1
            refine xo_putf (q := (q1, q2)) (y := (z : Int)) F hd hf hk (show xr (z : Int) from ⟨by omega, by omega⟩) hty.2 (by show narrow (xty q1 q2) _ = _; rw [hty.1]; rfl) (by show fits (xty q1 q2) _ = _; rw [hty.1]; rfl) ?_ (K2 _ _ _ _ _ hG h) H locs ls hW hSS hL hss
            unfold xfv
            rw [show xft (q1, q2).1 (q1, q2).2 = 2 from eqt, xup_at, if_pos rfl]
            have : Nat.beq ((z : Int)).toNat 0 = false := by
              cases hb : Nat.beq ((z : Int)).toNat 0 with
              | false => rfl
              | true => exact absurd (Nat.eq_of_beq_eq_true hb) (by omega)
            simp only [this, cond_false]
            rfl
          · cases h'
        · cases h
end
section
/-! CONSTRUCTORS: the two contracts, the world at the end -/
def xgmid : Bool := match xgP with
  | some g => xgcan 40 g && Nat.beq (g.1 40) 0
  | none => false
theorem xgmid_ok : xgmid = true := by decide +kernel
theorem xgP_ex : ∃ gP gM, xgP = some gP ∧ xgM gP = some gM ∧ xgcan 40 gP = true ∧ gP.1 40 = 0 ∧ xgcnt gM = true ∧ xgrho gM = true ∧ gM.2.2.1 = [(41, 0, 1, 1), (17, 0, 3, 1), (5, 1, 4, 1), (5, 0, 4, 1)] := by
  have h1 := xgmid_ok
  have h2 := xgok_ok
  unfold xgmid at h1
  unfold xgok xgAll at h2
  cases hP : xgP with
  | none => rw [hP] at h1; cases h1
  | some gP =>
    rw [hP] at h1 h2
    dsimp only at h1 h2
    cases hM : xgM gP with
    | none => rw [hM] at h2; cases h2
    | some gM =>
      rw [hM] at h2
      simp only [Bool.and_eq_true, decide_eq_true_eq] at h1 h2
      exact ⟨gP, gM, rfl, hM, h1.1, Nat.eq_of_beq_eq_true h1.2, h2.1.1, h2.1.2, h2.2⟩
theorem xrvG_0 : xrvG (xgnew 4 xg0).1 (xgnew 4 xg0).2.1 := by
  intro a b k
  left
  show (xr0 (fun _ _ _ => (0, 0)) 4 0 a b k).1 = 0
  unfold xr0
  split <;> rfl
theorem xconP (l : Launch) {gP : xGt} (h : xgP = some gP) : xCon l 700 m_P_init [vR 4 0] (xgnew 4 xg0) gP :=
  xcon_of (by decide) (by decide +kernel) xrvG_0 (fun p e R s m args below meth c A ad ca D F h1 h2 h3 h4 => xGsim l 700 m_P_init 0 _ [] _ gP h p e R s m args below meth c A ad ca D _ ad 0 0 _ _ F h1 h2 (Nat.zero_add _) (Nat.zero_add _) (by omega) (by omega) xExt.refl xrvG_0)
theorem xconM (l : Launch) {gP gM : xGt} (h : xgM gP = some gM) (hG : xrvG gP.1 gP.2.1) : xCon l 200 m_M_init [vR 40 0] (xgnew 40 gP) gM :=
  have hG' : xrvG (xgnew 40 gP).1 (xgnew 40 gP).2.1 := xrvG_new (by decide) hG
  xcon_of (by decide) (by decide +kernel) hG' (fun p e R s m args below meth c A ad ca D F h1 h2 h3 h4 => xGsim l 200 m_M_init 0 _ [] _ gM h p e R s m args below meth c A ad ca D _ ad 0 0 _ _ F h1 h2 (Nat.zero_add _) (Nat.zero_add _) (by omega) (by omega) xExt.refl hG')
def xsig0 : xM := xsl [(41, 0, 1, 1), (17, 0, 3, 1), (5, 1, 4, 1), (5, 0, 4, 1)]
section XL
variable {D : va_G} {ad : Nat → Nat → Nat} {ca : Nat → Nat → ClassId} {cnt cnt' : Nat → Nat} {ρ ρ' : xP} {σ : xM} {A : Nat → Prop} {U : State} {H : Heap}
theorem xE_at {t i : Nat} (hr : ∀ k, k < xsz t → xrfp t k = true → ρ t i k = ρ' t i k) (h : va_at D xcl (ad t i, xE ad ca ρ σ t i) H) : va_at D xcl (ad t i, xE ad ca ρ' σ t i) H := by
  by_cases h4 : xkind t = 4
  · have hr : ∀ k, k < xsz t → ρ t i k = ρ' t i k := fun k hk => hr k hk (by unfold xrfp; rw [h4]; rfl)
    rw [xE_q h4] at h ⊢
    have h : H[ad t i]? = some (vp_cell _ _) := h
    show H[ad t i]? = some (vp_cell _ _)
    rw [vp_cell_q] at h ⊢
    rw [h]
    congr 1
    unfold arrV
    congr 2
    funext j
    show va_rf (cond (Nat.beq (ρ t i j.val).1 0) none (some (ad (ρ t i j.val).1 (ρ t i j.val).2))) = va_rf (cond (Nat.beq (ρ' t i j.val).1 0) none (some (ad (ρ' t i j.val).1 (ρ' t i j.val).2)))
    rw [hr j.val j.2]
  · have e : xE ad ca ρ' σ t i = xE ad ca ρ σ t i := by
      by_cases h1 : xkind t = 1
      · unfold xE
        rw [h1]
        show Sum.inr (xci t, _) = Sum.inr (xci t, _)
        congr 2
        apply List.map_congr_left
        intro k hk
        have hk := List.mem_range.mp hk
        unfold xfv
        split
        · rename_i e1
          rw [hr k hk (by unfold xrfp; rw [h1, e1]; rfl)]
        · rfl
        · rfl
      · rw [xE_i h1 h4, xE_i h1 h4]
    rw [e]
    exact h
theorem xWd.congr (h : xWd D ad ca cnt ρ σ A U H) (hc : ∀ t, 4 ≤ t → t < 57 → cnt t = cnt' t) (hr : ∀ t i k, 4 ≤ t → t < 57 → i < cnt' t → k < xsz t → xrfp t k = true → ρ t i k = ρ' t i k) (hv : xrv cnt' ρ') : xWd D ad ca cnt' ρ' σ A U H := by
  have hvd : ∀ t i, xvd cnt' t i → xvd cnt t i := fun t i h => ⟨h.1, h.2.1, by rw [hc t h.1 h.2.1]; exact h.2.2⟩
  exact ⟨fun t i hv' => xE_at (fun k hk hf => hr t i k hv'.1 hv'.2.1 hv'.2.2 hk hf) (h.1 t i (hvd t i hv')), fun t i t' i' h1 h2 e => h.2.1 t i t' i' (hvd _ _ h1) (hvd _ _ h2) e, fun t i h1 => h.2.2.1 t i (hvd _ _ h1), h.2.2.2.1, hv, fun t i h1 hk => h.2.2.2.2.2 t i (hvd _ _ h1) hk⟩
end XL
theorem xWd_fin {D : va_G} {ad : Nat → Nat → Nat} {ca : Nat → Nat → ClassId} {A : Nat → Prop} {U : State} {H : Heap} {g : xGt} (h : xWd D ad ca g.1 g.2.1 (xsl g.2.2.1) A U H) (hc : xgcnt g = true) (hr : xgrho g = true) (hl : g.2.2.1 = [(41, 0, 1, 1), (17, 0, 3, 1), (5, 1, 4, 1), (5, 0, 4, 1)]) : xWd D ad ca xcnt xrho xsig0 A U H := by
  rw [hl] at h
  refine xWd.congr (σ := xsig0) h (fun t h4 h57 => ?_) (fun t i k h4 h57 hi hk hf => ?_) xrho_rv
  · have h1 := List.all_eq_true.mp hc t (List.mem_range.mpr h57)
    rcases Bool.or_eq_true _ _ ▸ h1 with h2 | h2
    · have : t + 1 ≤ 4 := Nat.le_of_ble_eq_true h2
      omega
    · exact Nat.eq_of_beq_eq_true h2
  · have h1 := List.all_eq_true.mp hr t (List.mem_range.mpr h57)
    rcases Bool.or_eq_true _ _ ▸ h1 with h2 | h2
    · have : t + 1 ≤ 4 := Nat.le_of_ble_eq_true h2
      omega
    · have h3 := List.all_eq_true.mp (List.all_eq_true.mp h2 i (List.mem_range.mpr hi)) k (List.mem_range.mpr hk)
      rw [hf] at h3
      have h3 : xpeq (g.2.1 t i k) (xrho t i k) = true := h3
      have h3 := Bool.and_eq_true _ _ ▸ h3
      exact Prod.ext (Nat.eq_of_beq_eq_true h3.1) (Nat.eq_of_beq_eq_true h3.2)
theorem s0z {a : Nat} (b k : Nat) (h1 : a ≠ 41) (h2 : a ≠ 17) (h3 : a ≠ 5) : xsig0 a b k = 0 := by
  simp [xsig0, xsl, xup, h1, h2, h3]
theorem s041 {k : Nat} (h : k ≠ 1) : xsig0 41 0 k = 0 := by
  simp [xsig0, xsl, xup, h]
theorem s05 {b k : Nat} (h : k ≠ 4) : xsig0 5 b k = 0 := by
  simp [xsig0, xsl, xup, h]
theorem Inv_0 : Inv xsig0 := by
  refine ⟨?_, ⟨?_, ?_, ?_, ?_, ?_, ?_, ?_⟩, ?_, ?_, ?_, ?_⟩
  · unfold xvl
    rw [s041 (k := 2) (by decide), s041 (k := 3) (by decide), s041 (k := 0) (by decide), s041 (k := 4) (by decide), s041 (k := 5) (by decide), s041 (k := 6) (by decide)]
    refine ⟨by omega, by omega, by omega, by omega, by omega, by omega, fun p h => by omega, fun c h => by omega, fun c h => by omega⟩
  · refine ⟨?_, ?_, ?_, ?_, rfl, ?_, ?_⟩ <;> rw [s05 (by decide), s041 (by decide)]
  · intro p hp
    rw [s0z (a := 7) _ _ (by decide) (by decide) (by decide), s0z (a := 7) _ _ (by decide) (by decide) (by decide), s041 (by omega), s041 (by omega)]
    exact ⟨rfl, rfl⟩
  · intro c hc k hk
    rw [s0z (a := 9) _ _ (by decide) (by decide) (by decide), s041 (by omega)]
  · intro c hc k hk
    rw [s0z (a := 10) _ _ (by decide) (by decide) (by decide), s041 (by omega)]
  · intro i hi
    rw [s0z (a := 11) _ _ (by decide) (by decide) (by decide), s041 (by omega)]
  · intro i hi
    rw [s0z (a := 16) _ _ (by decide) (by decide) (by decide), s041 (by omega)]
  · intro u hu
    refine ⟨?_, ?_, ?_, fun k hk => ?_, fun hk => ?_⟩
    · show xsig0 41 0 (168 + 121 * u + 0) = _
      rw [s0z (a := 13) _ _ (by decide) (by decide) (by decide), s041 (by omega)]
    · rw [s0z (a := 13) _ _ (by decide) (by decide) (by decide)]; omega
    · rw [s0z (a := 13) _ _ (by decide) (by decide) (by decide)]; omega
    · rw [s0z (a := 13) _ _ (by decide) (by decide) (by decide)] at hk; omega
    · rw [s0z (a := 13) _ _ (by decide) (by decide) (by decide)] at hk; omega
  · intro k h1 h7
    rw [s0z (a := 39) _ _ (by decide) (by decide) (by decide), s0z (a := 44) _ _ (by decide) (by decide) (by decide)]
  · refine ⟨?_, fun h => absurd (s0z (a := 40) _ _ (by decide) (by decide) (by decide)) h⟩
    rw [s0z (a := 4) _ _ (by decide) (by decide) (by decide), s0z (a := 40) _ _ (by decide) (by decide) (by decide)]
  · intro s hs
    refine ⟨?_, ?_, ?_, ?_, fun _ => ?_, fun i hi => ?_⟩
    · rw [s0z (a := 36) _ _ (by decide) (by decide) (by decide), s0z (a := 45) _ _ (by decide) (by decide) (by decide)]
    · rw [s0z (a := 36) _ _ (by decide) (by decide) (by decide), s0z (a := 46) _ _ (by decide) (by decide) (by decide)]
    · rw [s0z (a := 45) _ _ (by decide) (by decide) (by decide)]; omega
    · rw [s0z (a := 46) _ _ (by decide) (by decide) (by decide)]; omega
    · rw [s0z (a := 46) _ _ (by decide) (by decide) (by decide)]
    · rw [s0z (a := 37) _ _ (by decide) (by decide) (by decide), s0z (a := 47) _ _ (by decide) (by decide) (by decide)]
  · refine ⟨?_, ?_, fun i hi => ?_⟩
    · rw [s0z (a := 33) _ _ (by decide) (by decide) (by decide), s0z (a := 40) _ _ (by decide) (by decide) (by decide)]
    · rw [s0z (a := 40) _ _ (by decide) (by decide) (by decide)]; omega
    · rw [s0z (a := 34) _ _ (by decide) (by decide) (by decide), s0z (a := 56) _ _ (by decide) (by decide) (by decide)]
end
section
/-! calls: parts, children -/
theorem ccl {σ : xM} (h : Inv σ) : (σ 5 0 0 = σ 41 0 2 ∧ σ 5 0 1 = σ 41 0 3 ∧ σ 5 0 2 = σ 41 0 0 ∧ σ 5 0 3 = σ 41 0 4 ∧ σ 5 0 4 = σ 41 0 1 ∧ σ 5 0 5 = σ 41 0 5 ∧ σ 5 0 6 = σ 41 0 6) ∧ (0 ≤ σ 41 0 2 ∧ σ 41 0 2 ≤ 7) ∧ (0 ≤ σ 41 0 3 ∧ σ 41 0 3 ≤ 7) ∧ (0 ≤ σ 41 0 0 ∧ σ 41 0 0 ≤ 9999) ∧ (-99999 ≤ σ 41 0 4 ∧ σ 41 0 4 ≤ 99999) ∧ (0 ≤ σ 41 0 5 ∧ σ 41 0 5 ≤ 60) ∧ (0 ≤ σ 41 0 6 ∧ σ 41 0 6 ≤ 24) := by
  obtain ⟨hv, hc, -⟩ := h
  exact ⟨hc.1, hv.1, hv.2.1, hv.2.2.1, hv.2.2.2.1, hv.2.2.2.2.1, hv.2.2.2.2.2.1⟩
theorem xtdiv10 {x : Int} (h : 0 ≤ x ∧ x ≤ 69) : xwr (Int.tdiv x 10) = x / 10 ∧ Int.tmod x 10 = x % 10 := by
  have h1 : Int.tdiv x 10 = x / 10 := Int.tdiv_eq_ediv_of_nonneg h.1
  have h2 : Int.tmod x 10 = x % 10 := Int.tmod_eq_emod_of_nonneg h.1
  rw [h1, h2, xw (by omega) (by omega)]
  exact ⟨rfl, rfl⟩
/-- the rest of Inv, where parts and children alone changed -/
theorem Inv_row {σ σ' : xM} (h : Inv σ) (hf : ∀ t, t ≠ 5 → t ≠ 7 → t ≠ 9 → t ≠ 10 → t ≠ 41 → σ' t = σ t) (h5 : ∀ i, i ≠ 0 → σ' 5 i = σ 5 i) (h7 : ∀ i, 7 ≤ i → σ' 7 i = σ 7 i) (h9 : ∀ i, 7 ≤ i → σ' 9 i = σ 9 i) (h10 : ∀ i, 7 ≤ i → σ' 10 i = σ 10 i)
    (hR : ∀ k, 84 ≤ k → σ' 41 0 k = σ 41 0 k) (hv : xvl (σ' 41 0)) (hA : xcA σ' 0 (σ' 41 0)) (hB : xcB σ' 0 (σ' 41 0)) (hC : xcC σ' 0 (σ' 41 0)) (hW : xcW σ' 0 (σ' 41 0)) : Inv σ' := by
  obtain ⟨i1, i2, i3, i4, i5, i6⟩ := h
  have g := fun t a b c d e => hf t a b c d e
  refine ⟨hv, ⟨hA, hB, hC, hW, ?_, ?_, ?_⟩, ?_, ?_, ?_, ?_⟩
  · intro i hi
    rw [hf 11 (by decide) (by decide) (by decide) (by decide) (by decide), hR _ (by omega)]
    exact i2.2.2.2.2.1 i hi
  · intro i hi
    rw [hf 16 (by decide) (by decide) (by decide) (by decide) (by decide), hR _ (by omega)]
    exact i2.2.2.2.2.2.1 i hi
  · intro u hu
    have e : (fun k => σ' 41 0 (168 + 121 * u + k)) = fun k => σ 41 0 (168 + 121 * u + k) := funext fun k => hR _ (by omega)
    rw [hf 13 (by decide) (by decide) (by decide) (by decide) (by decide), hf 14 (by decide) (by decide) (by decide) (by decide) (by decide), e]
    exact i2.2.2.2.2.2.2 u hu
  · unfold xiE at i3 ⊢
    rw [hf 39 (by decide) (by decide) (by decide) (by decide) (by decide), hf 44 (by decide) (by decide) (by decide) (by decide) (by decide)]
    exact i3
  · unfold xiK at i4 ⊢
    rw [hf 4 (by decide) (by decide) (by decide) (by decide) (by decide), hf 40 (by decide) (by decide) (by decide) (by decide) (by decide), hf 42 (by decide) (by decide) (by decide) (by decide) (by decide)]
    refine ⟨i4.1, fun hn => ⟨(i4.2 hn).1, ?_⟩⟩
    obtain ⟨j1, j2, j3, j4, j5, j6, j7⟩ := (i4.2 hn).2
    refine ⟨?_, ?_, ?_, ?_, ?_, ?_, ?_⟩
    · unfold xcA at j1 ⊢
      rw [h5 1 (by decide)]
      exact j1
    · intro p hp
      rw [h7 _ (show 7 ≤ xst 1 p from (by show 7 ≤ 7 + p; omega))]
      exact j2 p hp
    · intro p hp k hk
      rw [h9 _ (show 7 ≤ xst 1 p from (by show 7 ≤ 7 + p; omega))]
      exact j3 p hp k hk
    · intro p hp k hk
      rw [h10 _ (show 7 ≤ xst 1 p from (by show 7 ≤ 7 + p; omega))]
      exact j4 p hp k hk
    · unfold xcT at j5 ⊢
      rw [hf 11 (by decide) (by decide) (by decide) (by decide) (by decide)]
      exact j5
    · unfold xcN at j6 ⊢
      rw [hf 16 (by decide) (by decide) (by decide) (by decide) (by decide)]
      exact j6
    · unfold xcX at j7 ⊢
      rw [hf 13 (by decide) (by decide) (by decide) (by decide) (by decide), hf 14 (by decide) (by decide) (by decide) (by decide) (by decide)]
      exact j7
  · unfold xiS at i5 ⊢
    rw [hf 36 (by decide) (by decide) (by decide) (by decide) (by decide), hf 37 (by decide) (by decide) (by decide) (by decide) (by decide), hf 45 (by decide) (by decide) (by decide) (by decide) (by decide), hf 46 (by decide) (by decide) (by decide) (by decide) (by decide), hf 47 (by decide) (by decide) (by decide) (by decide) (by decide)]
    exact i5
  · unfold xiV at i6 ⊢
    rw [hf 33 (by decide) (by decide) (by decide) (by decide) (by decide), hf 34 (by decide) (by decide) (by decide) (by decide) (by decide), hf 40 (by decide) (by decide) (by decide) (by decide) (by decide), hf 56 (by decide) (by decide) (by decide) (by decide) (by decide)]
    exact i6
theorem xp7 {z : Int} (h0 : 0 ≤ z) (h7 : z < 7) : xwr (z + 1) = z + 1 ∧ xwr (z + 1 - 1) = z ∧ xwr (2 * z) = 2 * z ∧ xwr (7 + 2 * z) = 7 + 2 * z ∧ xwr (7 + 2 * z + 1) = 7 + 2 * z + 1 := by
  refine ⟨xw (by omega) (by omega), ?_, xw (by omega) (by omega), xw (by omega) (by omega), xw (by omega) (by omega)⟩
  rw [xw (by omega) (by omega)]
  omega
theorem xp7n (P : Nat) : (7 + 2 * (P : Int)).toNat = 7 + 2 * P ∧ (7 + 2 * (P : Int) + 1).toNat = 7 + 2 * P + 1 := by omega
theorem xp7r {z : Int} (h0 : 0 ≤ z) (h7 : z < 7) : ((0 : Int) ≤ 7 + 2 * z ∧ 7 + 2 * z < 410) ∧ ((0 : Int) ≤ 7 + 2 * z + 1 ∧ 7 + 2 * z + 1 < 410) := by omega
theorem xd69 {x : Int} (h : 0 ≤ x ∧ x ≤ 69) : (0 ≤ x / 10 ∧ x / 10 ≤ 6) ∧ (0 ≤ x % 10 ∧ x % 10 ≤ 9) := by omega
theorem xne7 (P : Nat) : 2 ≠ 7 + 2 * P + 1 ∧ 2 ≠ 7 + 2 * P ∧ 7 + 2 * P ≠ 7 + 2 * P + 1 := by omega
theorem inv_part {σ τ : xM} {P : Nat} {a b : Int} (h : Inv σ) (hP : σ 41 0 2 = (P : Int)) (hP7 : P < 7) (ha : 0 ≤ a ∧ a ≤ 6) (hb : 0 ≤ b ∧ b ≤ 9) (eR : ∀ k, k ≠ 2 → k ≠ 7 + 2 * P → k ≠ 7 + 2 * P + 1 → τ 41 0 k = σ 41 0 k) (e2 : τ 41 0 2 = (P : Int) + 1) (eA : τ 41 0 (7 + 2 * P) = a) (eB : τ 41 0 (7 + 2 * P + 1) = b)
    (e5 : ∀ k, k ≠ 0 → τ 5 0 k = σ 5 0 k) (e50 : τ 5 0 0 = (P : Int) + 1) (e5i : ∀ i, i ≠ 0 → τ 5 i = σ 5 i) (e7 : ∀ i, i ≠ P → τ 7 i = σ 7 i) (e70 : τ 7 P 0 = a) (e71 : τ 7 P 1 = b) (et : ∀ t, t ≠ 5 → t ≠ 7 → t ≠ 41 → τ t = σ t) : Inv τ := by
  obtain ⟨⟨a0, a1, a2, a3, a4, a5, a6⟩, -⟩ := ccl h
  obtain ⟨v1, v2, v3, v4, v5, v6, v7, v8, v9⟩ := h.1
  refine Inv_row h (fun t h1 h2 _ _ h5 => et t h1 h2 h5) e5i (fun i hi => e7 i (by omega)) (fun i _ => by rw [et 9 (by decide) (by decide) (by decide)]) (fun i _ => by rw [et 10 (by decide) (by decide) (by decide)]) (fun k hk => eR k (by omega) (by omega) (by omega)) ⟨?_, ?_, ?_, ?_, ?_, ?_, ?_, ?_, ?_⟩ ⟨?_, ?_, ?_, ?_, ?_, ?_, ?_⟩ ?_ ?_ ?_
  · rw [e2]; omega
  · rw [eR 3 (by omega) (by omega) (by omega)]; exact v2
  · rw [eR 0 (by omega) (by omega) (by omega)]; exact v3
  · rw [eR 4 (by omega) (by omega) (by omega)]; exact v4
  · rw [eR 5 (by omega) (by omega) (by omega)]; exact v5
  · rw [eR 6 (by omega) (by omega) (by omega)]; exact v6
  · intro p hp
    rw [e2] at hp
    by_cases hpP : p = P
    · subst hpP
      rw [eA, eB]
      exact ⟨ha, hb⟩
    · rw [eR _ (by omega) (by omega) (by omega), eR _ (by omega) (by omega) (by omega)]
      exact v7 p (by rw [hP]; omega)
  · intro c hc
    rw [eR 3 (by omega) (by omega) (by omega)] at hc
    obtain ⟨u1, u2, u3, u4, u5, u6⟩ := v8 c hc
    rw [hP] at u5 u6
    rw [e2, eR (21 + 9 * c + 0) (by omega) (by omega) (by omega), eR (21 + 9 * c + 1) (by omega) (by omega) (by omega), eR (21 + 9 * c + 2) (by omega) (by omega) (by omega), eR (21 + 9 * c + 3) (by omega) (by omega) (by omega), eR (21 + 9 * c + 4) (by omega) (by omega) (by omega), eR (21 + 9 * c + 5) (by omega) (by omega) (by omega)]
    exact ⟨u1, u2, u3, u4, ⟨u5.1, by have := u5.2; omega⟩, ⟨u6.1, by have := u6.2; omega⟩⟩
  · intro c hc k hk
    rw [eR 3 (by omega) (by omega) (by omega)] at hc
    have u := v9 c hc k hk
    rw [hP] at u
    rw [e2, eR _ (by omega) (by omega) (by omega)]
    exact ⟨u.1, by have := u.2; omega⟩
  · rw [e50, e2]
  · rw [e5 1 (by decide), eR _ (by omega) (by omega) (by omega)]; exact a1
  · rw [e5 2 (by decide), eR _ (by omega) (by omega) (by omega)]; exact a2
  · rw [e5 3 (by decide), eR _ (by omega) (by omega) (by omega)]; exact a3
  · rw [e5 4 (by decide), eR _ (by omega) (by omega) (by omega)]; exact a4
  · rw [e5 5 (by decide), eR _ (by omega) (by omega) (by omega)]; exact a5
  · rw [e5 6 (by decide), eR _ (by omega) (by omega) (by omega)]; exact a6
  · intro p hp
    show τ 7 p 0 = τ 41 0 (7 + 2 * p) ∧ τ 7 p 1 = τ 41 0 (7 + 2 * p + 1)
    by_cases hpP : p = P
    · subst hpP
      rw [eA, eB, e70, e71]
      exact ⟨rfl, rfl⟩
    · rw [e7 p hpP, eR _ (by omega) (by omega) (by omega), eR _ (by omega) (by omega) (by omega)]
      exact h.2.1.2.1 p hp
  · intro c hc k hk
    rw [et 9 (by decide) (by decide) (by decide), eR _ (by omega) (by omega) (by omega)]
    exact h.2.1.2.2.1 c hc k hk
  · intro c hc k hk
    rw [et 10 (by decide) (by decide) (by decide), eR _ (by omega) (by omega) (by omega)]
    exact h.2.1.2.2.2.1 c hc k hk
theorem call_part {d : Nat} {σ : xM} (h : Inv σ) (x : Int) : Ev (d + 9) m_P_part 0 [vR 4 0, vI x] [] σ (fun r s => Ev (d + 9) m_M_part 0 [vR 40 0, vI x, vR 0 0] [] s (fun r' s' => r = r' ∧ Inv s')) := by
  obtain ⟨⟨a0, a1, a2, a3, a4, a5, a6⟩, p, c, y, j, tp, wt⟩ := ccl h
  rw [b_P_part_0]
  simp only [e_isKN, xbc]
  by_cases hk : 0 ≤ x ∧ x ≤ 69
  · rw [if_neg (fun q => q hk), a0]
    by_cases h7 : σ 41 0 2 < 7
    · obtain ⟨P, hP⟩ : ∃ P : Nat, σ 41 0 2 = P := ⟨(σ 41 0 2).toNat, by omega⟩
      have hP7 : (P : Int) < 7 := by omega
      have hP0 : (0 : Int) ≤ (P : Int) := Int.natCast_nonneg P
      obtain ⟨w1, w2, v1, v2, v3⟩ := xp7 hP0 hP7
      obtain ⟨n1, n2⟩ := xp7n P
      obtain ⟨r1, r2⟩ := xp7r hP0 hP7
      obtain ⟨t1, t2⟩ := xtdiv10 hk
      rw [if_pos h7]
      simp only [hP, xup_s, w1, w2, Int.toNat_natCast]
      refine ⟨⟨hP0, hP7⟩, ?_⟩
      rw [b_R_turnInto_0, t1, t2]
      refine ⟨by decide, by decide, ?_⟩
      obtain ⟨s3, hs3⟩ : ∃ s, s = xup (xup (xup σ 5 0 0 ((P : Int) + 1)) 7 P 0 (x / 10)) 7 P 1 (x % 10) := ⟨_, rfl⟩
      rw [← hs3]
      have e5 : s3 5 0 0 = (P : Int) + 1 := by rw [hs3, xup_t (by decide), xup_t (by decide), xup_s]
      have e41 : s3 41 = σ 41 := by rw [hs3, xup_t (by decide), xup_t (by decide), xup_t (by decide)]
      have e41' : s3 41 0 2 = (P : Int) := by rw [e41, hP]
      rw [b_M_part_0]
      simp only [e_isKm, xbc]
      rw [if_neg (fun q => q hk)]
      simp only [show Int.toNat 2 = 2 from rfl, e5, e41', w1, w2, v1, v2, v3, t1, t2, n1, n2, Int.toNat_natCast]
      refine ⟨by decide, ?_⟩
      rw [if_neg (fun q => absurd hP7 (by rw [q]; decide))]
      refine ⟨by decide, by decide, by decide, r1, by decide, r2, trivial, ?_⟩
      have hPn : P < 7 := Int.ofNat_lt.mp hP7
      refine inv_part (P := P) (a := x / 10) (b := x % 10) h hP hPn (xd69 hk).1 (xd69 hk).2 (fun k h2 hA hB => by rw [xup_k hB, xup_k hA, xup_k h2, e41]) (by rw [xup_k (xne7 P).1, xup_k (xne7 P).2.1, xup_s]) (by rw [xup_k (xne7 P).2.2, xup_s]) (by rw [xup_s])
        (fun k hk => by rw [xup_t (by decide), xup_t (by decide), xup_t (by decide), hs3, xup_t (by decide), xup_t (by decide), xup_k hk]) (by rw [xup_t (by decide), xup_t (by decide), xup_t (by decide)]; exact e5) (fun i hi => by rw [xup_t (by decide), xup_t (by decide), xup_t (by decide), hs3, xup_t (by decide), xup_t (by decide), xup_i hi])
        (fun i hi => by rw [xup_t (by decide), xup_t (by decide), xup_t (by decide), hs3, xup_i hi, xup_i hi, xup_t (by decide)]) (by rw [xup_t (by decide), xup_t (by decide), xup_t (by decide), hs3, xup_k (by decide), xup_s]) (by rw [xup_t (by decide), xup_t (by decide), xup_t (by decide), hs3, xup_s])
        (fun t h5 h7 h41 => by rw [xup_t h41, xup_t h41, xup_t h41, hs3, xup_t h7, xup_t h7, xup_t h5])
    · rw [if_neg h7, e_fail4, b_M_part_0]
      simp only [e_isKm, xbc]
      rw [if_neg (fun q => q hk), xin (by decide) (by decide), xup_t (by decide), if_pos (by show σ 41 0 2 = 7; omega), e_err4]
      exact ⟨rfl, Inv_err h (by decide) (by decide) (by rw [xup_t (by decide)])⟩
  · rw [if_pos hk, e_fail1, b_M_part_0]
    simp only [e_isKm, xbc]
    rw [if_pos hk, e_err1]
    exact ⟨rfl, Inv_err h (by decide) (by decide) (by rw [xup_t (by decide)])⟩
theorem xvl_1 {R R' : Nat → Int} (e : ∀ k, k ≠ 1 → R' k = R k) (h : xvl R) : xvl R' := by
  unfold xvl at h ⊢
  simp (disch := omega) only [e]
  exact h
theorem call_seed {d : Nat} {σ : xM} (h : Inv σ) (x : Int) : Ev (d + 9) m_P_seed 0 [vR 4 0, vI x, vR 0 0] [] σ (fun r s => Ev (d + 9) m_M_seed 0 [vR 40 0, vI x] [] s (fun r' s' => r = r' ∧ Inv s')) := by
  obtain ⟨⟨a0, a1, a2, a3, a4, a5, a6⟩, p, c, y, j, tp, wt⟩ := ccl h
  rw [b_P_seed_0, b_M_seed_0, b_M_becomes_0, xin (by decide) (by decide), xin (by decide) (by decide)]
  refine ⟨by rw [xup_t (by decide)]; exact a4, ?_⟩
  have eR : ∀ k, k ≠ 1 → xup (xup σ 5 0 4 x) 41 0 1 x 41 0 k = σ 41 0 k := fun k hk => by rw [xup_k hk, xup_t (by decide)]
  have e1 : xup (xup σ 5 0 4 x) 41 0 1 x 41 0 1 = x := xup_s
  have e5 : ∀ k, k ≠ 4 → xup (xup σ 5 0 4 x) 41 0 1 x 5 0 k = σ 5 0 k := fun k hk => by rw [xup_t (by decide), xup_k hk]
  have e54 : xup (xup σ 5 0 4 x) 41 0 1 x 5 0 4 = x := by rw [xup_t (by decide), xup_s]
  have et : ∀ t, t ≠ 5 → t ≠ 41 → xup (xup σ 5 0 4 x) 41 0 1 x t = σ t := fun t h1 h2 => by rw [xup_t h2, xup_t h1]
  show Inv (xup (xup σ 5 0 4 x) 41 0 1 x)
  refine Inv_row h (fun t h1 _ _ _ h5 => et t h1 h5) (fun i hi => by rw [xup_t (by decide), xup_i hi]) (fun i _ => by rw [et 7 (by decide) (by decide)]) (fun i _ => by rw [et 9 (by decide) (by decide)]) (fun i _ => by rw [et 10 (by decide) (by decide)]) (fun k hk => eR k (by omega)) (xvl_1 eR h.1) ?_ ?_ ?_ ?_
  · refine ⟨?_, ?_, ?_, ?_, ?_, ?_, ?_⟩
    · rw [e5 _ (by decide), eR _ (by decide)]; exact a0
    · rw [e5 _ (by decide), eR _ (by decide)]; exact a1
    · rw [e5 _ (by decide), eR _ (by decide)]; exact a2
    · rw [e5 _ (by decide), eR _ (by decide)]; exact a3
    · rw [e54, e1]
    · rw [e5 _ (by decide), eR _ (by decide)]; exact a5
    · rw [e5 _ (by decide), eR _ (by decide)]; exact a6
  · intro p hp
    rw [et 7 (by decide) (by decide), eR _ (by omega), eR _ (by omega)]
    exact h.2.1.2.1 p hp
  · intro c hc k hk
    rw [et 9 (by decide) (by decide), eR _ (by omega)]
    exact h.2.1.2.2.1 c hc k hk
  · intro c hc k hk
    rw [et 10 (by decide) (by decide), eR _ (by omega)]
    exact h.2.1.2.2.2.1 c hc k hk
theorem inv_turn {σ τ : xM} {P : Nat} {a b : Int} (h : Inv σ) (hP : (P : Int) < σ 41 0 2) (ha : 0 ≤ a ∧ a ≤ 6) (hb : 0 ≤ b ∧ b ≤ 9) (eR : ∀ k, k ≠ 7 + 2 * P → k ≠ 7 + 2 * P + 1 → τ 41 0 k = σ 41 0 k) (eA : τ 41 0 (7 + 2 * P) = a) (eB : τ 41 0 (7 + 2 * P + 1) = b)
    (e5 : τ 5 = σ 5) (e7 : ∀ i, i ≠ P → τ 7 i = σ 7 i) (e70 : τ 7 P 0 = a) (e71 : τ 7 P 1 = b) (et : ∀ t, t ≠ 7 → t ≠ 41 → τ t = σ t) : Inv τ := by
  obtain ⟨⟨a0, a1, a2, a3, a4, a5, a6⟩, z2, -⟩ := ccl h
  obtain ⟨v1, v2, v3, v4, v5, v6, v7, v8, v9⟩ := h.1
  have hP7 : P < 7 := by omega
  have e2 : τ 41 0 2 = σ 41 0 2 := eR 2 (by omega) (by omega)
  refine Inv_row h (fun t h1 h2 _ _ h5 => et t h2 h5) (fun i _ => by rw [e5]) (fun i hi => e7 i (by omega)) (fun i _ => by rw [et 9 (by decide) (by decide)]) (fun i _ => by rw [et 10 (by decide) (by decide)]) (fun k hk => eR k (by omega) (by omega)) ⟨?_, ?_, ?_, ?_, ?_, ?_, ?_, ?_, ?_⟩ ⟨?_, ?_, ?_, ?_, ?_, ?_, ?_⟩ ?_ ?_ ?_
  · rw [e2]; exact v1
  · rw [eR 3 (by omega) (by omega)]; exact v2
  · rw [eR 0 (by omega) (by omega)]; exact v3
  · rw [eR 4 (by omega) (by omega)]; exact v4
  · rw [eR 5 (by omega) (by omega)]; exact v5
  · rw [eR 6 (by omega) (by omega)]; exact v6
  · intro p hp
    rw [e2] at hp
    by_cases hpP : p = P
    · subst hpP
      rw [eA, eB]
      exact ⟨ha, hb⟩
    · rw [eR _ (by omega) (by omega), eR _ (by omega) (by omega)]
      exact v7 p hp
  · intro c hc
    rw [eR 3 (by omega) (by omega)] at hc
    rw [e2, eR (21 + 9 * c + 0) (by omega) (by omega), eR (21 + 9 * c + 1) (by omega) (by omega), eR (21 + 9 * c + 2) (by omega) (by omega), eR (21 + 9 * c + 3) (by omega) (by omega), eR (21 + 9 * c + 4) (by omega) (by omega), eR (21 + 9 * c + 5) (by omega) (by omega)]
    exact v8 c hc
  · intro c hc k hk
    rw [eR 3 (by omega) (by omega)] at hc
    rw [e2, eR _ (by omega) (by omega)]
    exact v9 c hc k hk
  · rw [e5, e2]; exact a0
  · rw [e5, eR _ (by omega) (by omega)]; exact a1
  · rw [e5, eR _ (by omega) (by omega)]; exact a2
  · rw [e5, eR _ (by omega) (by omega)]; exact a3
  · rw [e5, eR _ (by omega) (by omega)]; exact a4
  · rw [e5, eR _ (by omega) (by omega)]; exact a5
  · rw [e5, eR _ (by omega) (by omega)]; exact a6
  · intro p hp
    show τ 7 p 0 = τ 41 0 (7 + 2 * p) ∧ τ 7 p 1 = τ 41 0 (7 + 2 * p + 1)
    by_cases hpP : p = P
    · subst hpP
      rw [eA, eB, e70, e71]
      exact ⟨rfl, rfl⟩
    · rw [e7 p hpP, eR _ (by omega) (by omega), eR _ (by omega) (by omega)]
      exact h.2.1.2.1 p hp
  · intro c hc k hk
    rw [et 9 (by decide) (by decide), eR _ (by omega) (by omega)]
    exact h.2.1.2.2.1 c hc k hk
  · intro c hc k hk
    rw [et 10 (by decide) (by decide), eR _ (by omega) (by omega)]
    exact h.2.1.2.2.2.1 c hc k hk
theorem call_become {d : Nat} {σ : xM} (h : Inv σ) (x y : Int) : Ev (d + 9) m_P_become 0 [vR 4 0, vI x, vI y, vR 0 0] [] σ (fun r s => Ev (d + 9) m_M_become 0 [vR 40 0, vI x, vI y] [] s (fun r' s' => r = r' ∧ Inv s')) := by
  obtain ⟨⟨a0, -⟩, ⟨p0, p7⟩, -⟩ := ccl h
  rw [b_P_become_0, e_hasPart, a0]
  simp only [xbc]
  by_cases hx : 0 ≤ x ∧ x < σ 41 0 2
  · rw [if_neg (fun q => q hx), e_isKN]
    simp only [xbc]
    by_cases hk : 0 ≤ y ∧ y ≤ 69
    · rw [if_neg (fun q => q hk)]
      obtain ⟨P, rfl⟩ : ∃ P : Nat, x = (P : Int) := ⟨x.toNat, (Int.toNat_of_nonneg hx.1).symm⟩
      have hP0 : (0 : Int) ≤ (P : Int) := hx.1
      have hP7 : (P : Int) < 7 := Int.lt_of_lt_of_le hx.2 p7
      have hPn : P < 7 := Int.ofNat_lt.mp hP7
      obtain ⟨w1, w2, v1, v2, v3⟩ := xp7 hP0 hP7
      obtain ⟨n1, n2⟩ := xp7n P
      obtain ⟨r1, r2⟩ := xp7r hP0 hP7
      obtain ⟨t1, t2⟩ := xtdiv10 hk
      refine ⟨⟨hP0, hP7⟩, ⟨hP0, hP7⟩, ?_⟩
      rw [b_R_turnInto_0, t1, t2]
      refine ⟨by decide, by decide, ?_⟩
      simp only [Int.toNat_natCast]
      obtain ⟨s3, hs3⟩ : ∃ s, s = xup (xup σ 7 P 0 (y / 10)) 7 P 1 (y % 10) := ⟨_, rfl⟩
      rw [← hs3]
      have e41 : s3 41 = σ 41 := by rw [hs3, xup_t (by decide), xup_t (by decide)]
      rw [b_M_become_0, e_isPart (by rw [e41]; exact p0) (by rw [e41]; exact p7)]
      simp only [xbc]
      rw [if_neg (fun q => q (by rw [e41]; exact hx)), e_isKm]
      simp only [xbc]
      rw [if_neg (fun q => q hk)]
      simp only [v1, v2, v3, t1, t2, n2]
      refine ⟨by decide, r2, by decide, ?_⟩
      rw [b_M_becomes_0]
      refine ⟨r1, r1, ?_⟩
      simp only [n1]
      refine ⟨?_, ?_⟩
      · rw [xup_k (xne7 P).2.2, e41]
        exact (h.2.1.2.1 P hPn).1
      · exact inv_turn (P := P) (a := y / 10) (b := y % 10) h hx.2 (xd69 hk).1 (xd69 hk).2 (fun k hA hB => by rw [xup_k hA, xup_k hB, e41]) (by rw [xup_s]) (by rw [xup_k (xne7 P).2.2.symm, xup_s])
          (by rw [xup_t (by decide), xup_t (by decide), hs3, xup_t (by decide), xup_t (by decide)]) (fun i hi => by rw [xup_t (by decide), xup_t (by decide), hs3, xup_i hi, xup_i hi]) (by rw [xup_t (by decide), xup_t (by decide), hs3, xup_k (by decide), xup_s]) (by rw [xup_t (by decide), xup_t (by decide), hs3, xup_s])
          (fun t h7 h41 => by rw [xup_t h41, xup_t h41, hs3, xup_t h7, xup_t h7])
    · rw [if_pos hk, e_fail1, b_M_become_0, e_isPart (by rw [xup_t (by decide)]; exact p0) (by rw [xup_t (by decide)]; exact p7)]
      simp only [xbc]
      rw [if_neg (fun q => q (by rw [xup_t (by decide)]; exact hx)), e_isKm]
      simp only [xbc]
      rw [if_pos hk, e_err1]
      exact ⟨rfl, Inv_err h (by decide) (by decide) (by rw [xup_t (by decide)])⟩
  · rw [if_pos hx, e_fail1, b_M_become_0, e_isPart (by rw [xup_t (by decide)]; exact p0) (by rw [xup_t (by decide)]; exact p7)]
    simp only [xbc]
    rw [if_pos (fun q => hx (by rw [xup_t (by decide)] at q; exact q)), e_err1]
    exact ⟨rfl, Inv_err h (by decide) (by decide) (by rw [xup_t (by decide)])⟩
theorem call_count {d : Nat} {σ : xM} (h : Inv σ) (x : Int) : Ev (d + 9) m_P_count 0 [vR 4 0, vI x] [] σ (fun r s => Ev (d + 9) m_M_count 0 [vR 40 0, vI x] [] s (fun r' s' => r = r' ∧ Inv s')) := by
  obtain ⟨⟨a0, a1, a2, a3, a4, a5, a6⟩, -⟩ := ccl h
  rw [b_P_count_0]
  by_cases h0 : x = 0
  · rw [if_pos h0, b_M_count_0, if_pos h0]; exact ⟨by decide, a0, h⟩
  by_cases h1 : x = 1
  · rw [if_neg h0, if_pos h1, b_M_count_0, if_neg h0, if_pos h1]; exact ⟨by decide, a1, h⟩
  by_cases h2 : x = 2
  · rw [if_neg h0, if_neg h1, if_pos h2, b_M_count_0, if_neg h0, if_neg h1, if_pos h2]; exact ⟨by decide, a2, h⟩
  by_cases h3 : x = 3
  · rw [if_neg h0, if_neg h1, if_neg h2, if_pos h3, b_M_count_0, if_neg h0, if_neg h1, if_neg h2, if_pos h3]; exact ⟨by decide, a3, h⟩
  by_cases h4 : x = 4
  · rw [if_neg h0, if_neg h1, if_neg h2, if_neg h3, if_pos h4, b_M_count_0, if_neg h0, if_neg h1, if_neg h2, if_neg h3, if_pos h4]; exact ⟨by decide, a5, h⟩
  by_cases h5 : x = 5
  · rw [if_neg h0, if_neg h1, if_neg h2, if_neg h3, if_neg h4, if_pos h5, b_M_count_0, if_neg h0, if_neg h1, if_neg h2, if_neg h3, if_neg h4, if_pos h5]; exact ⟨by decide, a6, h⟩
  by_cases h6 : x = 6
  · rw [if_neg h0, if_neg h1, if_neg h2, if_neg h3, if_neg h4, if_neg h5, if_pos h6, b_M_count_0, if_neg h0, if_neg h1, if_neg h2, if_neg h3, if_neg h4, if_neg h5, if_pos h6]; exact ⟨h.2.2.2.2.2.1, h⟩
  by_cases h7 : x = 7
  · rw [if_neg h0, if_neg h1, if_neg h2, if_neg h3, if_neg h4, if_neg h5, if_neg h6, if_pos h7, b_M_count_0, if_neg h0, if_neg h1, if_neg h2, if_neg h3, if_neg h4, if_neg h5, if_neg h6, if_pos h7]; exact ⟨by decide, a4, h⟩
  · rw [if_neg h0, if_neg h1, if_neg h2, if_neg h3, if_neg h4, if_neg h5, if_neg h6, if_neg h7, e_fail1, b_M_count_0, if_neg h0, if_neg h1, if_neg h2, if_neg h3, if_neg h4, if_neg h5, if_neg h6, if_neg h7, e_err1]
    exact ⟨rfl, Inv_err h (by decide) (by decide) (by rw [xup_t (by decide)])⟩
theorem call_told {d : Nat} {σ : xM} (h : Inv σ) (x : Int) : Ev (d + 9) m_P_told 0 [vR 4 0, vI x] [] σ (fun r s => Ev (d + 9) m_M_told 0 [vR 40 0, vI x] [] s (fun r' s' => r = r' ∧ Inv s')) := by
  have bad : ¬ (1 ≤ x ∧ x ≤ 6) → Ev (d + 8) 38 0 [vR 4 0, vI 1] [] σ (fun r s => Ev (d + 9) m_M_told 0 [vR 40 0, vI x] [] s (fun r' s' => r = r' ∧ Inv s')) := by
    intro hx
    rw [e_fail1, b_M_told_0, e_in]
    simp only [xzc, xbc]
    rw [if_pos hx, e_err1]
    exact ⟨rfl, Inv_err h (by decide) (by decide) (by rw [xup_t (by decide)])⟩
  rw [b_P_told_0]
  by_cases h1 : x < 1
  · rw [if_pos h1]; exact bad (fun q => by have := q.1; omega)
  rw [if_neg h1]
  by_cases h2 : 6 < x
  · rw [if_pos h2]; exact bad (fun q => by have := q.2; omega)
  rw [if_neg h2, b_M_told_0, e_in]
  simp only [xzc, xbc]
  rw [if_neg (fun q => q ⟨Int.not_lt.mp h1, Int.not_lt.mp h2⟩)]
  have hr : 0 ≤ x ∧ x < 7 := by omega
  have hn : 1 ≤ x.toNat ∧ x.toNat < 7 := by omega
  exact ⟨hr, hr, h.2.2.1 _ hn.1 hn.2, h⟩
end
section
/-! frames; what a text gives -/
def Fr (l : List Nat) (σ s : xM) : Prop := ∀ t, t ∉ l → s t = σ t
theorem Fr_refl {l : List Nat} {σ : xM} : Fr l σ σ := fun _ _ => rfl
theorem Fr_trans {l : List Nat} {σ s u : xM} (h1 : Fr l σ s) (h2 : Fr l s u) : Fr l σ u := fun t ht => (h2 t ht).trans (h1 t ht)
theorem Fr_mono {l l' : List Nat} {σ s : xM} (h : Fr l σ s) (hl : ∀ t, t ∈ l → t ∈ l') : Fr l' σ s := fun t ht => h t (fun q => ht (hl t q))
theorem Fr_up {l : List Nat} {σ : xM} {t i k : Nat} {v : Int} (h : t ∈ l) : Fr l σ (xup σ t i k v) := fun a ha => xup_t (fun q => ha (q ▸ h))
/-- Inv does not see scratch -/
def qSc : List Nat := [15, 18, 19, 20, 21, 22, 23, 24, 25, 26, 27, 28, 29, 30, 31, 32, 38, 43, 48, 49, 50, 51, 52, 53, 54, 55]
theorem Inv_Fr {σ s : xM} (h : Inv σ) (hf : Fr qSc σ s) : Inv s := Inv_cg h (fun t ht => hf t (by
  rcases ht with e | e | e | e | e | e | e | e | e | e | e | e | e | e | e | e | e | e | e | e | e | e <;> subst e <;> decide))
def qheld (v lo hi : Int) : Int := if v < lo then lo else if hi < v then hi else v
theorem e_Pheld {d : Nat} {σ : xM} {Q : Int → xM → Prop} {v lo hi : Int} (h : lo ≤ hi) : Ev d 44 0 [vI v, vI lo, vI hi] [] σ Q = Q (qheld v lo hi) σ := by
  rw [b_P_held_0]
  unfold qheld
  by_cases h1 : v < hi
  · rw [if_pos h1]
    by_cases h2 : lo < v
    · rw [if_pos h2, if_neg (by omega), if_neg (by omega)]
    · rw [if_neg h2]
      by_cases h3 : v < lo
      · rw [if_pos h3]
      · rw [if_neg h3, if_neg (by omega), show lo = v by omega]
  · rw [if_neg h1]
    by_cases h2 : lo < hi
    · rw [if_pos h2, if_neg (by omega)]
      by_cases h3 : hi < v
      · rw [if_pos h3]
      · rw [if_neg h3, show hi = v by omega]
    · rw [if_neg h2, if_neg (by omega)]
      by_cases h3 : hi < v
      · rw [if_pos h3, show lo = hi by omega]
      · rw [if_neg h3, show lo = v by omega]
theorem e_Mheld {d : Nat} {σ : xM} {Q : Int → xM → Prop} {v lo hi : Int} : Ev d 126 0 [vI v, vI lo, vI hi] [] σ Q = Q (qheld v lo hi) σ := by
  rw [b_M_held_0]
  unfold qheld
  by_cases h1 : v < lo
  · rw [if_pos h1, if_pos h1]
  · rw [if_neg h1, if_neg h1]
    by_cases h2 : hi < v
    · rw [if_pos h2, if_pos h2]
    · rw [if_neg h2, if_neg h2]
def qtwo (w x y : Int) : Int :=
  if w = 37 then (if y = 0 then 0 else Int.tmod x y) else if w = 38 then (if x = 0 then 0 else if y = 0 then 0 else 1) else if w = 42 then xwr (x * y) else if w = 43 then xwr (x + y)
  else if w = 45 then xwr (x - y) else if w = 47 then (if y = 0 then 0 else xwr (Int.tdiv x y)) else if w = 60 then (if x < y then 1 else 0) else if w = 61 then (if x = y then 1 else 0)
  else if w = 62 then (if y < x then 1 else 0) else (if x = 0 then (if y = 0 then 0 else 1) else 1)
theorem xiteQ {Q : Int → xM → Prop} {σ : xM} (c : Prop) [Decidable c] (a b : Int) : (if c then Q a σ else Q b σ) = Q (if c then a else b) σ := by split <;> rfl
theorem xneit {y : Int} {A B : Prop} : (if y = 0 then A else y ≠ 0 ∧ B) = (if y = 0 then A else B) := by
  by_cases h : y = 0
  · rw [if_pos h, if_pos h]
  · rw [if_neg h, if_neg h]
    exact propext ⟨fun q => q.2, fun q => ⟨h, q⟩⟩
theorem e_apply {d : Nat} {σ : xM} {Q : Int → xM → Prop} {w x y : Int} (hw : xop w) : Ev d 81 0 [vI w, vI x, vI y] [] σ Q = Q (qtwo w x y) σ := by
  rw [b_T_apply_0]
  unfold qtwo
  simp only [xneit, xiteQ (Q := Q) (σ := σ)]
  rcases hw with h | h | h | h | h | h | h | h | h | h <;> subst h <;> simp
theorem e_twoOf {d : Nat} {σ : xM} {Q : Int → xM → Prop} {w x y : Int} (hw : xop w) : Ev d 170 0 [vI w, vI x, vI y] [] σ Q = Q (qtwo w x y) σ := by
  rw [b_M_twoOf_0]
  unfold qtwo
  simp only [xneit, xiteQ (Q := Q) (σ := σ)]
  rcases hw with h | h | h | h | h | h | h | h | h | h <;> subst h <;> simp
def qfact (a b c w : Int) : Int := if w = 0 then a else if w = 1 then b else c
def qstk (P : Nat → Int) (a b c : Int) (st : List Int) (k : Nat) : List Int :=
  if P (1 + k) = 1 then P (61 + k) :: st
  else if P (1 + k) = 2 then qfact a b c (P (61 + k)) :: st
  else if P (1 + k) = 3 then (match st with
    | [] => []
    | x :: r => (if x = 0 then 1 else 0) :: r)
  else match st with
    | y :: x :: r => qtwo (P (1 + k)) x y :: r
    | r => r
def qrun (P : Nat → Int) (a b c : Int) : Nat → List Int
  | 0 => []
  | k + 1 => qstk P a b c (qrun P a b c k) k
/-- what lies in a row of cells, the latest last -/
def qsk (f : Nat → Int) : List Int → Prop
  | [] => True
  | x :: r => f r.length = x ∧ qsk f r
theorem qsk_cg {f g : Nat → Int} : ∀ {st : List Int}, qsk f st → (∀ j, j < st.length → g j = f j) → qsk g st
  | [], _, _ => trivial
  | x :: r, h, e => ⟨by rw [e _ (Nat.lt_succ_self _)]; exact h.1, qsk_cg h.2 (fun j hj => e j (Nat.lt_succ_of_lt hj))⟩
theorem qdep {P : Nat → Int} {a b c : Int} {len : Nat} (h : ∀ k : Nat, k < len → (P (1 + k) = 3 → 1 ≤ xdep P k) ∧ (P (1 + k) ≠ 1 → P (1 + k) ≠ 2 → P (1 + k) ≠ 3 → 2 ≤ xdep P k)) : ∀ k, k ≤ len → ((qrun P a b c k).length : Int) = xdep P k ∧ (qrun P a b c k).length ≤ k
  | 0, _ => ⟨rfl, Nat.le_refl _⟩
  | k + 1, hk => by
    obtain ⟨i1, i2⟩ := qdep (a := a) (b := b) (c := c) h k (by omega)
    obtain ⟨h3, h4⟩ := h k (by omega)
    show ((qstk P a b c (qrun P a b c k) k).length : Int) = xdep P k + _ ∧ (qstk P a b c (qrun P a b c k) k).length ≤ k + 1
    generalize qrun P a b c k = st at i1 i2
    unfold qstk
    by_cases e1 : P (1 + k) = 1
    · rw [if_pos e1, if_pos (Or.inl e1), List.length_cons]
      omega
    · by_cases e2 : P (1 + k) = 2
      · rw [if_neg e1, if_pos e2, if_pos (Or.inr e2), List.length_cons]
        omega
      · by_cases e3 : P (1 + k) = 3
        · have := h3 e3
          rw [if_neg e1, if_neg e2, if_pos e3, if_neg (by omega), if_pos e3]
          match st, i1, i2 with
          | [], i1, i2 => simp at i1; omega
          | x :: r, i1, i2 => simp only [List.length_cons] at i1 i2 ⊢; omega
        · have := h4 e1 e2 e3
          rw [if_neg e1, if_neg e2, if_neg e3, if_neg (by omega), if_neg e3]
          match st, i1, i2 with
          | [], i1, i2 => simp at i1; omega
          | [x], i1, i2 => simp at i1; omega
          | y :: x :: r, i1, i2 => simp only [List.length_cons] at i1 i2 ⊢; omega
def qval (st : List Int) : Int := match st with
  | [] => 0
  | x :: _ => x
theorem e_named {d : Nat} {σ : xM} {Q : Int → xM → Prop} {a b c z w : Int} (h0 : 0 ≤ w) (h2 : w ≤ 2) (h : z = -1 - w) : Ev d 80 0 [vI z, vI a, vI b, vI c] [] σ Q = Q (qfact a b c w) σ := by
  rw [b_T_named_0]
  unfold qfact
  by_cases e0 : w = 0
  · rw [if_pos e0, if_pos (by omega)]
  · rw [if_neg e0, if_neg (by omega)]
    by_cases e1 : w = 1
    · rw [if_pos e1, if_pos (by omega)]
    · rw [if_neg e1, if_neg (by omega)]
theorem qneg {w : Int} (h : xop w) : xwr (- -w) = w ∧ -w < -3 ∧ -w ≠ -33 ∧ w ≠ 1 ∧ w ≠ 2 ∧ w ≠ 3 := by
  rcases h with e | e | e | e | e | e | e | e | e | e <;> subst e <;> decide
theorem w_num {d u n k : Nat} {s : xM} {Q : Int → xM → Prop} {a b c z : Int} {w : xV} (hz : s 14 u k = z) (hz0 : 0 ≤ z) (hk : (k : Int) < s 13 u 0) (hk60 : k < 60) (hn : n < 60) :
    Ev (d + 1) 79 6 [vR 13 u, vI a, vI b, vI c, vI ((n : Int) - 1), vI (k : Int), w] [] s Q = Ev (d + 1) 79 6 [vR 13 u, vI a, vI b, vI c, vI (((n + 1 : Nat) : Int) - 1), vI ((k + 1 : Nat) : Int), vI z] [] (xup s 15 u n z) Q := by
  have e1 : xwr ((n : Int) - 1 + 1) = (n : Int) := by rw [xw (by omega) (by omega)]; omega
  have e2 : (((n + 1 : Nat) : Int) - 1) = (n : Int) := by omega
  have e3 : ((k + 1 : Nat) : Int) = (k : Int) + 1 := rfl
  rw [b_T_workOut_6, e2, e3]
  simp only [Int.toNat_natCast, hz, e1]
  simp (disch := omega) only [↓reduceIte, ↓if_pos, ↓if_neg, xin, xw]
theorem w_name {d u n k : Nat} {s : xM} {Q : Int → xM → Prop} {a b c z y : Int} {w : xV} (hz : s 14 u k = z) (h0 : 0 ≤ y) (h2 : y ≤ 2) (hy : z = -1 - y) (hk : (k : Int) < s 13 u 0) (hk60 : k < 60) (hn : n < 60) :
    Ev (d + 1) 79 6 [vR 13 u, vI a, vI b, vI c, vI ((n : Int) - 1), vI (k : Int), w] [] s Q = Ev (d + 1) 79 6 [vR 13 u, vI a, vI b, vI c, vI (((n + 1 : Nat) : Int) - 1), vI ((k + 1 : Nat) : Int), vI z] [] (xup s 15 u n (qfact a b c y)) Q := by
  have e1 : xwr ((n : Int) - 1 + 1) = (n : Int) := by rw [xw (by omega) (by omega)]; omega
  have e2 : (((n + 1 : Nat) : Int) - 1) = (n : Int) := by omega
  have e3 : ((k + 1 : Nat) : Int) = (k : Int) + 1 := rfl
  rw [b_T_workOut_6, e2, e3]
  simp only [Int.toNat_natCast, hz, e1]
  simp (disch := omega) only [↓reduceIte, ↓if_pos, ↓if_neg, xin, xw, e_named h0 h2 hy]
theorem w_deny {d u m k : Nat} {s : xM} {Q : Int → xM → Prop} {a b c z : Int} {w : xV} (hz : s 14 u k = z) (hy : z = -33) (hk : (k : Int) < s 13 u 0) (hk60 : k < 60) (hn : m < 60) :
    Ev (d + 1) 79 6 [vR 13 u, vI a, vI b, vI c, vI (((m + 1 : Nat) : Int) - 1), vI (k : Int), w] [] s Q = Ev (d + 1) 79 6 [vR 13 u, vI a, vI b, vI c, vI (((m + 1 : Nat) : Int) - 1), vI ((k + 1 : Nat) : Int), vI z] [] (xup s 15 u m (if s 15 u m = 0 then 1 else 0)) Q := by
  have e2 : (((m + 1 : Nat) : Int) - 1) = (m : Int) := by omega
  have e3 : ((k + 1 : Nat) : Int) = (k : Int) + 1 := rfl
  rw [b_T_workOut_6, e2, e3]
  by_cases hx : s 15 u m = 0
  · simp only [Int.toNat_natCast, hz, hx, ↓reduceIte]
    simp (disch := omega) only [↓reduceIte, ↓if_pos, ↓if_neg, xin, xw]
  · simp only [Int.toNat_natCast, hz]
    simp (disch := omega) only [↓reduceIte, ↓if_pos, ↓if_neg, xin, xw]
theorem w_two {d u m k : Nat} {s : xM} {Q : Int → xM → Prop} {a b c z y : Int} {w : xV} (hz : s 14 u k = z) (hy : xop y) (hzy : z = -y) (hk : (k : Int) < s 13 u 0) (hk60 : k < 60) (hn : m + 1 < 60) :
    Ev (d + 1) 79 6 [vR 13 u, vI a, vI b, vI c, vI (((m + 2 : Nat) : Int) - 1), vI (k : Int), w] [] s Q = Ev (d + 1) 79 6 [vR 13 u, vI a, vI b, vI c, vI (((m + 1 : Nat) : Int) - 1), vI ((k + 1 : Nat) : Int), vI z] [] (xup s 15 u m (qtwo y (s 15 u m) (s 15 u (m + 1)))) Q := by
  have e1 : (((m + 2 : Nat) : Int) - 1) = ((m + 1 : Nat) : Int) := by omega
  have e2 : (((m + 1 : Nat) : Int) - 1) = (m : Int) := by omega
  have e3 : ((k + 1 : Nat) : Int) = (k : Int) + 1 := rfl
  have e4 : xwr (((m + 1 : Nat) : Int) + -1) = (m : Int) := by rw [xw (by omega) (by omega)]; omega
  have e5 : xwr ((m : Int) + 1) = ((m + 1 : Nat) : Int) := by rw [xw (by omega) (by omega)]; omega
  obtain ⟨n1, n2, n3, -⟩ := qneg hy
  rw [b_T_workOut_6, e1, e2, e3]
  subst hzy
  simp only [Int.toNat_natCast, hz, e4, e5, n1]
  simp (disch := omega) only [↓reduceIte, ↓if_pos, ↓if_neg, xin, e_apply hy, xw]
theorem qsk_top {f : Nat → Int} {st : List Int} {v : Int} (h : qsk f st) : ∀ {g : Nat → Int}, (∀ j, j ≠ st.length → g j = f j) → g st.length = v → qsk g (v :: st) := fun e1 e2 => ⟨e2, qsk_cg h (fun j hj => e1 j (by omega))⟩
/-- the class works a text out -/
theorem e_workOut {d u : Nat} {σ : xM} {Q : Int → xM → Prop} {a b c : Int} {P : Nat → Int} {L : Nat} (hL : σ 13 u 0 = (L : Int)) (h60 : L ≤ 60)
    (hc : ∀ k : Nat, k < L → xcd (σ 14 u k) (P (1 + k)) (P (61 + k)) ∧ (P (1 + k) = 3 → 1 ≤ xdep P k) ∧ (P (1 + k) ≠ 1 → P (1 + k) ≠ 2 → P (1 + k) ≠ 3 → 2 ≤ xdep P k)) (hQ : ∀ s, Fr [15] σ s → Q (qval (qrun P a b c L)) s) :
    ∀ f k : Nat, k + f = L → ∀ (w : xV) (s : xM), Fr [15] σ s → qsk (s 15 u) (qrun P a b c k) → Ev (d + 1) 79 6 [vR 13 u, vI a, vI b, vI c, vI (((qrun P a b c k).length : Int) - 1), vI (k : Int), w] [] s Q
  | 0, k, hk, w, s, hs, hq => by
    have hk : k = L := hk
    subst hk
    have l1 := (qdep (a := a) (b := b) (c := c) (fun j hj => (hc j hj).2) k (Nat.le_refl _)).2
    have e13 : s 13 u 0 = (k : Int) := by rw [hs 13 (by decide), hL]
    rw [b_T_workOut_6, e13, if_neg (by omega)]
    have hv := hQ s hs
    revert hq l1 hv
    generalize qrun P a b c k = st
    intro hq l1 hv
    match st, l1, hq, hv with
    | [], l1, hq, hv =>
      rw [if_pos (by simp)]
      exact hv
    | x :: r, l1, hq, hv =>
      have e : (((x :: r).length : Nat) : Int) - 1 = (r.length : Int) := by rw [List.length_cons]; omega
      rw [List.length_cons] at l1
      rw [e, if_neg (by omega), xin (by omega) (by omega), Int.toNat_natCast, hq.1]
      exact hv
  | f + 1, k, hk, w, s, hs, hq => by
    have l1 := qdep (a := a) (b := b) (c := c) (fun j hj => (hc j hj).2) k (by omega)
    obtain ⟨hcd, hc3, hc2⟩ := hc k (by omega)
    have e14 : s 14 u k = σ 14 u k := by rw [hs 14 (by decide)]
    have hk' : (k : Int) < s 13 u 0 := by rw [hs 13 (by decide), hL]; omega
    have ih := fun w s => e_workOut (d := d) hL h60 hc hQ f (k + 1) (by omega) w s
    have eq : qrun P a b c (k + 1) = qstk P a b c (qrun P a b c k) k := rfl
    rw [eq] at ih
    unfold qstk at ih
    revert hq l1 ih
    generalize qrun P a b c k = st
    intro hq l1 ih
    have hn : st.length < 60 := by omega
    rcases hcd with ⟨h1, h2, h3⟩ | ⟨h1, h2, h3, h4⟩ | ⟨h1, h2⟩ | ⟨h1, h2⟩
    · rw [if_pos h1] at ih
      rw [w_num e14 (by omega) hk' (by omega) hn]
      refine ih _ _ (Fr_trans hs (Fr_up (by decide))) (qsk_top hq (fun j hj => by rw [xup_k hj]) (by rw [xup_s, h2]))
    · rw [if_neg (by omega), if_pos h1] at ih
      rw [w_name e14 h2 h3 h4 hk' (by omega) hn]
      refine ih _ _ (Fr_trans hs (Fr_up (by decide))) (qsk_top hq (fun j hj => by rw [xup_k hj]) (by rw [xup_s]))
    · rw [if_neg (by omega), if_neg (by omega), if_pos h1] at ih
      have := hc3 h1
      match st, l1, hq, ih, hn with
      | [], l1, hq, ih, hn => simp at l1; omega
      | x :: r, l1, hq, ih, hn =>
        rw [List.length_cons, w_deny e14 h2 hk' (by omega) (by rw [List.length_cons] at hn; omega), hq.1]
        refine ih _ _ (Fr_trans hs (Fr_up (by decide))) (qsk_top hq.2 (fun j hj => by rw [xup_k hj]) (by rw [xup_s]))
    · obtain ⟨-, -, -, n1, n2, n3⟩ := qneg h1
      have := hc2 n1 n2 n3
      rw [if_neg n1, if_neg n2, if_neg n3] at ih
      match st, l1, hq, ih, hn with
      | [], l1, hq, ih, hn => simp at l1; omega
      | [x], l1, hq, ih, hn => simp at l1; omega
      | y :: x :: r, l1, hq, ih, hn =>
        simp only [List.length_cons] at hn
        have e6 : s 15 u (r.length + 1) = y := hq.1
        rw [List.length_cons, List.length_cons, w_two e14 h1 h2 hk' (by omega) (by omega), hq.2.1, e6]
        refine ih _ _ (Fr_trans hs (Fr_up (by decide))) (qsk_top hq.2.2 (fun j hj => by rw [xup_k hj]) (by rw [xup_s]))
theorem v_ad {A k j : Nat} (h : A + (j + k) < 410) : xwr (xwr ((A : Int) + (j : Int)) + (k : Int)) = ((A + (j + k) : Nat) : Int) := by
  rw [xw (x := (A : Int) + (j : Int)) (by omega) (by omega), xw (by omega) (by omega)]
  omega
theorem v_num {d A n k : Nat} {s : xM} {Q : Int → xM → Prop} {w : xV} (hA : A + 120 < 410) (hz : s 41 0 (A + (1 + k)) = 1) (hk : (k : Int) < s 41 0 A) (hk60 : k < 60) (hn : n < 60) :
    Ev (d + 1) 171 4 [vR 40 0, vI (A : Int), vI (n : Int), vI (k : Int), w] [] s Q = Ev (d + 1) 171 4 [vR 40 0, vI (A : Int), vI ((n + 1 : Nat) : Int), vI ((k + 1 : Nat) : Int), vI 1] [] (xup s 51 0 n (s 41 0 (A + (61 + k)))) Q := by
  have e1 := v_ad (A := A) (k := k) (j := 1) (by omega)
  have e61 := v_ad (A := A) (k := k) (j := 61) (by omega)
  have e2 : ((n + 1 : Nat) : Int) = (n : Int) + 1 := rfl
  have e3 : ((k + 1 : Nat) : Int) = (k : Int) + 1 := rfl
  rw [b_M_works_4, e2, e3]
  have e1' : xwr (xwr ((A : Int) + 1) + (k : Int)) = ((A + (1 + k) : Nat) : Int) := e1
  have e61' : xwr (xwr ((A : Int) + 61) + (k : Int)) = ((A + (61 + k) : Nat) : Int) := e61
  simp only [e1', e61', Int.toNat_natCast, hz]
  simp (disch := omega) only [↓reduceIte, ↓if_pos, ↓if_neg, xin, xw]
theorem v_name {d A n k : Nat} {s : xM} {Q : Int → xM → Prop} {w : xV} {y : Int} (hA : A + 120 < 410) (hz : s 41 0 (A + (1 + k)) = 2) (hy : s 41 0 (A + (61 + k)) = y) (h0 : 0 ≤ y) (h2 : y ≤ 2) (hk : (k : Int) < s 41 0 A) (hk60 : k < 60) (hn : n < 60) :
    Ev (d + 1) 171 4 [vR 40 0, vI (A : Int), vI (n : Int), vI (k : Int), w] [] s Q = Ev (d + 1) 171 4 [vR 40 0, vI (A : Int), vI ((n + 1 : Nat) : Int), vI ((k + 1 : Nat) : Int), vI 2] [] (xup s 51 0 n (s 50 0 y.toNat)) Q := by
  have e1 : xwr (xwr ((A : Int) + 1) + (k : Int)) = ((A + (1 + k) : Nat) : Int) := v_ad (A := A) (k := k) (j := 1) (by omega)
  have e61 : xwr (xwr ((A : Int) + 61) + (k : Int)) = ((A + (61 + k) : Nat) : Int) := v_ad (A := A) (k := k) (j := 61) (by omega)
  have e2 : ((n + 1 : Nat) : Int) = (n : Int) + 1 := rfl
  have e3 : ((k + 1 : Nat) : Int) = (k : Int) + 1 := rfl
  rw [b_M_works_4, e2, e3]
  simp only [e1, e61, Int.toNat_natCast, hz, hy]
  simp (disch := omega) only [↓reduceIte, ↓if_pos, ↓if_neg, xin, xw]
theorem v_deny {d A m k : Nat} {s : xM} {Q : Int → xM → Prop} {w : xV} (hA : A + 120 < 410) (hz : s 41 0 (A + (1 + k)) = 3) (hk : (k : Int) < s 41 0 A) (hk60 : k < 60) (hn : m < 60) :
    Ev (d + 1) 171 4 [vR 40 0, vI (A : Int), vI ((m + 1 : Nat) : Int), vI (k : Int), w] [] s Q = Ev (d + 1) 171 4 [vR 40 0, vI (A : Int), vI ((m + 1 : Nat) : Int), vI ((k + 1 : Nat) : Int), vI 3] [] (xup s 51 0 m (if s 51 0 m = 0 then 1 else 0)) Q := by
  have e1 : xwr (xwr ((A : Int) + 1) + (k : Int)) = ((A + (1 + k) : Nat) : Int) := v_ad (A := A) (k := k) (j := 1) (by omega)
  have e2 : xwr (((m + 1 : Nat) : Int) - 1) = (m : Int) := by rw [xw (by omega) (by omega)]; omega
  have e3 : ((k + 1 : Nat) : Int) = (k : Int) + 1 := rfl
  rw [b_M_works_4, e3]
  by_cases hx : s 51 0 m = 0
  · simp only [e1, e2, Int.toNat_natCast, hz, hx, ↓reduceIte]
    simp (disch := omega) only [↓reduceIte, ↓if_pos, ↓if_neg, xin, xw]
  · simp only [e1, e2, Int.toNat_natCast, hz]
    simp (disch := omega) only [↓reduceIte, ↓if_pos, ↓if_neg, xin, xw]
theorem v_two {d A m k : Nat} {s : xM} {Q : Int → xM → Prop} {w : xV} {y : Int} (hA : A + 120 < 410) (hz : s 41 0 (A + (1 + k)) = y) (hy : xop y) (hk : (k : Int) < s 41 0 A) (hk60 : k < 60) (hn : m + 1 < 60) :
    Ev (d + 1) 171 4 [vR 40 0, vI (A : Int), vI ((m + 2 : Nat) : Int), vI (k : Int), w] [] s Q = Ev (d + 1) 171 4 [vR 40 0, vI (A : Int), vI ((m + 1 : Nat) : Int), vI ((k + 1 : Nat) : Int), vI y] [] (xup s 51 0 m (qtwo y (s 51 0 m) (s 51 0 (m + 1)))) Q := by
  have e1 : xwr (xwr ((A : Int) + 1) + (k : Int)) = ((A + (1 + k) : Nat) : Int) := v_ad (A := A) (k := k) (j := 1) (by omega)
  have e2 : xwr (((m + 2 : Nat) : Int) + -1) = ((m + 1 : Nat) : Int) := by rw [xw (by omega) (by omega)]; omega
  have e4 : xwr (((m + 1 : Nat) : Int) - 1) = (m : Int) := by rw [xw (by omega) (by omega)]; omega
  have e3 : ((k + 1 : Nat) : Int) = (k : Int) + 1 := rfl
  obtain ⟨-, -, -, n1, n2, n3⟩ := qneg hy
  rw [b_M_works_4, e3]
  simp only [e1, e2, e4, Int.toNat_natCast, hz]
  simp (disch := omega) only [↓reduceIte, ↓if_pos, ↓if_neg, xin, e_twoOf hy, xw]
/-- the reference works a text out -/
theorem m_works {d A : Nat} {σ : xM} {Q : Int → xM → Prop} {a b c : Int} {P : Nat → Int} {L : Nat} (hA : A + 120 < 410) (hP : ∀ j, P j = σ 41 0 (A + j)) (hL : P 0 = (L : Int)) (h60 : L ≤ 60) (f0 : σ 50 0 0 = a) (f1 : σ 50 0 1 = b) (f2 : σ 50 0 2 = c)
    (hc : ∀ k : Nat, k < L → (P (1 + k) = 1 ∨ (P (1 + k) = 2 ∧ 0 ≤ P (61 + k) ∧ P (61 + k) ≤ 2) ∨ P (1 + k) = 3 ∨ xop (P (1 + k))) ∧ (P (1 + k) = 3 → 1 ≤ xdep P k) ∧ (P (1 + k) ≠ 1 → P (1 + k) ≠ 2 → P (1 + k) ≠ 3 → 2 ≤ xdep P k)) (hd : xdep P L = 1) (hQ : ∀ s, Fr [51] σ s → Q (qval (qrun P a b c L)) s) :
    ∀ f k : Nat, k + f = L → ∀ (w : xV) (s : xM), Fr [51] σ s → qsk (s 51 0) (qrun P a b c k) → Ev (d + 1) 171 4 [vR 40 0, vI (A : Int), vI ((qrun P a b c k).length : Int), vI (k : Int), w] [] s Q
  | 0, k, hk, w, s, hs, hq => by
    have hk : k = L := hk
    subst hk
    have l1 := (qdep (a := a) (b := b) (c := c) (fun j hj => (hc j hj).2) k (Nat.le_refl _)).1
    have e0 : s 41 0 A = (k : Int) := by rw [hs 41 (by decide), ← hL, hP]; rfl
    rw [b_M_works_4, xin (by omega) (by omega), Int.toNat_natCast, e0, if_neg (by omega), xin (by decide) (by decide)]
    have hv := hQ s hs
    revert hq l1 hv
    generalize qrun P a b c k = st
    intro hq l1 hv
    match st, l1, hq, hv with
    | [], l1, hq, hv => simp at l1; omega
    | [x], l1, hq, hv =>
      have e : s 51 0 (Int.toNat 0) = x := hq.1
      rw [e]
      exact hv
    | x :: y :: r, l1, hq, hv => simp at l1; omega
  | f + 1, k, hk, w, s, hs, hq => by
    have l1 := qdep (a := a) (b := b) (c := c) (fun j hj => (hc j hj).2) k (by omega)
    obtain ⟨hcd, hc3, hc2⟩ := hc k (by omega)
    have e41 : ∀ j, s 41 0 (A + j) = P j := fun j => by rw [hs 41 (by decide), hP]
    have hk' : (k : Int) < s 41 0 A := by have := e41 0; rw [Nat.add_zero] at this; rw [this, hL]; omega
    have ih := fun w s => m_works (d := d) hA hP hL h60 f0 f1 f2 hc hd hQ f (k + 1) (by omega) w s
    have eq : qrun P a b c (k + 1) = qstk P a b c (qrun P a b c k) k := rfl
    rw [eq] at ih
    unfold qstk at ih
    revert hq l1 ih
    generalize qrun P a b c k = st
    intro hq l1 ih
    have hn : st.length < 60 := by omega
    rcases hcd with h1 | ⟨h1, h2, h3⟩ | h1 | h1
    · rw [if_pos h1] at ih
      rw [v_num hA (by rw [e41, h1]) hk' (by omega) hn, e41]
      refine ih _ _ (Fr_trans hs (Fr_up (by decide))) (qsk_top hq (fun j hj => by rw [xup_k hj]) (by rw [xup_s]))
    · rw [if_neg (by omega), if_pos h1] at ih
      rw [v_name hA (by rw [e41, h1]) (e41 _) h2 h3 hk' (by omega) hn]
      refine ih _ _ (Fr_trans hs (Fr_up (by decide))) (qsk_top hq (fun j hj => by rw [xup_k hj]) ?_)
      rw [xup_s, hs 50 (by decide)]
      unfold qfact
      generalize P (61 + k) = y at h2 h3
      have : y = 0 ∨ y = 1 ∨ y = 2 := by omega
      rcases this with e | e | e <;> subst e
      · exact f0
      · exact f1
      · exact f2
    · rw [if_neg (by omega), if_neg (by omega), if_pos h1] at ih
      have := hc3 h1
      match st, l1, hq, ih, hn with
      | [], l1, hq, ih, hn => simp at l1; omega
      | x :: r, l1, hq, ih, hn =>
        rw [List.length_cons, v_deny hA (by rw [e41, h1]) hk' (by omega) (by rw [List.length_cons] at hn; omega), hq.1]
        refine ih _ _ (Fr_trans hs (Fr_up (by decide))) (qsk_top hq.2 (fun j hj => by rw [xup_k hj]) (by rw [xup_s]))
    · obtain ⟨-, -, -, n1, n2, n3⟩ := qneg h1
      have := hc2 n1 n2 n3
      rw [if_neg n1, if_neg n2, if_neg n3] at ih
      match st, l1, hq, ih, hn with
      | [], l1, hq, ih, hn => simp at l1; omega
      | [x], l1, hq, ih, hn => simp at l1; omega
      | y :: x :: r, l1, hq, ih, hn =>
        simp only [List.length_cons] at hn
        have e6 : s 51 0 (r.length + 1) = y := hq.1
        rw [List.length_cons, List.length_cons, v_two hA (e41 _) h1 hk' (by omega) (by omega), hq.2.1, e6]
        refine ih _ _ (Fr_trans hs (Fr_up (by decide))) (qsk_top hq.2.2 (fun j hj => by rw [xup_k hj]) (by rw [xup_s]))
end
section
/-! what both sides read -/
def Kp (σ : xM) (R : Nat → Int) : Prop := xvl R ∧ xcpl σ 0 R
theorem Inv_Kp {σ : xM} (h : Inv σ) : Kp σ (σ 41 0) := ⟨h.1, h.2.1⟩
theorem Kp_Fr {σ s : xM} {R : Nat → Int} {l : List Nat} (h : Kp σ R) (hf : Fr l σ s) (hl : ∀ t, t = 5 ∨ t = 7 ∨ t = 9 ∨ t = 10 ∨ t = 11 ∨ t = 13 ∨ t = 14 ∨ t = 16 → t ∉ l) : Kp s R :=
  ⟨h.1, xcpl_cg h.2 (hf 5 (hl 5 (by simp))) (hf 7 (hl 7 (by simp))) (hf 9 (hl 9 (by simp))) (hf 10 (hl 10 (by simp))) (hf 11 (hl 11 (by simp))) (hf 13 (hl 13 (by simp))) (hf 14 (hl 14 (by simp))) (hf 16 (hl 16 (by simp)))⟩
theorem Kp_sc {σ s : xM} {R : Nat → Int} {l : List Nat} (h : Kp σ R) (hf : Fr l σ s) (hl : [5, 7, 9, 10, 11, 13, 14, 16].all (fun t => !l.elem t) = true) : Kp s R := Kp_Fr h hf (fun t ht hm => by
  have := List.all_eq_true.mp hl t (by rcases ht with e | e | e | e | e | e | e | e <;> subst e <;> decide)
  simp at this
  exact this hm)
theorem Kp_parts {σ : xM} {R : Nat → Int} (h : Kp σ R) : σ 5 0 0 = R 2 := h.2.1.1
theorem Kp_chn {σ : xM} {R : Nat → Int} (h : Kp σ R) : σ 5 0 1 = R 3 := h.2.1.2.1
theorem Kp_year {σ : xM} {R : Nat → Int} (h : Kp σ R) : σ 5 0 2 = R 0 := h.2.1.2.2.1
theorem Kp_kind {σ : xM} {R : Nat → Int} (h : Kp σ R) {p : Nat} (hp : p < 7) : σ 7 p 0 = R (7 + 2 * p) := (h.2.2.1 p hp).1
theorem Kp_m {σ : xM} {R : Nat → Int} (h : Kp σ R) {p : Nat} (hp : p < 7) : σ 7 p 1 = R (7 + 2 * p + 1) := (h.2.2.1 p hp).2
theorem Kp_ch {σ : xM} {R : Nat → Int} (h : Kp σ R) {c : Nat} (hc : c < 7) {k : Nat} (hk : k < 6) : σ 9 c k = R (21 + 9 * c + k) := h.2.2.2.1 c hc k hk
theorem Kp_wi {σ : xM} {R : Nat → Int} (h : Kp σ R) {c : Nat} (hc : c < 7) {k : Nat} (hk : k < 3) : σ 10 c k = R (21 + 9 * c + (6 + k)) := h.2.2.2.2.1 c hc k hk
theorem xvl_p {R : Nat → Int} (h : xvl R) : ∃ n : Nat, R 2 = (n : Int) ∧ n ≤ 7 := ⟨(R 2).toNat, by have := h.1; omega, by have := h.1; omega⟩
theorem xvl_c {R : Nat → Int} (h : xvl R) : ∃ n : Nat, R 3 = (n : Int) ∧ n ≤ 7 := ⟨(R 3).toNat, by have := h.2.1; omega, by have := h.2.1; omega⟩
theorem xvl_c7 {R : Nat → Int} (h : xvl R) {c : Nat} (hc : (c : Int) < R 3) : c < 7 := by have := h.2.1; omega
theorem xvl_p7 {R : Nat → Int} (h : xvl R) {c : Nat} (hc : (c : Int) < R 2) : c < 7 := by have := h.1; omega
/-- the reference's small readers -/
theorem e_of0 {d p : Nat} {σ : xM} {Q : Int → xM → Prop} (h : p < 7) : Ev d 134 0 [vR 40 0, vI (p : Int), vI 0] [] σ Q = Q (σ 41 0 (7 + 2 * p)) σ := by
  rw [b_M_of_0, show xwr (xwr (7 + xwr (2 * (p : Int))) + 0) = ((7 + 2 * p : Nat) : Int) from by rw [xw (x := 2 * (p : Int)) (by omega) (by omega), xw (x := 7 + 2 * (p : Int)) (by omega) (by omega), xw (by omega) (by omega)]; omega, xin (by omega) (by omega), Int.toNat_natCast]
theorem e_of1 {d p : Nat} {σ : xM} {Q : Int → xM → Prop} (h : p < 7) : Ev d 134 0 [vR 40 0, vI (p : Int), vI 1] [] σ Q = Q (σ 41 0 (7 + 2 * p + 1)) σ := by
  rw [b_M_of_0, show xwr (xwr (7 + xwr (2 * (p : Int))) + 1) = ((7 + 2 * p + 1 : Nat) : Int) from by rw [xw (x := 2 * (p : Int)) (by omega) (by omega), xw (x := 7 + 2 * (p : Int)) (by omega) (by omega), xw (by omega) (by omega)]; omega, xin (by omega) (by omega), Int.toNat_natCast]
theorem xchx {c k : Nat} (hc : c < 7) (hk : k < 9) : xwr (xwr (21 + xwr (9 * (c : Int))) + (k : Int)) = ((21 + 9 * c + k : Nat) : Int) := by
  rw [xw (x := 9 * (c : Int)) (by omega) (by omega), xw (x := 21 + 9 * (c : Int)) (by omega) (by omega), xw (by omega) (by omega)]
  omega
theorem e_ab {d c k : Nat} {σ : xM} {Q : Int → xM → Prop} (hc : c < 7) (hk : k < 9) : Ev d 135 0 [vR 40 0, vI (c : Int), vI (k : Int)] [] σ Q = Q (σ 41 0 (21 + 9 * c + k)) σ := by
  rw [b_M_about_0, xchx hc hk, xin (by omega) (by omega), Int.toNat_natCast]
theorem e_ab0 {d c : Nat} {σ : xM} {Q : Int → xM → Prop} (hc : c < 7) : Ev d 135 0 [vR 40 0, vI (c : Int), vI 0] [] σ Q = Q (σ 41 0 (21 + 9 * c + 0)) σ := e_ab (k := 0) hc (by decide)
theorem e_ab1 {d c : Nat} {σ : xM} {Q : Int → xM → Prop} (hc : c < 7) : Ev d 135 0 [vR 40 0, vI (c : Int), vI 1] [] σ Q = Q (σ 41 0 (21 + 9 * c + 1)) σ := e_ab (k := 1) hc (by decide)
theorem e_ab2 {d c : Nat} {σ : xM} {Q : Int → xM → Prop} (hc : c < 7) : Ev d 135 0 [vR 40 0, vI (c : Int), vI 2] [] σ Q = Q (σ 41 0 (21 + 9 * c + 2)) σ := e_ab (k := 2) hc (by decide)
theorem e_ab3 {d c : Nat} {σ : xM} {Q : Int → xM → Prop} (hc : c < 7) : Ev d 135 0 [vR 40 0, vI (c : Int), vI 3] [] σ Q = Q (σ 41 0 (21 + 9 * c + 3)) σ := e_ab (k := 3) hc (by decide)
theorem e_ab4 {d c : Nat} {σ : xM} {Q : Int → xM → Prop} (hc : c < 7) : Ev d 135 0 [vR 40 0, vI (c : Int), vI 4] [] σ Q = Q (σ 41 0 (21 + 9 * c + 4)) σ := e_ab (k := 4) hc (by decide)
theorem e_ab5 {d c : Nat} {σ : xM} {Q : Int → xM → Prop} (hc : c < 7) : Ev d 135 0 [vR 40 0, vI (c : Int), vI 5] [] σ Q = Q (σ 41 0 (21 + 9 * c + 5)) σ := e_ab (k := 5) hc (by decide)
theorem e_lets {d c k : Nat} {σ : xM} {Q : Int → xM → Prop} {v : Int} (hc : c < 7) (hk : k < 9) : Ev d 136 0 [vR 40 0, vI (c : Int), vI (k : Int), vI v] [] σ Q = Q 0 (xup σ 41 0 (21 + 9 * c + k) v) := by
  rw [b_M_lets_0, xchx hc hk, xin (by omega) (by omega), Int.toNat_natCast]
theorem e_lets4 {d c : Nat} {σ : xM} {Q : Int → xM → Prop} {v : Int} (hc : c < 7) : Ev d 136 0 [vR 40 0, vI (c : Int), vI 4, vI v] [] σ Q = Q 0 (xup σ 41 0 (21 + 9 * c + 4) v) := e_lets (k := 4) hc (by decide)
theorem e_lets5 {d c : Nat} {σ : xM} {Q : Int → xM → Prop} {v : Int} (hc : c < 7) : Ev d 136 0 [vR 40 0, vI (c : Int), vI 5, vI v] [] σ Q = Q 0 (xup σ 41 0 (21 + 9 * c + 5) v) := e_lets (k := 5) hc (by decide)
/-- who may play -/
def qmay (i v s y k m : Int) : Int :=
  if i = 0 then (if k = 1 then (if v < m then 0 else 1) else if k = 2 then (if m < s then 0 else 1) else if k = 3 then 1 else if k = 4 then (if v < m then 0 else if y = 0 then 1 else 0)
    else if k = 5 then (if m < s then 0 else if m / 2 < s then 1 else 0) else if k = 6 then (if y = 1 then 1 else if 4 < m then 1 else 0) else 1) else 0
def qmy (R : Nat → Int) (c p : Nat) : Int := qmay (R (21 + 9 * c + 3)) (R (21 + 9 * c + 0)) (R (21 + 9 * c + 1)) (R (21 + 9 * c + 2)) (R (7 + 2 * p)) (R (7 + 2 * p + 1))
theorem qmy01 (R : Nat → Int) (c p : Nat) : qmy R c p = 0 ∨ qmy R c p = 1 := by
  unfold qmy qmay
  repeat' split
  all_goals first | exact Or.inl rfl | exact Or.inr rfl
theorem xhalf {m : Int} (h : 0 ≤ m ∧ m ≤ 9) : xwr (Int.tdiv m 2) = m / 2 := by
  rw [Int.tdiv_eq_ediv_of_nonneg h.1, xw (by omega) (by omega)]
theorem e_may {d c p : Nat} {σ : xM} {R : Nat → Int} {Q : Int → xM → Prop} (h : Kp σ R) (hc : (c : Int) < R 3) (hp : (p : Int) < R 2) : Ev (d + 1) 50 0 [vR 5 0, vI (c : Int), vI (p : Int)] [] σ Q = Q (qmy R c p) σ := by
  have c7 := xvl_c7 h.1 hc
  have p7 := xvl_p7 h.1 hp
  have hm := (h.1.2.2.2.2.2.2.1 p hp).2
  rw [b_S_mayPlay_0, xin (by omega) (by omega), xin (by omega) (by omega), Int.toNat_natCast, Int.toNat_natCast, b_R_suits_0, Kp_ch h c7 (by decide), Kp_ch h c7 (by decide), Kp_ch h c7 (by decide), Kp_ch h c7 (by decide), Kp_kind h p7, Kp_m h p7, xhalf hm]
  simp only [↓xz0, ↓xz1, ↓xne2, xiteQ (Q := Q) (σ := σ)]
  rfl
theorem m_may {d c p : Nat} {σ : xM} {Q : Int → xM → Prop} (h : xvl (σ 41 0)) (hc : (c : Int) < σ 41 0 3) (hp : (p : Int) < σ 41 0 2) : Ev (d + 1) 137 0 [vR 40 0, vI (c : Int), vI (p : Int), vR 0 0, vR 0 0] [] σ Q = Q (qmy (σ 41 0) c p) σ := by
  have c7 := xvl_c7 h hc
  have p7 := xvl_p7 h hp
  have hm := (h.2.2.2.2.2.2.1 p hp).2
  have hi := (h.2.2.2.2.2.2.2.1 c hc).2.2.2.1
  rw [b_M_mayPlay_0]
  simp only [e_of0 p7, e_of1 p7, e_ab0 c7, e_ab1 c7, e_ab2 c7, e_ab3 c7, xhalf hm, ↓xz0, ↓xz1, ↓xne2, xiteQ (Q := Q) (σ := σ)]
  unfold qmy qmay
  rcases hi with hi | hi <;> rw [hi] <;> rfl
def qln (k m y : Int) : Int :=
  if k = 0 then m else if k = 1 then 2 * m + 1 else if k = 2 then m / 2 else if k = 3 then 0 else if k = 4 then 2 * m + 1 + Int.tmod y 3 else if k = 5 then m / 2 + 1 else 0
theorem xmod3 {y : Int} (h : 0 ≤ y) : 0 ≤ Int.tmod y 3 ∧ Int.tmod y 3 < 3 := by
  rw [Int.tmod_eq_emod_of_nonneg h]
  omega
theorem xlin {m y : Int} (hm : 0 ≤ m ∧ m ≤ 9) (hy : 0 ≤ y) : xwr (xwr (2 * m) + 1) = 2 * m + 1 ∧ xwr (2 * m + 1 + Int.tmod y 3) = 2 * m + 1 + Int.tmod y 3 ∧ xwr (m / 2 + 1) = m / 2 + 1 := by
  have := xmod3 hy
  refine ⟨?_, xw (by omega) (by omega), xw (by omega) (by omega)⟩
  rw [xw (x := 2 * m) (by omega) (by omega), xw (by omega) (by omega)]
theorem xne3 {P : Prop} : ((3 : Int) ≠ 0 ∧ P) = P := by simp
theorem xne7i {P : Prop} : ((7 : Int) ≠ 0 ∧ P) = P := by simp
theorem e_lines {d p : Nat} {σ : xM} {R : Nat → Int} {Q : Int → xM → Prop} (h : Kp σ R) (hp : (p : Int) < R 2) : Ev d 69 0 [vR 7 p, vI (R 0)] [] σ Q = Q (qln (R (7 + 2 * p)) (R (7 + 2 * p + 1)) (R 0)) σ := by
  have p7 := xvl_p7 h.1 hp
  have hm := (h.1.2.2.2.2.2.2.1 p hp).2
  obtain ⟨l1, l2, l3⟩ := xlin hm h.1.2.2.1.1
  rw [b_R_lines_0, Kp_kind h p7, Kp_m h p7, xhalf hm, l1, l2, l3]
  simp only [xne2, xne3, xiteQ (Q := Q) (σ := σ)]
  rfl
theorem m_lines {d p : Nat} {σ : xM} {Q : Int → xM → Prop} (h : xvl (σ 41 0)) (hp : (p : Int) < σ 41 0 2) : Ev (d + 1) 138 0 [vR 40 0, vI (p : Int), vR 0 0] [] σ Q = Q (qln (σ 41 0 (7 + 2 * p)) (σ 41 0 (7 + 2 * p + 1)) (σ 41 0 0)) σ := by
  have p7 := xvl_p7 h hp
  obtain ⟨hk, hm⟩ := h.2.2.2.2.2.2.1 p hp
  obtain ⟨l1, l2, l3⟩ := xlin hm h.2.2.1.1
  rw [b_M_linesOf_0]
  simp only [e_of0 p7, e_of1 p7, xhalf hm, l1, show Int.toNat 0 = 0 from rfl, l2, l3, xne2, xne3, xin (x := 0) (n := 410) (by decide) (by decide), xiteQ (Q := Q) (σ := σ)]
  congr 1
  unfold qln
  generalize σ 41 0 (7 + 2 * p) = k at hk
  have : k = 0 ∨ k = 1 ∨ k = 2 ∨ k = 3 ∨ k = 4 ∨ k = 5 ∨ k = 6 := by omega
  rcases this with e | e | e | e | e | e | e <;> subst e <;> rfl
/-- who has it -/
def qwho (R : Nat → Int) (p : Int) : Nat → Nat → Int
  | 0, _ => -1
  | f + 1, c => if R (21 + 9 * c + 5) = p then (c : Int) else qwho R p f (c + 1)
theorem qwho_rg {R : Nat → Int} {p : Int} : ∀ {f c : Nat}, qwho R p f c = -1 ∨ ∃ j : Nat, qwho R p f c = (j : Int) ∧ c ≤ j ∧ j < c + f ∧ R (21 + 9 * j + 5) = p
  | 0, c => Or.inl rfl
  | f + 1, c => by
    unfold qwho
    by_cases h : R (21 + 9 * c + 5) = p
    · rw [if_pos h]
      exact Or.inr ⟨c, rfl, by omega, by omega, h⟩
    · rw [if_neg h]
      rcases qwho_rg (R := R) (p := p) (f := f) (c := c + 1) with e | ⟨j, e, h1, h2, h3⟩
      · exact Or.inl e
      · exact Or.inr ⟨j, e, by omega, by omega, h3⟩
theorem qwho_no {R : Nat → Int} {p : Int} : ∀ {f c : Nat}, qwho R p f c = -1 → ∀ j, c ≤ j → j < c + f → R (21 + 9 * j + 5) ≠ p
  | 0, c, _, j, h1, h2 => by omega
  | f + 1, c, h, j, h1, h2 => by
    unfold qwho at h
    by_cases e : R (21 + 9 * c + 5) = p
    · rw [if_pos e] at h
      omega
    · rw [if_neg e] at h
      by_cases hj : j = c
      · rw [hj]
        exact e
      · exact qwho_no h j (by omega) (by omega)
theorem e_who {d : Nat} {σ : xM} {R : Nat → Int} {Q : Int → xM → Prop} {p : Int} {n : Nat} (h : Kp σ R) (hn : R 3 = (n : Int)) : ∀ f c : Nat, c + f = n → Ev d 51 2 [vR 5 0, vI p, vI (c : Int)] [] σ Q = Q (qwho R p f c) σ
  | 0, c, e => by
    rw [b_S_holderOf_2, Kp_chn h, hn, if_neg (by omega)]
    rfl
  | f + 1, c, e => by
    have c7 := xvl_c7 h.1 (show (c : Int) < R 3 by omega)
    rw [b_S_holderOf_2, Kp_chn h, hn, if_pos (by omega), xin (by omega) (by omega), Int.toNat_natCast, Kp_ch h c7 (by decide), xw (by omega) (by omega), show (c : Int) + 1 = ((c + 1 : Nat) : Int) from rfl, e_who h hn f (c + 1) (by omega)]
    show _ = Q (if R (21 + 9 * c + 5) = p then (c : Int) else qwho R p f (c + 1)) σ
    split <;> rfl
theorem m_who {d : Nat} {σ : xM} {Q : Int → xM → Prop} {p : Int} {n : Nat} (hn : σ 41 0 3 = (n : Int)) (h7 : n ≤ 7) : ∀ f c : Nat, c + f = n → Ev (d + 1) 143 2 [vR 40 0, vI p, vI (c : Int)] [] σ Q = Q (qwho (σ 41 0) p f c) σ
  | 0, c, e => by
    rw [b_M_whoHas_2, xin (by decide) (by decide), show Int.toNat 3 = 3 from rfl, hn, if_neg (by omega)]
    rfl
  | f + 1, c, e => by
    rw [b_M_whoHas_2, xin (by decide) (by decide), show Int.toNat 3 = 3 from rfl, hn, if_pos (by omega), e_ab5 (by omega), xw (by omega) (by omega), show (c : Int) + 1 = ((c + 1 : Nat) : Int) from rfl, m_who hn h7 f (c + 1) (by omega)]
    show _ = Q (if σ 41 0 (21 + 9 * c + 5) = p then (c : Int) else qwho (σ 41 0) p f (c + 1)) σ
    split <;> rfl
/-- how dear -/
def qdr (R : Nat → Int) (c : Nat) (p : Int) : Int := if R (21 + 9 * c + (6 + 0)) = p then 3 else if R (21 + 9 * c + (6 + 1)) = p then 2 else if R (21 + 9 * c + (6 + 2)) = p then 1 else 0
theorem qdr_rg (R : Nat → Int) (c : Nat) (p : Int) : 0 ≤ qdr R c p ∧ qdr R c p ≤ 3 := by
  unfold qdr
  repeat' split
  all_goals decide
theorem e_dear {d c : Nat} {σ : xM} {R : Nat → Int} {Q : Int → xM → Prop} {p : Int} (h : Kp σ R) (hc : c < 7) : Ev d 74 0 [vR 9 c, vI p, vR 0 0] [] σ Q = Q (qdr R c p) σ := by
  rw [b_C_dear_0, b_C_dear_2, show xwr (0 + 1) = 1 from by decide, b_C_dear_2, show xwr (1 + 1) = 2 from by decide, b_C_dear_2, show xwr (2 + 1) = 3 from by decide, b_C_dear_2]
  rw [if_pos (show (0 : Int) < 3 by decide), if_pos (show (1 : Int) < 3 by decide), if_pos (show (2 : Int) < 3 by decide), if_neg (show ¬ (3 : Int) < 3 by decide), xin (by decide) (by decide), xin (by decide) (by decide), xin (by decide) (by decide), show Int.toNat 0 = 0 from rfl, show Int.toNat 1 = 1 from rfl, show Int.toNat 2 = 2 from rfl, Kp_wi h hc (by decide), Kp_wi h hc (by decide), Kp_wi h hc (by decide)]
  rw [show xwr (3 - 0) = 3 from by decide, show xwr (3 - 1) = 2 from by decide, show xwr (3 - 2) = 1 from by decide]
  simp only [xiteQ (Q := Q) (σ := σ)]
  rfl
theorem m_dear {d c : Nat} {σ : xM} {Q : Int → xM → Prop} {p : Int} (hc : c < 7) : Ev (d + 1) 139 0 [vR 40 0, vI (c : Int), vI p, vR 0 0] [] σ Q = Q (qdr (σ 41 0) c p) σ := by
  have a0 : ∀ {d : Nat} {Q : Int → xM → Prop}, Ev d 135 0 [vR 40 0, vI (c : Int), vI (xwr (6 + 0))] [] σ Q = Q (σ 41 0 (21 + 9 * c + (6 + 0))) σ := fun {d Q} => by rw [show xwr (6 + 0) = ((6 + 0 : Nat) : Int) from by decide, e_ab hc (by decide)]
  have a1 : ∀ {d : Nat} {Q : Int → xM → Prop}, Ev d 135 0 [vR 40 0, vI (c : Int), vI (xwr (6 + 1))] [] σ Q = Q (σ 41 0 (21 + 9 * c + (6 + 1))) σ := fun {d Q} => by rw [show xwr (6 + 1) = ((6 + 1 : Nat) : Int) from by decide, e_ab hc (by decide)]
  have a2 : ∀ {d : Nat} {Q : Int → xM → Prop}, Ev d 135 0 [vR 40 0, vI (c : Int), vI (xwr (6 + 2))] [] σ Q = Q (σ 41 0 (21 + 9 * c + (6 + 2))) σ := fun {d Q} => by rw [show xwr (6 + 2) = ((6 + 2 : Nat) : Int) from by decide, e_ab hc (by decide)]
  rw [b_M_dearTo_0, b_M_dearTo_2, if_pos (show (0 : Int) < 3 by decide), a0, show xwr (0 + 1) = 1 from by decide, b_M_dearTo_2, if_pos (show (1 : Int) < 3 by decide), a1, show xwr (1 + 1) = 2 from by decide, b_M_dearTo_2, if_pos (show (2 : Int) < 3 by decide), a2, show xwr (2 + 1) = 3 from by decide, b_M_dearTo_2, if_neg (show ¬ (3 : Int) < 3 by decide)]
  rw [show xwr (3 - 0) = 3 from by decide, show xwr (3 - 1) = 2 from by decide, show xwr (3 - 2) = 1 from by decide]
  simp only [xiteQ (Q := Q) (σ := σ)]
  rfl
/-- what a use gives -/
def qP (R : Nat → Int) (u : Nat) : Nat → Int := fun k => R (168 + 121 * u + k)
def qg0 (P : Nat → Int) (a b c : Int) : Int := qheld (if 0 < P 0 then qval (qrun P a b c (P 0).toNat) else xwr (10 * a)) 0 99
def qg1 (P : Nat → Int) (a b c : Int) : Int := qheld (if 0 < P 0 then qval (qrun P a b c (P 0).toNat) else a) (-99) 99
def qtk (P : Nat → Int) : Prop := (0 ≤ P 0 ∧ P 0 ≤ 60) ∧ (∀ k : Nat, (k : Int) < P 0 → (P (1 + k) = 1 ∨ (P (1 + k) = 2 ∧ 0 ≤ P (61 + k) ∧ P (61 + k) ≤ 2) ∨ P (1 + k) = 3 ∨ xop (P (1 + k))) ∧ (P (1 + k) = 3 → 1 ≤ xdep P k) ∧ (P (1 + k) ≠ 1 → P (1 + k) ≠ 2 → P (1 + k) ≠ 3 → 2 ≤ xdep P k)) ∧ (0 < P 0 → xdep P (P 0).toNat = 1)
theorem xtx_tk {len : Int} {cs P : Nat → Int} (h : xtx len cs P) : qtk P := by
  obtain ⟨h1, h2, h3, h4, h5⟩ := h
  refine ⟨by omega, fun k hk => ?_, fun hp => by rw [h1]; exact h5 (by omega)⟩
  obtain ⟨g1, g2⟩ := h4 k (by omega)
  refine ⟨?_, g2⟩
  rcases g1 with ⟨g, -⟩ | ⟨g, ga, gb, -⟩ | ⟨g, -⟩ | ⟨g, -⟩
  · exact Or.inl g
  · exact Or.inr (Or.inl ⟨g, ga, gb⟩)
  · exact Or.inr (Or.inr (Or.inl g))
  · exact Or.inr (Or.inr (Or.inr g))
theorem e_given0 {d : Nat} {σ : xM} {R : Nat → Int} {Q : Int → xM → Prop} {a b c : Int} (h : Kp σ R) (hQ : ∀ s, Fr [15] σ s → Q (qg0 (qP R 0) a b c) s) : Ev (d + 2) 54 0 [vR 5 0, vI 0, vI a, vI b, vI c, vR 0 0] [] σ Q := by
  obtain ⟨x1, x2, x3, x4, x5⟩ := h.2.2.2.2.2.2.2 0 (by decide)
  have e13 : σ 13 0 0 = qP R 0 0 := x1.symm
  rw [b_S_given_0, xin (by decide) (by decide), show Int.toNat 0 = 0 from rfl]
  by_cases hp : 0 < σ 13 0 0
  · have hL : σ 13 0 0 = ((σ 13 0 0).toNat : Int) := by omega
    have x3' : σ 13 0 0 ≤ 60 := x3
    rw [if_pos hp, if_pos rfl, if_neg (by decide), xin (by decide) (by decide), b_T_workOut_0]
    refine e_workOut (P := qP R 0) hL (by omega) (fun k hk => x4 k (by show (k : Int) < σ 13 0 0; omega)) (fun s hs => ?_) (σ 13 0 0).toNat 0 (by omega) _ _ Fr_refl trivial
    rw [e_Pheld (by decide)]
    have := hQ s hs
    unfold qg0 at this
    rw [← e13, if_pos hp] at this
    exact this
  · rw [if_neg hp, if_pos rfl, if_pos rfl, e_Pheld (by decide)]
    have := hQ σ Fr_refl
    unfold qg0 at this
    rw [← e13, if_neg hp] at this
    exact this
theorem e_given1 {d : Nat} {σ : xM} {R : Nat → Int} {Q : Int → xM → Prop} {a b c : Int} (h : Kp σ R) (hQ : ∀ s, Fr [15] σ s → Q (qg1 (qP R 1) a b c) s) : Ev (d + 2) 54 0 [vR 5 0, vI 1, vI a, vI b, vI c, vR 0 0] [] σ Q := by
  obtain ⟨x1, x2, x3, x4, x5⟩ := h.2.2.2.2.2.2.2 1 (by decide)
  have e13 : σ 13 1 0 = qP R 1 0 := x1.symm
  rw [b_S_given_0, xin (by decide) (by decide), show Int.toNat 1 = 1 from rfl]
  by_cases hp : 0 < σ 13 1 0
  · have hL : σ 13 1 0 = ((σ 13 1 0).toNat : Int) := by omega
    have x3' : σ 13 1 0 ≤ 60 := x3
    rw [if_pos hp, if_neg (by decide), if_neg (by decide), xin (by decide) (by decide), b_T_workOut_0]
    refine e_workOut (P := qP R 1) hL (by omega) (fun k hk => x4 k (by show (k : Int) < σ 13 1 0; omega)) (fun s hs => ?_) (σ 13 1 0).toNat 0 (by omega) _ _ Fr_refl trivial
    rw [e_Pheld (by decide)]
    have := hQ s hs
    unfold qg1 at this
    rw [← e13, if_pos hp] at this
    exact this
  · rw [if_neg hp, if_neg (by decide), if_pos rfl, e_Pheld (by decide)]
    have := hQ σ Fr_refl
    unfold qg1 at this
    rw [← e13, if_neg hp] at this
    exact this
theorem m_gives0 {d : Nat} {σ : xM} {Q : Int → xM → Prop} {a b c : Int} (h : qtk (qP (σ 41 0) 0)) (hQ : ∀ s, Fr [50, 51] σ s → Q (qg0 (qP (σ 41 0) 0) a b c) s) : Ev (d + 2) 172 0 [vR 40 0, vI 0, vI a, vI b, vI c, vR 0 0, vR 0 0] [] σ Q := by
  obtain ⟨x1, x4, x5⟩ := h
  rw [b_M_gives_0, xin (by decide) (by decide), xin (by decide) (by decide), xin (by decide) (by decide), show xwr (168 + xwr (121 * 0)) = ((168 : Nat) : Int) from by decide, xin (by decide) (by decide), Int.toNat_natCast, show Int.toNat 0 = 0 from rfl, show Int.toNat 1 = 1 from rfl, show Int.toNat 2 = 2 from rfl]
  obtain ⟨τ, hτ⟩ : ∃ τ, τ = xup (xup (xup σ 50 0 0 a) 50 0 1 b) 50 0 2 c := ⟨_, rfl⟩
  rw [← hτ]
  have hf : Fr [50] σ τ := by rw [hτ]; exact Fr_trans (Fr_trans (Fr_up (by decide)) (Fr_up (by decide))) (Fr_up (by decide))
  have e41 : τ 41 = σ 41 := hf 41 (by decide)
  have e0 : τ 41 0 168 = qP (σ 41 0) 0 0 := by rw [e41]; rfl
  by_cases hp : 0 < τ 41 0 168
  · rw [e0] at hp
    rw [e0, if_pos hp, b_M_works_0]
    refine m_works (P := qP (σ 41 0) 0) (by decide) (fun j => by rw [e41]; rfl) (L := (qP (σ 41 0) 0 0).toNat) (by omega) (by omega) (a := a) (b := b) (c := c) (by rw [hτ, xup_k (by decide), xup_k (by decide), xup_s]) (by rw [hτ, xup_k (by decide), xup_s]) (by rw [hτ, xup_s]) (fun k hk => x4 k (by omega)) (x5 hp) (fun s hs => ?_) (qP (σ 41 0) 0 0).toNat 0 (by omega) _ _ Fr_refl trivial
    rw [if_pos rfl, e_Mheld]
    have := hQ s (Fr_trans (Fr_mono hf (by decide)) (Fr_mono hs (by decide)))
    unfold qg0 at this
    rw [if_pos hp] at this
    exact this
  · rw [if_neg hp, if_pos rfl, if_pos rfl, e_Mheld]
    have := hQ τ (Fr_mono hf (by decide))
    unfold qg0 at this
    rw [← e0, if_neg hp] at this
    exact this
theorem m_gives1 {d : Nat} {σ : xM} {Q : Int → xM → Prop} {a b c : Int} (h : qtk (qP (σ 41 0) 1)) (hQ : ∀ s, Fr [50, 51] σ s → Q (qg1 (qP (σ 41 0) 1) a b c) s) : Ev (d + 2) 172 0 [vR 40 0, vI 1, vI a, vI b, vI c, vR 0 0, vR 0 0] [] σ Q := by
  obtain ⟨x1, x4, x5⟩ := h
  rw [b_M_gives_0, xin (by decide) (by decide), xin (by decide) (by decide), xin (by decide) (by decide), show xwr (168 + xwr (121 * 1)) = ((289 : Nat) : Int) from by decide, xin (by decide) (by decide), Int.toNat_natCast, show Int.toNat 0 = 0 from rfl, show Int.toNat 1 = 1 from rfl, show Int.toNat 2 = 2 from rfl]
  obtain ⟨τ, hτ⟩ : ∃ τ, τ = xup (xup (xup σ 50 0 0 a) 50 0 1 b) 50 0 2 c := ⟨_, rfl⟩
  rw [← hτ]
  have hf : Fr [50] σ τ := by rw [hτ]; exact Fr_trans (Fr_trans (Fr_up (by decide)) (Fr_up (by decide))) (Fr_up (by decide))
  have e41 : τ 41 = σ 41 := hf 41 (by decide)
  have e0 : τ 41 0 289 = qP (σ 41 0) 1 0 := by rw [e41]; rfl
  by_cases hp : 0 < τ 41 0 289
  · rw [e0] at hp
    rw [e0, if_pos hp, b_M_works_0]
    refine m_works (P := qP (σ 41 0) 1) (by decide) (fun j => by rw [e41]; rfl) (L := (qP (σ 41 0) 1 0).toNat) (by omega) (by omega) (a := a) (b := b) (c := c) (by rw [hτ, xup_k (by decide), xup_k (by decide), xup_s]) (by rw [hτ, xup_k (by decide), xup_s]) (by rw [hτ, xup_s]) (fun k hk => x4 k (by omega)) (x5 hp) (fun s hs => ?_) (qP (σ 41 0) 1 0).toNat 0 (by omega) _ _ Fr_refl trivial
    rw [if_neg (by decide), e_Mheld]
    have := hQ s (Fr_trans (Fr_mono hf (by decide)) (Fr_mono hs (by decide)))
    unfold qg1 at this
    rw [if_pos hp] at this
    exact this
  · rw [if_neg hp, if_neg (by decide), if_neg (by decide), e_Mheld]
    have := hQ τ (Fr_mono hf (by decide))
    unfold qg1 at this
    rw [← e0, if_neg hp] at this
    exact this
end
section
/-! worth, joy, sets of seven -/
def qwo (R : Nat → Int) (c : Nat) (p : Int) : Int := qg0 (qP R 0) (qdr R c p) (if R (21 + 9 * c + 4) = p then 1 else 0) (R (21 + 9 * c + 0))
theorem e_worth {d c : Nat} {σ : xM} {R : Nat → Int} {Q : Int → xM → Prop} {p : Int} (h : Kp σ R) (hc : c < 7) (hQ : ∀ s, Fr [15] σ s → Q (qwo R c p) s) : Ev (d + 3) 55 0 [vR 5 0, vI (c : Int), vI p, vR 0 0] [] σ Q := by
  rw [b_S_worthOf_0, xin (by omega) (by omega), Int.toNat_natCast, e_dear h hc, Kp_ch h hc (by decide), Kp_ch h hc (by decide)]
  unfold qwo at hQ
  by_cases e : R (21 + 9 * c + 4) = p
  · rw [if_pos e] at hQ ⊢
    exact e_given0 h hQ
  · rw [if_neg e] at hQ ⊢
    exact e_given0 h hQ
theorem m_worth {d c : Nat} {σ : xM} {Q : Int → xM → Prop} {p : Int} (h : qtk (qP (σ 41 0) 0)) (hc : c < 7) (hQ : ∀ s, Fr [50, 51] σ s → Q (qwo (σ 41 0) c p) s) : Ev (d + 3) 140 0 [vR 40 0, vI (c : Int), vI p] [] σ Q := by
  rw [b_M_worthTo_0, m_dear hc, e_ab4 hc]
  unfold qwo at hQ
  by_cases e : σ 41 0 (21 + 9 * c + 4) = p
  · rw [if_pos e] at hQ ⊢
    rw [e_ab0 hc]
    exact m_gives0 h hQ
  · rw [if_neg e] at hQ ⊢
    rw [e_ab0 hc]
    exact m_gives0 h hQ
theorem e_worthIf {d c : Nat} {σ : xM} {R : Nat → Int} {Q : Int → xM → Prop} {p w : Int} (h : Kp σ R) (hc : c < 7) (hQ : ∀ s, Fr [15] σ s → Q (qg0 (qP R 0) w (if R (21 + 9 * c + 4) = p then 1 else 0) (R (21 + 9 * c + 0))) s) : Ev (d + 3) 56 0 [vR 5 0, vI (c : Int), vI p, vI w, vR 0 0] [] σ Q := by
  rw [b_S_worthIfDear_0, xin (by omega) (by omega), Int.toNat_natCast, Kp_ch h hc (by decide), Kp_ch h hc (by decide)]
  by_cases e : R (21 + 9 * c + 4) = p
  · rw [if_pos e] at hQ ⊢
    exact e_given0 h hQ
  · rw [if_neg e] at hQ ⊢
    exact e_given0 h hQ
def qjo (R : Nat → Int) (c : Nat) : Int := qg1 (qP R 1) (if R (21 + 9 * c + 5) < 0 then 0 else qwo R c (R (21 + 9 * c + 5))) (R (21 + 9 * c + 2)) (Int.tmod (R 0) 7)
theorem e_joy {d c : Nat} {σ : xM} {R : Nat → Int} {Q : Int → xM → Prop} (h : Kp σ R) (hc : (c : Int) < R 3) (hQ : ∀ s, Fr [15] σ s → Q (qjo R c) s) : Ev (d + 4) 57 0 [vR 5 0, vI (c : Int), vR 0 0, vR 0 0] [] σ Q := by
  have c7 := xvl_c7 h.1 hc
  have hh := (h.1.2.2.2.2.2.2.2.1 c hc).2.2.2.2.2.1
  rw [b_S_joyOf_0, xin (by omega) (by omega), Int.toNat_natCast, Kp_ch h c7 (by decide)]
  unfold qjo at hQ
  by_cases e : R (21 + 9 * c + 5) = -1
  · rw [if_pos (by omega)] at hQ
    rw [if_pos e, xne7i, Kp_year h, Kp_ch h c7 (by decide)]
    exact e_given1 h hQ
  · rw [if_neg (by omega)] at hQ
    rw [if_neg e]
    refine e_worth h c7 (fun s hs => ?_)
    have hk := Kp_sc h hs rfl
    rw [xne7i, Kp_year hk, Kp_ch hk c7 (by decide)]
    exact e_given1 hk (fun s2 hs2 => hQ s2 (Fr_trans hs hs2))
theorem m_joy {d c : Nat} {σ : xM} {Q : Int → xM → Prop} (h0 : qtk (qP (σ 41 0) 0)) (h1 : qtk (qP (σ 41 0) 1)) (c7 : c < 7) (hQ : ∀ s, Fr [50, 51] σ s → Q (qjo (σ 41 0) c) s) : Ev (d + 4) 141 0 [vR 40 0, vI (c : Int), vR 0 0] [] σ Q := by
  rw [b_M_joyOf_0, e_ab5 c7]
  unfold qjo at hQ
  by_cases e : σ 41 0 (21 + 9 * c + 5) < 0
  · rw [if_pos e] at hQ ⊢
    rw [e_ab2 c7, xin (by decide) (by decide), xne7i, show Int.toNat 0 = 0 from rfl]
    exact m_gives1 h1 hQ
  · rw [if_neg e] at hQ ⊢
    refine m_worth h0 c7 (fun s hs => ?_)
    have e41 : s 41 = σ 41 := hs 41 (by decide)
    rw [e_ab2 c7, xin (by decide) (by decide), xne7i, show Int.toNat 0 = 0 from rfl, e41]
    refine m_gives1 (by rw [e41]; exact h1) (fun s2 hs2 => ?_)
    rw [e41]
    exact hQ s2 (Fr_trans hs hs2)
/-- sets of seven -/
def qms (g : Nat → Int) : Nat → Nat
  | 0 => 0
  | n + 1 => qms g n + (if g n = 0 then 0 else 2 ^ n)
theorem qms_lt (g : Nat → Int) : ∀ n, qms g n < 2 ^ n
  | 0 => Nat.zero_lt_one
  | n + 1 => by
    have := qms_lt g n
    show qms g n + (if g n = 0 then 0 else 2 ^ n) < 2 ^ (n + 1)
    rw [Nat.pow_succ]
    split <;> omega
theorem qms_cg {g g' : Nat → Int} : ∀ n, (∀ j, j < n → (g j = 0 ↔ g' j = 0)) → qms g n = qms g' n
  | 0, _ => rfl
  | n + 1, h => by
    show qms g n + (if g n = 0 then 0 else 2 ^ n) = qms g' n + (if g' n = 0 then 0 else 2 ^ n)
    rw [qms_cg n (fun j hj => h j (by omega))]
    by_cases e : g n = 0
    · rw [if_pos e, if_pos ((h n (by omega)).mp e)]
    · rw [if_neg e, if_neg (fun q => e ((h n (by omega)).mpr q))]
theorem qms_bit (g : Nat → Int) : ∀ n p, Nat.testBit (qms g n) p = (decide (p < n) && decide (g p ≠ 0))
  | 0, p => by
    show Nat.testBit 0 p = _
    simp
  | n + 1, p => by
    show Nat.testBit (qms g n + (if g n = 0 then 0 else 2 ^ n)) p = _
    have ih := qms_bit g n p
    have lt := qms_lt g n
    by_cases e : g n = 0
    · rw [if_pos e, Nat.add_zero, ih]
      by_cases hp : p < n
      · simp [hp, Nat.lt_succ_of_lt hp]
      · by_cases hq : p = n
        · subst hq
          simp [e]
        · simp [hp, show ¬ p < n + 1 by omega]
    · rw [if_neg e, Nat.add_comm]
      by_cases hp : p < n
      · rw [Nat.testBit_two_pow_add_gt hp, ih]
        simp [hp, Nat.lt_succ_of_lt hp]
      · by_cases hq : p = n
        · subst hq
          rw [Nat.testBit_two_pow_add_eq, ih]
          simp [e]
        · have h1 : 2 ^ (n + 1) ≤ 2 ^ p := Nat.pow_le_pow_right (by decide) (by omega)
          rw [Nat.testBit_lt_two_pow (by rw [Nat.pow_succ] at h1; omega)]
          simp [show ¬ p < n + 1 by omega]
theorem qms_lt7 (g : Nat → Int) {n : Nat} (h : n ≤ 7) : qms g n < 128 := Nat.lt_of_lt_of_le (qms_lt g n) (show 2 ^ n ≤ 2 ^ 7 from Nat.pow_le_pow_right (by decide) h)
theorem xq_or : ∀ c : Nat, c < 7 → ∀ M : Nat, M < 128 → M < 2 ^ c → xior (M : Int) (xshl 1 (c : Int)) = ((M + 2 ^ c : Nat) : Int) := by decide +kernel
theorem xq_or0 : ∀ M : Nat, M < 128 → xior (M : Int) 0 = (M : Int) := by decide +kernel
theorem xq_bit : ∀ M : Nat, M < 128 → ∀ p : Nat, p < 7 → xand (xshr (M : Int) (p : Int)) 1 = (if Nat.testBit M p then 1 else 0) := by decide +kernel
theorem xq_ors : ∀ M : Nat, M < 128 → ∀ p : Nat, p < 7 → xior (M : Int) (xshl 1 (p : Int)) = ((M ||| 2 ^ p : Nat) : Int) := by decide +kernel
theorem qms_or (g : Nat → Int) {c : Nat} (h : c < 7) (e : ¬ g c = 0) : xior (qms g c : Int) (xshl 1 (c : Int)) = ((qms g (c + 1) : Nat) : Int) := by
  rw [xq_or c h _ (qms_lt7 g (by omega)) (qms_lt g c)]
  show _ = ((qms g c + (if g c = 0 then 0 else 2 ^ c) : Nat) : Int)
  rw [if_neg e]
theorem qms_no (g : Nat → Int) {c : Nat} (e : g c = 0) : qms g (c + 1) = qms g c := by
  show qms g c + (if g c = 0 then 0 else 2 ^ c) = _
  rw [if_pos e]
  rfl
theorem xs1 {c : Nat} (h : c < 1000) : xwr ((c : Int) + 1) = ((c + 1 : Nat) : Int) := by
  rw [xw (by omega) (by omega)]
  rfl
/-- whom a part may have -/
theorem e_chFor {d p n : Nat} {σ : xM} {R : Nat → Int} {Q : Int → xM → Prop} (h : Kp σ R) (hn : R 3 = (n : Int)) (hp : (p : Int) < R 2) : ∀ f c : Nat, c + f = n → Ev (d + 2) 52 4 [vR 5 0, vI (p : Int), vI (qms (fun c => qmy R c p) c : Int), vI (c : Int)] [] σ Q = Q (qms (fun c => qmy R c p) n : Int) σ
  | 0, c, e => by
    have e : c = n := e
    rw [b_S_childrenFor_4, Kp_chn h, hn, if_neg (by omega), e]
  | f + 1, c, e => by
    have hc : (c : Int) < R 3 := by omega
    have c7 := xvl_c7 h.1 hc
    rw [b_S_childrenFor_4, Kp_chn h, if_pos hc, e_may h hc hp, xs1 (by omega)]
    by_cases e0 : qmy R c p = 0
    · rw [if_pos e0, ← qms_no (fun c => qmy R c p) e0]
      exact e_chFor h hn hp f (c + 1) (by omega)
    · rw [if_neg e0, qms_or (fun c => qmy R c p) c7 e0]
      exact e_chFor h hn hp f (c + 1) (by omega)
theorem e_paFor {d c n : Nat} {σ : xM} {R : Nat → Int} {Q : Int → xM → Prop} (h : Kp σ R) (hn : R 2 = (n : Int)) (hc : (c : Int) < R 3) : ∀ f p : Nat, p + f = n → Ev (d + 2) 53 4 [vR 5 0, vI (c : Int), vI (qms (fun p => qmy R c p) p : Int), vI (p : Int)] [] σ Q = Q (qms (fun p => qmy R c p) n : Int) σ
  | 0, p, e => by
    have e : p = n := e
    rw [b_S_partsFor_4, Kp_parts h, hn, if_neg (by omega), e]
  | f + 1, p, e => by
    have hp : (p : Int) < R 2 := by omega
    have p7 := xvl_p7 h.1 hp
    rw [b_S_partsFor_4, Kp_parts h, if_pos hp, e_may h hc hp, xs1 (by omega)]
    by_cases e0 : qmy R c p = 0
    · rw [if_pos e0, ← qms_no (fun p => qmy R c p) e0]
      exact e_paFor h hn hc f (p + 1) (by omega)
    · rw [if_neg e0, qms_or (fun p => qmy R c p) p7 e0]
      exact e_paFor h hn hc f (p + 1) (by omega)
theorem m_whoMay {d p n : Nat} {σ : xM} {Q : Int → xM → Prop} (h : xvl (σ 41 0)) (hn : σ 41 0 3 = (n : Int)) (hp : (p : Int) < σ 41 0 2) : ∀ f c : Nat, c + f = n → Ev (d + 2) 146 4 [vR 40 0, vI (p : Int), vI (qms (fun c => qmy (σ 41 0) c p) c : Int), vI (c : Int)] [] σ Q = Q (qms (fun c => qmy (σ 41 0) c p) n : Int) σ
  | 0, c, e => by
    have e : c = n := e
    rw [b_M_whoMay_4, xin (by decide) (by decide), show Int.toNat 3 = 3 from rfl, hn, if_neg (by omega), e]
  | f + 1, c, e => by
    have hc : (c : Int) < σ 41 0 3 := by omega
    have c7 := xvl_c7 h hc
    rw [b_M_whoMay_4, xin (by decide) (by decide), show Int.toNat 3 = 3 from rfl, if_pos hc, m_may h hc hp, xs1 (by omega)]
    by_cases e0 : qmy (σ 41 0) c p = 0
    · rw [if_pos e0, xq_or0 _ (qms_lt7 _ (by omega)), ← qms_no (fun c => qmy (σ 41 0) c p) e0]
      exact m_whoMay h hn hp f (c + 1) (by omega)
    · rw [if_neg e0, qms_or (fun c => qmy (σ 41 0) c p) c7 e0]
      exact m_whoMay h hn hp f (c + 1) (by omega)
/-- how many -/
def qpc (M : Nat) : Nat := M % 2 + M / 2 % 2 + M / 4 % 2 + M / 8 % 2 + M / 16 % 2 + M / 32 % 2 + M / 64 % 2
theorem e_bc {d M : Nat} {σ : xM} {Q : Int → xM → Prop} (hM : M < 128) : Ev d 220 0 [vI (M : Int)] [] σ Q = Q (qpc M : Int) σ := by
  rw [b_I_bitCount_0]
  congr 1
  revert hM
  revert M
  decide +kernel
theorem xq_pop : ∀ M : Nat, M < 128 → M ≠ 0 → xand (M : Int) (xwr ((M : Int) - 1)) = ((M &&& (M - 1) : Nat) : Int) ∧ (M &&& (M - 1)) < M ∧ qpc (M &&& (M - 1)) + 1 = qpc M := by decide +kernel
theorem qpc_le : ∀ M : Nat, M < 128 → qpc M ≤ 7 ∧ (qpc M = 0 ↔ M = 0) := by decide +kernel
theorem m_bits {d : Nat} {σ : xM} {Q : Int → xM → Prop} {x : Int} : ∀ N M k : Nat, M ≤ N → M < 128 → k + qpc M < 100 → Ev d 130 4 [vI x, vI (k : Int), vI (M : Int)] [] σ Q = Q ((k + qpc M : Nat) : Int) σ
  | 0, M, k, h1, h2, h3 => by
    have e : M = 0 := by omega
    subst e
    rw [b_M_bits_4, if_pos (show ((0 : Nat) : Int) = 0 from rfl)]
    rfl
  | N + 1, M, k, h1, h2, h3 => by
    by_cases e : M = 0
    · subst e
      rw [b_M_bits_4, if_pos (show ((0 : Nat) : Int) = 0 from rfl)]
      rfl
    · obtain ⟨g1, g2, g3⟩ := xq_pop M h2 e
      rw [b_M_bits_4, if_neg (by omega), g1, xs1 (by omega), m_bits N _ (k + 1) (by omega) (by omega) (by omega), show k + 1 + qpc (M &&& (M - 1)) = k + qpc M by omega]
/-- the k-th of a set -/
def qat (M : Nat) : Nat → Nat → Nat → Int
  | 0, _, _ => -1
  | f + 1, i, k => if Nat.testBit M i then (if k = 0 then (i : Int) else qat M f (i + 1) (k - 1)) else qat M f (i + 1) k
theorem qat_ex : ∀ M : Nat, M < 128 → ∀ k : Nat, k < 7 → k < qpc M → ∃ j : Nat, j < 7 ∧ qat M 7 0 k = ((j : Nat) : Int) ∧ Nat.testBit M j = true := by decide +kernel
theorem e_partAt {d M : Nat} {σ : xM} {Q : Int → xM → Prop} {y : Int} (hM : M < 128) : ∀ f i k : Nat, i + f = 7 → k < 7 → Ev d 60 4 [vI (M : Int), vI y, vI (k : Int), vI (i : Int)] [] σ Q = Q (qat M f i k) σ
  | 0, i, k, e, hk => by
    rw [b_S_partAt_4, if_neg (by omega)]
    rfl
  | f + 1, i, k, e, hk => by
    rw [b_S_partAt_4, if_pos (by omega), xq_bit M hM i (by omega), xs1 (by omega)]
    show _ = Q (if Nat.testBit M i then (if k = 0 then (i : Int) else qat M f (i + 1) (k - 1)) else qat M f (i + 1) k) σ
    by_cases hb : Nat.testBit M i = true
    · rw [if_pos hb, if_pos hb, if_neg (by decide)]
      by_cases h0 : k = 0
      · rw [if_pos h0, if_pos (by omega)]
      · rw [if_neg h0, if_neg (by omega), show xwr ((k : Int) + -1) = ((k - 1 : Nat) : Int) from by rw [xw (by omega) (by omega)]; omega, e_partAt hM f (i + 1) (k - 1) (by omega) (by omega)]
    · rw [if_neg hb, if_neg hb, if_pos rfl, e_partAt hM f (i + 1) k (by omega) hk]
theorem m_at {d M j : Nat} {σ : xM} {Q : Int → xM → Prop} {x1 x2 : Int} (hM : M < 128) : ∀ f i k : Nat, i + f = 7 → k < 7 → qat M f i k = (j : Int) → Ev (d + 1) 179 42 [vR 40 0, vI x1, vI x2, vI (M : Int), vI (k : Int), vI (i : Int)] [] σ Q = Ev d 136 0 [vR 40 0, vI x2, vI 5, vI (j : Int)] [] σ (fun _ s1 => Ev (d + 1) 179 8 [vR 40 0, vI (xior x1 (xshl 1 x2)), vI (xwr (x2 + 1)), vI (M : Int), vI 0, vI (j : Int)] [] s1 Q)
  | 0, i, k, e, hk, hq => by
    have : (-1 : Int) = (j : Int) := hq
    omega
  | f + 1, i, k, e, hk, hq => by
    have hq' : (if Nat.testBit M i then (if k = 0 then (i : Int) else qat M f (i + 1) (k - 1)) else qat M f (i + 1) k) = (j : Int) := hq
    rw [b_M_drawn_42, xq_bit M hM i (by omega), xs1 (by omega)]
    by_cases hb : Nat.testBit M i = true
    · rw [if_pos hb] at hq'
      rw [if_pos hb]
      by_cases h0 : k = 0
      · rw [if_pos h0] at hq'
        subst h0
        rw [if_neg (by decide), if_neg (by decide), hq']
        rfl
      · rw [if_neg h0] at hq'
        rw [if_pos (by omega), show xwr ((k : Int) - 1) = ((k - 1 : Nat) : Int) from by rw [xw (by omega) (by omega)]; omega, m_at hM f (i + 1) (k - 1) (by omega) (by omega) hq']
    · rw [if_neg hb] at hq'
      rw [if_neg hb, show xwr ((k : Int) - 0) = (k : Int) from by rw [xw (by omega) (by omega)]; omega, m_at hM f (i + 1) k (by omega) hk hq']
      split <;> rfl
end
section
/-! calls: what is asked -/
theorem fin1 {d : Nat} {σ : xM} (h : Inv σ) : Ev d 124 0 [vR 40 0, vI (-1000000001)] [] (xup σ 39 0 1 (xwr (σ 39 0 1 + 1))) (fun r' s' => (-1000000001 : Int) = r' ∧ Inv s') := by
  rw [e_err1]
  exact ⟨rfl, Inv_err h (by decide) (by decide) (by rw [xup_t (by decide)])⟩
theorem fin2 {d : Nat} {σ : xM} (h : Inv σ) : Ev d 124 0 [vR 40 0, vI (-1000000002)] [] (xup σ 39 0 2 (xwr (σ 39 0 2 + 1))) (fun r' s' => (-1000000002 : Int) = r' ∧ Inv s') := by
  rw [e_err2]
  exact ⟨rfl, Inv_err h (by decide) (by decide) (by rw [xup_t (by decide)])⟩
theorem fin3 {d : Nat} {σ : xM} (h : Inv σ) : Ev d 124 0 [vR 40 0, vI (-1000000003)] [] (xup σ 39 0 3 (xwr (σ 39 0 3 + 1))) (fun r' s' => (-1000000003 : Int) = r' ∧ Inv s') := by
  rw [e_err3]
  exact ⟨rfl, Inv_err h (by decide) (by decide) (by rw [xup_t (by decide)])⟩
theorem fin4 {d : Nat} {σ : xM} (h : Inv σ) : Ev d 124 0 [vR 40 0, vI (-1000000004)] [] (xup σ 39 0 4 (xwr (σ 39 0 4 + 1))) (fun r' s' => (-1000000004 : Int) = r' ∧ Inv s') := by
  rw [e_err4]
  exact ⟨rfl, Inv_err h (by decide) (by decide) (by rw [xup_t (by decide)])⟩
theorem fin5 {d : Nat} {σ : xM} (h : Inv σ) : Ev d 124 0 [vR 40 0, vI (-1000000005)] [] (xup σ 39 0 5 (xwr (σ 39 0 5 + 1))) (fun r' s' => (-1000000005 : Int) = r' ∧ Inv s') := by
  rw [e_err5]
  exact ⟨rfl, Inv_err h (by decide) (by decide) (by rw [xup_t (by decide)])⟩
theorem fin6 {d : Nat} {σ : xM} (h : Inv σ) : Ev d 124 0 [vR 40 0, vI (-1000000006)] [] (xup σ 39 0 6 (xwr (σ 39 0 6 + 1))) (fun r' s' => (-1000000006 : Int) = r' ∧ Inv s') := by
  rw [e_err6]
  exact ⟨rfl, Inv_err h (by decide) (by decide) (by rw [xup_t (by decide)])⟩
theorem x39 {σ : xM} {k : Nat} {v : Int} : xup σ 39 0 k v 41 = σ 41 := xup_t (by decide)
theorem e_isPart9 {d k : Nat} {σ : xM} {Q : Int → xM → Prop} {x v : Int} (h0 : 0 ≤ σ 41 0 2) (h7 : σ 41 0 2 ≤ 7) : Ev (d + 1) 131 0 [vR 40 0, vI x] [] (xup σ 39 0 k v) Q = Q (if 0 ≤ x ∧ x < σ 41 0 2 then 1 else 0) (xup σ 39 0 k v) := by
  rw [← x39 (σ := σ) (k := k) (v := v)] at h0 h7
  rw [e_isPart h0 h7, x39]
theorem e_isChild9 {d k : Nat} {σ : xM} {Q : Int → xM → Prop} {x v : Int} (h0 : 0 ≤ σ 41 0 3) (h7 : σ 41 0 3 ≤ 7) : Ev (d + 1) 132 0 [vR 40 0, vI x] [] (xup σ 39 0 k v) Q = Q (if 0 ≤ x ∧ x < σ 41 0 3 then 1 else 0) (xup σ 39 0 k v) := by
  rw [← x39 (σ := σ) (k := k) (v := v)] at h0 h7
  rw [e_isChild h0 h7, x39]
theorem call_partIs {d : Nat} {σ : xM} (h : Inv σ) (x y : Int) : Ev (d + 9) m_P_partIs 0 [vR 4 0, vI x, vI y] [] σ (fun r s => Ev (d + 9) m_M_partIs 0 [vR 40 0, vI x, vI y] [] s (fun r' s' => r = r' ∧ Inv s')) := by
  suffices q : ∀ K : Int → xM → Prop, (∀ r s, K r s = Ev (d + 9) m_M_partIs 0 [vR 40 0, vI x, vI y] [] s (fun r' s' => r = r' ∧ Inv s')) → Ev (d + 9) m_P_partIs 0 [vR 4 0, vI x, vI y] [] σ K from q _ (fun _ _ => rfl)
  intro K hK
  obtain ⟨n2, hn2, l2⟩ := xvl_p h.1
  obtain ⟨n3, hn3, l3⟩ := xvl_c h.1
  have hk := Inv_Kp h
  have pa := Kp_parts hk
  have ch := Kp_chn hk
  have ⟨p0, p7⟩ := h.1.1
  have ⟨c0, c7⟩ := h.1.2.1
  by_cases hx : 0 ≤ x ∧ x < σ 41 0 2
  · obtain ⟨P, hP⟩ : ∃ P : Nat, x = (P : Int) := ⟨x.toNat, by omega⟩
    subst hP
    have hPp := hx.2
    have P7 := xvl_p7 h.1 hPp
    by_cases hy : 0 ≤ y ∧ y ≤ 4
    · have : y = 0 ∨ y = 1 ∨ y = 2 ∨ y = 3 ∨ y = 4 := by omega
      rcases this with e | e | e | e | e <;> subst e
      · simp (disch := omega) only [b_P_partIs_0, e_hasPart, pa, Kp_kind hk P7, xbc, ↓reduceIte, ↓if_pos, ↓if_neg, xin, Int.toNat_natCast]
        rw [hK]
        simp (disch := omega) only [b_M_partIs_0, e_isPart, e_of0 P7, xbc, ↓reduceIte, ↓if_pos, ↓if_neg, xin, Int.toNat_natCast]
        exact ⟨trivial, h⟩
      · simp (disch := omega) only [b_P_partIs_0, e_hasPart, pa, Kp_m hk P7, xbc, ↓reduceIte, ↓if_pos, ↓if_neg, xin, Int.toNat_natCast]
        rw [hK]
        simp (disch := omega) only [b_M_partIs_0, e_isPart, e_of1 P7, xbc, ↓reduceIte, ↓if_pos, ↓if_neg, xin, Int.toNat_natCast]
        exact ⟨trivial, h⟩
      · simp (disch := omega) only [b_P_partIs_0, e_hasPart, pa, Kp_year hk, e_lines hk hPp, xbc, ↓reduceIte, ↓if_pos, ↓if_neg, xin, Int.toNat_natCast]
        rw [hK]
        simp (disch := omega) only [b_M_partIs_0, e_isPart, m_lines h.1 hPp, xbc, ↓reduceIte, ↓if_pos, ↓if_neg, xin, Int.toNat_natCast]
        exact ⟨trivial, h⟩
      · simp (disch := omega) only [b_P_partIs_0, e_hasPart, pa, b_S_holderOf_0, xbc, ↓reduceIte, ↓if_pos, ↓if_neg, xin, Int.toNat_natCast]
        refine (e_who (p := (P : Int)) hk hn3 n3 0 (by omega)).mpr ?_
        rw [hK]
        simp (disch := omega) only [b_M_partIs_0, e_isPart, b_M_whoHas_0, xbc, ↓reduceIte, ↓if_pos, ↓if_neg, xin, Int.toNat_natCast]
        exact (m_who (p := (P : Int)) hn3 l3 n3 0 (by omega)).mpr ⟨rfl, h⟩
      · simp (disch := omega) only [b_P_partIs_0, e_hasPart, pa, b_S_childrenFor_0, xbc, ↓reduceIte, ↓if_pos, ↓if_neg, xin, Int.toNat_natCast]
        refine (e_chFor hk hn3 hPp n3 0 (by omega)).mpr ?_
        rw [hK]
        simp (disch := omega) only [b_M_partIs_0, e_isPart, b_M_whoMay_0, xbc, ↓reduceIte, ↓if_pos, ↓if_neg, xin, Int.toNat_natCast]
        exact (m_whoMay h.1 hn3 hPp n3 0 (by omega)).mpr ⟨rfl, h⟩
    · by_cases y0 : y < 0
      · simp (disch := omega) only [b_P_partIs_0, e_hasPart, pa, e_fail1, xbc, ↓reduceIte, ↓if_pos, ↓if_neg, xin, Int.toNat_natCast]
        rw [hK]
        simp (disch := omega) only [b_M_partIs_0, e_isPart9, x39, xbc, ↓reduceIte, ↓if_pos, ↓if_neg, xin, Int.toNat_natCast]
        exact fin1 h
      · simp (disch := omega) only [b_P_partIs_0, e_hasPart, pa, e_fail1, xbc, ↓reduceIte, ↓if_pos, ↓if_neg, xin, Int.toNat_natCast]
        rw [hK]
        simp (disch := omega) only [b_M_partIs_0, e_isPart9, x39, xbc, ↓reduceIte, ↓if_pos, ↓if_neg, xin, Int.toNat_natCast]
        exact fin1 h
  · simp (disch := omega) only [b_P_partIs_0, e_hasPart, pa, e_fail1, xbc, ↓reduceIte, ↓if_pos, ↓if_neg, xin, Int.toNat_natCast]
    rw [hK]
    simp (disch := omega) only [b_M_partIs_0, e_isPart9, x39, xbc, ↓reduceIte, ↓if_pos, ↓if_neg, xin, Int.toNat_natCast]
    exact fin1 h

theorem xe_ab6 {d c : Nat} {σ : xM} {Q : Int → xM → Prop} (hc : c < 7) : Ev d 135 0 [vR 40 0, vI (c : Int), vI 6] [] σ Q = Q (σ 41 0 (21 + 9 * c + (6 + 0))) σ := e_ab (k := 6) hc (by decide)
theorem xe_ab7 {d c : Nat} {σ : xM} {Q : Int → xM → Prop} (hc : c < 7) : Ev d 135 0 [vR 40 0, vI (c : Int), vI 7] [] σ Q = Q (σ 41 0 (21 + 9 * c + (6 + 1))) σ := e_ab (k := 7) hc (by decide)
theorem xe_ab8 {d c : Nat} {σ : xM} {Q : Int → xM → Prop} (hc : c < 7) : Ev d 135 0 [vR 40 0, vI (c : Int), vI 8] [] σ Q = Q (σ 41 0 (21 + 9 * c + (6 + 2))) σ := e_ab (k := 8) hc (by decide)
theorem call_childIs {d : Nat} {σ : xM} (h : Inv σ) (x y : Int) : Ev (d + 9) m_P_childIs 0 [vR 4 0, vI x, vI y] [] σ (fun r s => Ev (d + 9) m_M_childIs 0 [vR 40 0, vI x, vI y] [] s (fun r' s' => r = r' ∧ Inv s')) := by
  suffices q : ∀ K : Int → xM → Prop, (∀ r s, K r s = Ev (d + 9) m_M_childIs 0 [vR 40 0, vI x, vI y] [] s (fun r' s' => r = r' ∧ Inv s')) → Ev (d + 9) m_P_childIs 0 [vR 4 0, vI x, vI y] [] σ K from q _ (fun _ _ => rfl)
  intro K hK
  obtain ⟨n2, hn2, l2⟩ := xvl_p h.1
  obtain ⟨n3, hn3, l3⟩ := xvl_c h.1
  have hk := Inv_Kp h
  have pa := Kp_parts hk
  have ch := Kp_chn hk
  have ⟨p0, p7⟩ := h.1.1
  have ⟨c0, c7⟩ := h.1.2.1
  by_cases hx : 0 ≤ x ∧ x < σ 41 0 3
  · obtain ⟨P, hP⟩ : ∃ P : Nat, x = (P : Int) := ⟨x.toNat, by omega⟩
    subst hP
    have hPp := hx.2
    have P7 := xvl_c7 h.1 hPp
    by_cases hy : 0 ≤ y ∧ y ≤ 9
    · have : y = 0 ∨ y = 1 ∨ y = 2 ∨ y = 3 ∨ y = 4 ∨ y = 5 ∨ y = 6 ∨ y = 7 ∨ y = 8 ∨ y = 9 := by omega
      rcases this with e | e | e | e | e | e | e | e | e | e <;> subst e
      · simp (disch := omega) only [b_P_childIs_0, e_hasChild, ch, b_C_valueOf_0, Kp_ch hk P7 (show 0 < 6 by decide), xbc, ↓reduceIte, ↓if_pos, ↓if_neg, xin, Int.toNat_natCast]
        rw [hK]
        simp (disch := omega) only [b_M_childIs_0, e_isChild, e_in, e_ab0 P7, xbc, ↓reduceIte, ↓if_pos, ↓if_neg, xin, Int.toNat_natCast]
        exact ⟨trivial, h⟩
      · simp (disch := omega) only [b_P_childIs_0, e_hasChild, ch, b_C_valueOf_0, Kp_ch hk P7 (show 1 < 6 by decide), xbc, ↓reduceIte, ↓if_pos, ↓if_neg, xin, Int.toNat_natCast]
        rw [hK]
        simp (disch := omega) only [b_M_childIs_0, e_isChild, e_in, e_ab1 P7, xbc, ↓reduceIte, ↓if_pos, ↓if_neg, xin, Int.toNat_natCast]
        exact ⟨trivial, h⟩
      · simp (disch := omega) only [b_P_childIs_0, e_hasChild, ch, b_C_valueOf_0, Kp_ch hk P7 (show 2 < 6 by decide), xbc, ↓reduceIte, ↓if_pos, ↓if_neg, xin, Int.toNat_natCast]
        rw [hK]
        simp (disch := omega) only [b_M_childIs_0, e_isChild, e_in, e_ab2 P7, xbc, ↓reduceIte, ↓if_pos, ↓if_neg, xin, Int.toNat_natCast]
        exact ⟨trivial, h⟩
      · simp (disch := omega) only [b_P_childIs_0, e_hasChild, ch, b_C_valueOf_0, Kp_ch hk P7 (show 3 < 6 by decide), xbc, ↓reduceIte, ↓if_pos, ↓if_neg, xin, Int.toNat_natCast]
        rw [hK]
        simp (disch := omega) only [b_M_childIs_0, e_isChild, e_in, e_ab3 P7, xbc, ↓reduceIte, ↓if_pos, ↓if_neg, xin, Int.toNat_natCast]
        exact ⟨trivial, h⟩
      · simp (disch := omega) only [b_P_childIs_0, e_hasChild, ch, b_C_valueOf_0, Kp_ch hk P7 (show 4 < 6 by decide), xbc, ↓reduceIte, ↓if_pos, ↓if_neg, xin, Int.toNat_natCast]
        rw [hK]
        simp (disch := omega) only [b_M_childIs_0, e_isChild, e_in, e_ab4 P7, xbc, ↓reduceIte, ↓if_pos, ↓if_neg, xin, Int.toNat_natCast]
        exact ⟨trivial, h⟩
      · simp (disch := omega) only [b_P_childIs_0, e_hasChild, ch, b_C_valueOf_0, Kp_ch hk P7 (show 5 < 6 by decide), xbc, ↓reduceIte, ↓if_pos, ↓if_neg, xin, Int.toNat_natCast]
        rw [hK]
        simp (disch := omega) only [b_M_childIs_0, e_isChild, e_in, e_ab5 P7, xbc, ↓reduceIte, ↓if_pos, ↓if_neg, xin, Int.toNat_natCast]
        exact ⟨trivial, h⟩
      · simp (disch := omega) only [b_P_childIs_0, e_hasChild, ch, b_C_valueOf_0, show xwr (6 - 6) = 0 from by decide, show Int.toNat 0 = 0 from rfl, Kp_wi hk P7 (show 0 < 3 by decide), xbc, ↓reduceIte, ↓if_pos, ↓if_neg, xin, Int.toNat_natCast]
        rw [hK]
        simp (disch := omega) only [b_M_childIs_0, e_isChild, e_in, xe_ab6 P7, xbc, ↓reduceIte, ↓if_pos, ↓if_neg, xin, Int.toNat_natCast]
        exact ⟨trivial, h⟩
      · simp (disch := omega) only [b_P_childIs_0, e_hasChild, ch, b_C_valueOf_0, show xwr (7 - 6) = 1 from by decide, show Int.toNat 1 = 1 from rfl, Kp_wi hk P7 (show 1 < 3 by decide), xbc, ↓reduceIte, ↓if_pos, ↓if_neg, xin, Int.toNat_natCast]
        rw [hK]
        simp (disch := omega) only [b_M_childIs_0, e_isChild, e_in, xe_ab7 P7, xbc, ↓reduceIte, ↓if_pos, ↓if_neg, xin, Int.toNat_natCast]
        exact ⟨trivial, h⟩
      · simp (disch := omega) only [b_P_childIs_0, e_hasChild, ch, b_C_valueOf_0, show xwr (8 - 6) = 2 from by decide, show Int.toNat 2 = 2 from rfl, Kp_wi hk P7 (show 2 < 3 by decide), xbc, ↓reduceIte, ↓if_pos, ↓if_neg, xin, Int.toNat_natCast]
        rw [hK]
        simp (disch := omega) only [b_M_childIs_0, e_isChild, e_in, xe_ab8 P7, xbc, ↓reduceIte, ↓if_pos, ↓if_neg, xin, Int.toNat_natCast]
        exact ⟨trivial, h⟩
      · simp (disch := omega) only [b_P_childIs_0, e_hasChild, ch, xbc, ↓reduceIte, ↓if_pos, ↓if_neg, xin, Int.toNat_natCast]
        refine e_joy hk hPp (fun s hs => ?_)
        rw [hK]
        have i2 := Inv_Fr h (Fr_mono hs (by decide))
        have e41 : s 41 = σ 41 := hs 41 (by decide)
        rw [← e41] at p0 p7 c0 c7 hx
        simp (disch := omega) only [b_M_childIs_0, e_isChild, e_in, xbc, ↓reduceIte, ↓if_pos, ↓if_neg, xin, Int.toNat_natCast]
        rw [← e41]
        exact m_joy (xtx_tk (i2.2.1.2.2.2.2.2.2 0 (by decide))) (xtx_tk (i2.2.1.2.2.2.2.2.2 1 (by decide))) P7 (fun s2 hs2 => ⟨rfl, Inv_Fr i2 (Fr_mono hs2 (by decide))⟩)
    · by_cases y0 : y < 0
      · simp (disch := omega) only [b_P_childIs_0, e_hasChild, ch, e_fail1, xbc, ↓reduceIte, ↓if_pos, ↓if_neg, xin, Int.toNat_natCast]
        rw [hK]
        simp (disch := omega) only [b_M_childIs_0, e_isChild9, e_in, x39, xbc, ↓reduceIte, ↓if_pos, ↓if_neg, xin, Int.toNat_natCast]
        exact fin1 h
      · simp (disch := omega) only [b_P_childIs_0, e_hasChild, ch, e_fail1, xbc, ↓reduceIte, ↓if_pos, ↓if_neg, xin, Int.toNat_natCast]
        rw [hK]
        simp (disch := omega) only [b_M_childIs_0, e_isChild9, e_in, x39, xbc, ↓reduceIte, ↓if_pos, ↓if_neg, xin, Int.toNat_natCast]
        exact fin1 h
  · simp (disch := omega) only [b_P_childIs_0, e_hasChild, ch, e_fail1, xbc, ↓reduceIte, ↓if_pos, ↓if_neg, xin, Int.toNat_natCast]
    rw [hK]
    simp (disch := omega) only [b_M_childIs_0, e_isChild9, e_in, x39, xbc, ↓reduceIte, ↓if_pos, ↓if_neg, xin, Int.toNat_natCast]
    exact fin1 h

theorem call_worth {d : Nat} {σ : xM} (h : Inv σ) (x y : Int) : Ev (d + 9) m_P_worth 0 [vR 4 0, vI x, vI y] [] σ (fun r s => Ev (d + 9) m_M_worth 0 [vR 40 0, vI x, vI y] [] s (fun r' s' => r = r' ∧ Inv s')) := by
  suffices q : ∀ K : Int → xM → Prop, (∀ r s, K r s = Ev (d + 9) m_M_worth 0 [vR 40 0, vI x, vI y] [] s (fun r' s' => r = r' ∧ Inv s')) → Ev (d + 9) m_P_worth 0 [vR 4 0, vI x, vI y] [] σ K from q _ (fun _ _ => rfl)
  intro K hK
  obtain ⟨n2, hn2, l2⟩ := xvl_p h.1
  obtain ⟨n3, hn3, l3⟩ := xvl_c h.1
  have hk := Inv_Kp h
  have pa := Kp_parts hk
  have ch := Kp_chn hk
  have ⟨p0, p7⟩ := h.1.1
  have ⟨c0, c7⟩ := h.1.2.1
  by_cases hx : 0 ≤ x ∧ x < σ 41 0 3
  · obtain ⟨P, hP⟩ : ∃ P : Nat, x = (P : Int) := ⟨x.toNat, by omega⟩
    subst hP
    have hPp := hx.2
    have P7 := xvl_c7 h.1 hPp
    by_cases hy : 0 ≤ y ∧ y < σ 41 0 2
    · simp (disch := omega) only [b_P_worth_0, e_hasPart, e_hasChild, pa, ch, xbc, ↓reduceIte, ↓if_pos, ↓if_neg, xin, Int.toNat_natCast]
      refine e_worth hk P7 (fun s hs => ?_)
      rw [hK]
      have i2 := Inv_Fr h (Fr_mono hs (by decide))
      have e41 : s 41 = σ 41 := hs 41 (by decide)
      rw [← e41] at p0 p7 c0 c7 hx hy
      simp (disch := omega) only [b_M_worth_0, e_isChild, e_isPart, xbc, ↓reduceIte, ↓if_pos, ↓if_neg, xin, Int.toNat_natCast]
      rw [← e41]
      exact m_worth (xtx_tk (i2.2.1.2.2.2.2.2.2 0 (by decide))) P7 (fun s2 hs2 => ⟨rfl, Inv_Fr i2 (Fr_mono hs2 (by decide))⟩)
    · simp (disch := omega) only [b_P_worth_0, e_hasPart, e_hasChild, pa, ch, e_fail1, xbc, ↓reduceIte, ↓if_pos, ↓if_neg, xin, Int.toNat_natCast]
      rw [hK]
      simp (disch := omega) only [b_M_worth_0, e_isChild9, e_isPart9, x39, xbc, ↓reduceIte, ↓if_pos, ↓if_neg, xin, Int.toNat_natCast]
      exact fin1 h
  · simp (disch := omega) only [b_P_worth_0, e_hasPart, e_hasChild, pa, ch, e_fail1, xbc, ↓reduceIte, ↓if_pos, ↓if_neg, xin, Int.toNat_natCast]
    rw [hK]
    simp (disch := omega) only [b_M_worth_0, e_isChild9, e_isPart9, x39, xbc, ↓reduceIte, ↓if_pos, ↓if_neg, xin, Int.toNat_natCast]
    exact fin1 h

theorem call_law {d : Nat} {σ : xM} (h : Inv σ) (x a b c : Int) : Ev (d + 9) m_P_law 0 [vR 4 0, vI x, vI a, vI b, vI c] [] σ (fun r s => Ev (d + 9) m_M_law 0 [vR 40 0, vI x, vI a, vI b, vI c] [] s (fun r' s' => r = r' ∧ Inv s')) := by
  suffices q : ∀ K : Int → xM → Prop, (∀ r s, K r s = Ev (d + 9) m_M_law 0 [vR 40 0, vI x, vI a, vI b, vI c] [] s (fun r' s' => r = r' ∧ Inv s')) → Ev (d + 9) m_P_law 0 [vR 4 0, vI x, vI a, vI b, vI c] [] σ K from q _ (fun _ _ => rfl)
  intro K hK
  obtain ⟨n2, hn2, l2⟩ := xvl_p h.1
  obtain ⟨n3, hn3, l3⟩ := xvl_c h.1
  have hk := Inv_Kp h
  have pa := Kp_parts hk
  have ch := Kp_chn hk
  have ⟨p0, p7⟩ := h.1.1
  have ⟨c0, c7⟩ := h.1.2.1
  by_cases hx : 0 ≤ x ∧ x ≤ 1
  · have : x = 0 ∨ x = 1 := by omega
    rcases this with e | e <;> subst e
    · simp (disch := omega) only [b_P_law_0, e_isUse, xbc, ↓reduceIte, ↓if_pos, ↓if_neg, xin, Int.toNat_natCast]
      refine e_given0 hk (fun s hs => ?_)
      rw [hK]
      have i2 := Inv_Fr h (Fr_mono hs (by decide))
      have e41 : s 41 = σ 41 := hs 41 (by decide)
      simp (disch := omega) only [b_M_law_0, e_in, xbc, ↓reduceIte, ↓if_pos, ↓if_neg, xin, Int.toNat_natCast]
      rw [← e41]
      exact m_gives0 (xtx_tk (i2.2.1.2.2.2.2.2.2 0 (by decide))) (fun s2 hs2 => ⟨rfl, Inv_Fr i2 (Fr_mono hs2 (by decide))⟩)
    · simp (disch := omega) only [b_P_law_0, e_isUse, xbc, ↓reduceIte, ↓if_pos, ↓if_neg, xin, Int.toNat_natCast]
      refine e_given1 hk (fun s hs => ?_)
      rw [hK]
      have i2 := Inv_Fr h (Fr_mono hs (by decide))
      have e41 : s 41 = σ 41 := hs 41 (by decide)
      simp (disch := omega) only [b_M_law_0, e_in, xbc, ↓reduceIte, ↓if_pos, ↓if_neg, xin, Int.toNat_natCast]
      rw [← e41]
      exact m_gives1 (xtx_tk (i2.2.1.2.2.2.2.2.2 1 (by decide))) (fun s2 hs2 => ⟨rfl, Inv_Fr i2 (Fr_mono hs2 (by decide))⟩)
  · simp (disch := omega) only [b_P_law_0, e_isUse, e_fail1, xbc, ↓reduceIte, ↓if_pos, ↓if_neg, xin, Int.toNat_natCast]
    rw [hK]
    simp (disch := omega) only [b_M_law_0, e_in, x39, xbc, ↓reduceIte, ↓if_pos, ↓if_neg, xin, Int.toNat_natCast]
    exact fin1 h
end
section
/-! what changes -/
def qu (R : Nat → Int) (j : Nat) (v : Int) : Nat → Int := fun i => if i = j then v else R i
theorem qu_s {R : Nat → Int} {j : Nat} {v : Int} : qu R j v j = v := if_pos rfl
theorem qu_n {R : Nat → Int} {j i : Nat} {v : Int} (h : i ≠ j) : qu R j v i = R i := if_neg h
theorem xup_row {σ : xM} {t i j : Nat} {v : Int} : xup σ t i j v t i = qu (σ t i) j v := by
  funext k
  unfold xup qu
  by_cases h : k = j
  · rw [if_pos ⟨rfl, rfl, h⟩, if_pos h]
  · rw [if_neg (fun q => h q.2.2), if_neg h]
theorem cA_p {σ σ' : xM} {R R' : Nat → Int} (h : xcA σ 0 R) (e : σ' 5 0 = σ 5 0) (r : ∀ j, j < 7 → R' j = R j) : xcA σ' 0 R' := by
  unfold xcA at h ⊢
  rw [e, r 0 (by decide), r 1 (by decide), r 2 (by decide), r 3 (by decide), r 4 (by decide), r 5 (by decide), r 6 (by decide)]
  exact h
theorem cB_p {σ σ' : xM} {R R' : Nat → Int} (h : xcB σ 0 R) (e : ∀ i, i < 7 → σ' 7 i = σ 7 i) (r : ∀ j, 7 ≤ j → j < 21 → R' j = R j) : xcB σ' 0 R' := by
  intro p hp
  have := h p hp
  rw [show xst 0 p = p from rfl] at this ⊢
  rw [e p hp, r _ (by omega) (by omega), r _ (by omega) (by omega)]
  exact this
theorem cC_p {σ σ' : xM} {R R' : Nat → Int} (h : xcC σ 0 R) (e : ∀ i, i < 7 → σ' 9 i = σ 9 i) (r : ∀ j, 21 ≤ j → j < 84 → R' j = R j) : xcC σ' 0 R' := by
  intro p hp k hk
  have := h p hp k hk
  rw [show xst 0 p = p from rfl] at this ⊢
  rw [e p hp, r _ (by omega) (by omega)]
  exact this
theorem cW_p {σ σ' : xM} {R R' : Nat → Int} (h : xcW σ 0 R) (e : ∀ i, i < 7 → σ' 10 i = σ 10 i) (r : ∀ j, 21 ≤ j → j < 84 → R' j = R j) : xcW σ' 0 R' := by
  intro p hp k hk
  have := h p hp k hk
  rw [show xst 0 p = p from rfl] at this ⊢
  rw [e p hp, r _ (by omega) (by omega)]
  exact this
theorem cT_p {σ σ' : xM} {R R' : Nat → Int} (h : xcT σ 0 R) (e : σ' 11 0 = σ 11 0) (r : ∀ j, 84 ≤ j → j < 144 → R' j = R j) : xcT σ' 0 R' := by
  intro i hi
  rw [e, r _ (by omega) (by omega)]
  exact h i hi
theorem cN_p {σ σ' : xM} {R R' : Nat → Int} (h : xcN σ 0 R) (e : σ' 16 0 = σ 16 0) (r : ∀ j, 144 ≤ j → j < 168 → R' j = R j) : xcN σ' 0 R' := by
  intro i hi
  rw [e, r _ (by omega) (by omega)]
  exact h i hi
theorem cX_p {σ σ' : xM} {R R' : Nat → Int} (h : xcX σ 0 R) (e : ∀ u, u < 2 → σ' 13 u = σ 13 u ∧ σ' 14 u = σ 14 u) (r : ∀ j, 168 ≤ j → R' j = R j) : xcX σ' 0 R' := by
  intro u hu
  have := h u hu
  rw [show xs2 0 u = u from rfl] at this ⊢
  rw [(e u hu).1, (e u hu).2, show (fun k => R' (168 + 121 * u + k)) = fun k => R (168 + 121 * u + k) from funext fun k => r _ (by omega)]
  exact this
/-- the present alone changed -/
def st1 (t i : Nat) : Prop := (t = 5 ∧ i = 1) ∨ (t = 7 ∧ 7 ≤ i) ∨ (t = 9 ∧ 7 ≤ i) ∨ (t = 10 ∧ 7 ≤ i) ∨ (t = 11 ∧ i = 1) ∨ (t = 13 ∧ 2 ≤ i ∧ i ≤ 3) ∨ (t = 14 ∧ 2 ≤ i ∧ i ≤ 3) ∨ (t = 16 ∧ i = 1)
def qNw : List Nat := [5, 7, 9, 10, 11, 13, 14, 16, 41, 15, 17, 18, 19, 20, 21, 22, 23, 24, 25, 26, 27, 28, 29, 30, 31, 32, 38, 43, 48, 49, 50, 51, 52, 53, 54, 55]
def N1 (σ τ : xM) : Prop := Fr qNw σ τ ∧ ∀ t i, st1 t i → τ t i = σ t i
theorem N1_refl {σ : xM} : N1 σ σ := ⟨Fr_refl, fun _ _ _ => rfl⟩
theorem N1_trans {σ s u : xM} (h1 : N1 σ s) (h2 : N1 s u) : N1 σ u := ⟨Fr_trans h1.1 h2.1, fun t i q => (h2.2 t i q).trans (h1.2 t i q)⟩
theorem st1_tag {t i : Nat} (h : st1 t i) : t = 5 ∨ t = 7 ∨ t = 9 ∨ t = 10 ∨ t = 11 ∨ t = 13 ∨ t = 14 ∨ t = 16 := by
  unfold st1 at h
  omega
def qFrOk (l : List Nat) : Bool := l.all (fun t => qNw.elem t && !([5, 7, 9, 10, 11, 13, 14, 16].elem t))
theorem N1_Fr {l : List Nat} {σ s : xM} (h : Fr l σ s) (hl : qFrOk l = true) : N1 σ s := by
  unfold qFrOk at hl
  have g := List.all_eq_true.mp hl
  refine ⟨Fr_mono h (fun t ht => ?_), fun t i hq => ?_⟩
  · have := g t ht
    simp at this
    exact this.1
  · rw [h t (fun hm => ?_)]
    have := g t hm
    simp at this
    have q := st1_tag hq
    omega
theorem N1_up {σ : xM} {t i j : Nat} {v : Int} (h : t ∈ qNw) (hi : ¬ st1 t i) : N1 σ (xup σ t i j v) := by
  refine ⟨Fr_up h, fun t' i' q => ?_⟩
  by_cases e : t' = t
  · subst e
    by_cases e2 : i' = i
    · subst e2
      exact absurd q hi
    · rw [xup_i e2]
  · rw [xup_t e]
theorem Inv_now {σ τ : xM} (h : Inv σ) (n : N1 σ τ) (k : Kp τ (τ 41 0)) : Inv τ := by
  obtain ⟨i1, i2, i3, i4, i5, i6⟩ := h
  have f := n.1
  refine ⟨k.1, k.2, ?_, ?_, ?_, ?_⟩
  · unfold xiE at i3 ⊢
    rw [f 39 (by decide), f 44 (by decide)]
    exact i3
  · unfold xiK at i4 ⊢
    rw [f 4 (by decide), f 40 (by decide), f 42 (by decide)]
    refine ⟨i4.1, fun hn => ⟨(i4.2 hn).1, ?_⟩⟩
    obtain ⟨j1, j2, j3, j4, j5, j6, j7⟩ := (i4.2 hn).2
    refine ⟨?_, ?_, ?_, ?_, ?_, ?_, ?_⟩
    · unfold xcA at j1 ⊢
      rw [n.2 5 1 (Or.inl ⟨rfl, rfl⟩)]
      exact j1
    · intro p hp
      rw [n.2 7 (xst 1 p) (by show st1 7 (7 + p); unfold st1; omega)]
      exact j2 p hp
    · intro p hp k hk
      rw [n.2 9 (xst 1 p) (by show st1 9 (7 + p); unfold st1; omega)]
      exact j3 p hp k hk
    · intro p hp k hk
      rw [n.2 10 (xst 1 p) (by show st1 10 (7 + p); unfold st1; omega)]
      exact j4 p hp k hk
    · intro i hi
      rw [n.2 11 1 (by unfold st1; omega)]
      exact j5 i hi
    · intro i hi
      rw [n.2 16 1 (by unfold st1; omega)]
      exact j6 i hi
    · intro u hu
      rw [n.2 13 (xs2 1 u) (by show st1 13 (2 + u); unfold st1; omega), n.2 14 (xs2 1 u) (by show st1 14 (2 + u); unfold st1; omega)]
      exact j7 u hu
  · unfold xiS at i5 ⊢
    rw [f 36 (by decide), f 37 (by decide), f 45 (by decide), f 46 (by decide), f 47 (by decide)]
    exact i5
  · unfold xiV at i6 ⊢
    rw [f 33 (by decide), f 34 (by decide), f 40 (by decide), f 56 (by decide)]
    exact i6
theorem xcpl_up9 {σ : xM} {R : Nat → Int} {c k : Nat} {v : Int} (h : xcpl σ 0 R) (hc : c < 7) (hk : k < 6) : xcpl (xup σ 9 c k v) 0 (qu R (21 + 9 * c + k) v) := by
  refine ⟨cA_p h.1 (by rw [xup_t (by decide)]) (fun j hj => qu_n (by omega)), cB_p h.2.1 (fun i _ => by rw [xup_t (by decide)]) (fun j _ _ => qu_n (by omega)), ?_, ?_, cT_p h.2.2.2.2.1 (by rw [xup_t (by decide)]) (fun j _ _ => qu_n (by omega)), cN_p h.2.2.2.2.2.1 (by rw [xup_t (by decide)]) (fun j _ _ => qu_n (by omega)), cX_p h.2.2.2.2.2.2 (fun u _ => ⟨by rw [xup_t (by decide)], by rw [xup_t (by decide)]⟩) (fun j _ => qu_n (by omega))⟩
  · intro a ha b hb
    have := h.2.2.1 a ha b hb
    rw [show xst 0 a = a from rfl] at this ⊢
    by_cases e : a = c
    · subst e
      by_cases e2 : b = k
      · subst e2
        rw [xup_s, qu_s]
      · rw [xup_k e2, qu_n (by omega)]
        exact this
    · rw [xup_i e, qu_n (by omega)]
      exact this
  · intro a ha b hb
    rw [xup_t (by decide), qu_n (by omega)]
    exact h.2.2.2.1 a ha b hb
theorem xcpl_up10 {σ : xM} {R : Nat → Int} {c k : Nat} {v : Int} (h : xcpl σ 0 R) (hc : c < 7) (hk : k < 3) : xcpl (xup σ 10 c k v) 0 (qu R (21 + 9 * c + (6 + k)) v) := by
  refine ⟨cA_p h.1 (by rw [xup_t (by decide)]) (fun j hj => qu_n (by omega)), cB_p h.2.1 (fun i _ => by rw [xup_t (by decide)]) (fun j _ _ => qu_n (by omega)), ?_, ?_, cT_p h.2.2.2.2.1 (by rw [xup_t (by decide)]) (fun j _ _ => qu_n (by omega)), cN_p h.2.2.2.2.2.1 (by rw [xup_t (by decide)]) (fun j _ _ => qu_n (by omega)), cX_p h.2.2.2.2.2.2 (fun u _ => ⟨by rw [xup_t (by decide)], by rw [xup_t (by decide)]⟩) (fun j _ => qu_n (by omega))⟩
  · intro a ha b hb
    rw [xup_t (by decide), qu_n (by omega)]
    exact h.2.2.1 a ha b hb
  · intro a ha b hb
    have := h.2.2.2.1 a ha b hb
    rw [show xst 0 a = a from rfl] at this ⊢
    by_cases e : a = c
    · subst e
      by_cases e2 : b = k
      · subst e2
        rw [xup_s, qu_s]
      · rw [xup_k e2, qu_n (by omega)]
        exact this
    · rw [xup_i e, qu_n (by omega)]
      exact this
/-- a field of the stage and its place in the row -/
def q5 (k : Nat) : Nat := match k with
  | 0 => 2
  | 1 => 3
  | 2 => 0
  | 3 => 4
  | 4 => 1
  | 5 => 5
  | _ => 6
theorem xcpl_up5 {σ : xM} {R : Nat → Int} {k : Nat} {v : Int} (h : xcpl σ 0 R) (hk : k < 7) : xcpl (xup σ 5 0 k v) 0 (qu R (q5 k) v) := by
  have hq : q5 k < 7 := by
    have : k = 0 ∨ k = 1 ∨ k = 2 ∨ k = 3 ∨ k = 4 ∨ k = 5 ∨ k = 6 := by omega
    rcases this with e | e | e | e | e | e | e <;> subst e <;> decide
  refine ⟨?_, cB_p h.2.1 (fun i _ => by rw [xup_t (by decide)]) (fun j _ _ => qu_n (by omega)), cC_p h.2.2.1 (fun i _ => by rw [xup_t (by decide)]) (fun j _ _ => qu_n (by omega)), cW_p h.2.2.2.1 (fun i _ => by rw [xup_t (by decide)]) (fun j _ _ => qu_n (by omega)), cT_p h.2.2.2.2.1 (by rw [xup_t (by decide)]) (fun j _ _ => qu_n (by omega)), cN_p h.2.2.2.2.2.1 (by rw [xup_t (by decide)]) (fun j _ _ => qu_n (by omega)), cX_p h.2.2.2.2.2.2 (fun u _ => ⟨by rw [xup_t (by decide)], by rw [xup_t (by decide)]⟩) (fun j _ => qu_n (by omega))⟩
  obtain ⟨a0, a1, a2, a3, a4, a5, a6⟩ := h.1
  unfold xcA
  rw [xup_row]
  have : k = 0 ∨ k = 1 ∨ k = 2 ∨ k = 3 ∨ k = 4 ∨ k = 5 ∨ k = 6 := by omega
  rcases this with e | e | e | e | e | e | e <;> subst e <;> (refine ⟨?_, ?_, ?_, ?_, ?_, ?_, ?_⟩) <;> first | (show v = v; rfl) | assumption
theorem xcpl_up16 {σ : xM} {R : Nat → Int} {k : Nat} {v : Int} (h : xcpl σ 0 R) (hk : k < 24) : xcpl (xup σ 16 0 k v) 0 (qu R (144 + k) v) := by
  refine ⟨cA_p h.1 (by rw [xup_t (by decide)]) (fun j hj => qu_n (by omega)), cB_p h.2.1 (fun i _ => by rw [xup_t (by decide)]) (fun j _ _ => qu_n (by omega)), cC_p h.2.2.1 (fun i _ => by rw [xup_t (by decide)]) (fun j _ _ => qu_n (by omega)), cW_p h.2.2.2.1 (fun i _ => by rw [xup_t (by decide)]) (fun j _ _ => qu_n (by omega)), cT_p h.2.2.2.2.1 (by rw [xup_t (by decide)]) (fun j _ _ => qu_n (by omega)), ?_, cX_p h.2.2.2.2.2.2 (fun u _ => ⟨by rw [xup_t (by decide)], by rw [xup_t (by decide)]⟩) (fun j _ => qu_n (by omega))⟩
  intro i hi
  by_cases e : i = k
  · subst e
    rw [xup_s, qu_s]
  · rw [xup_k e, qu_n (by omega)]
    exact h.2.2.2.2.2.1 i hi
theorem xcpl_up11 {σ : xM} {R : Nat → Int} {k : Nat} {v : Int} (h : xcpl σ 0 R) (hk : k < 60) : xcpl (xup σ 11 0 k v) 0 (qu R (84 + k) v) := by
  refine ⟨cA_p h.1 (by rw [xup_t (by decide)]) (fun j hj => qu_n (by omega)), cB_p h.2.1 (fun i _ => by rw [xup_t (by decide)]) (fun j _ _ => qu_n (by omega)), cC_p h.2.2.1 (fun i _ => by rw [xup_t (by decide)]) (fun j _ _ => qu_n (by omega)), cW_p h.2.2.2.1 (fun i _ => by rw [xup_t (by decide)]) (fun j _ _ => qu_n (by omega)), ?_, cN_p h.2.2.2.2.2.1 (by rw [xup_t (by decide)]) (fun j _ _ => qu_n (by omega)), cX_p h.2.2.2.2.2.2 (fun u _ => ⟨by rw [xup_t (by decide)], by rw [xup_t (by decide)]⟩) (fun j _ => qu_n (by omega))⟩
  intro i hi
  by_cases e : i = k
  · subst e
    rw [xup_s, qu_s]
  · rw [xup_k e, qu_n (by omega)]
    exact h.2.2.2.2.1 i hi
theorem xvl_ch {R : Nat → Int} {c k : Nat} {v : Int} (h : xvl R) (hk : k < 9) (h0 : k = 0 → 0 ≤ v ∧ v ≤ 9) (h1 : k = 1 → 1 ≤ v ∧ v ≤ 9) (h2 : k = 2 → v = 0 ∨ v = 1) (h3 : k = 3 → v = 0 ∨ v = 1) (h4 : 4 ≤ k → -1 ≤ v ∧ v < R 2) : xvl (qu R (21 + 9 * c + k) v) := by
  obtain ⟨v1, v2, v3, v4, v5, v6, v7, v8, v9⟩ := h
  have e : ∀ j, j < 21 → qu R (21 + 9 * c + k) v j = R j := fun j hj => qu_n (by omega)
  have g : ∀ a j, j < 9 → qu R (21 + 9 * c + k) v (21 + 9 * a + j) = R (21 + 9 * a + j) ∨ (k = j ∧ qu R (21 + 9 * c + k) v (21 + 9 * a + j) = v) := by
    intro a j hj
    by_cases q : 21 + 9 * a + j = 21 + 9 * c + k
    · exact Or.inr ⟨by omega, by rw [q, qu_s]⟩
    · exact Or.inl (qu_n q)
  refine ⟨by rw [e 2 (by decide)]; exact v1, by rw [e 3 (by decide)]; exact v2, by rw [e 0 (by decide)]; exact v3, by rw [e 4 (by decide)]; exact v4, by rw [e 5 (by decide)]; exact v5, by rw [e 6 (by decide)]; exact v6, ?_, ?_, ?_⟩
  · intro p hp
    rw [e 2 (by decide)] at hp
    rw [e _ (by omega), e _ (by omega)]
    exact v7 p hp
  · intro a ha
    rw [e 3 (by decide)] at ha
    obtain ⟨u0, u1, u2, u3, u4, u5⟩ := v8 a ha
    rw [e 2 (by decide)]
    refine ⟨?_, ?_, ?_, ?_, ?_, ?_⟩
    · rcases g a 0 (by decide) with q | ⟨q1, q2⟩
      · rw [q]; exact u0
      · rw [q2]; exact h0 q1
    · rcases g a 1 (by decide) with q | ⟨q1, q2⟩
      · rw [q]; exact u1
      · rw [q2]; exact h1 q1
    · rcases g a 2 (by decide) with q | ⟨q1, q2⟩
      · rw [q]; exact u2
      · rw [q2]; exact h2 q1
    · rcases g a 3 (by decide) with q | ⟨q1, q2⟩
      · rw [q]; exact u3
      · rw [q2]; exact h3 q1
    · rcases g a 4 (by decide) with q | ⟨q1, q2⟩
      · rw [q]; exact u4
      · rw [q2]; exact h4 (by omega)
    · rcases g a 5 (by decide) with q | ⟨q1, q2⟩
      · rw [q]; exact u5
      · rw [q2]; exact h4 (by omega)
  · intro a ha j hj
    rw [e 3 (by decide)] at ha
    rw [e 2 (by decide)]
    rcases g a (6 + j) (by omega) with q | ⟨q1, q2⟩
    · rw [q]; exact v9 a ha j hj
    · rw [q2]; exact h4 (by omega)
theorem xvl_hi {R : Nat → Int} {j : Nat} {v : Int} (h : xvl R) (hj : 84 ≤ j) : xvl (qu R j v) := by
  have e2 : ∀ i, i < 7 → qu R j v i = R i := fun i hi => qu_n (by omega)
  obtain ⟨v1, v2, v3, v4, v5, v6, v7, v8, v9⟩ := h
  refine ⟨by rw [e2 2 (by decide)]; exact v1, by rw [e2 3 (by decide)]; exact v2, by rw [e2 0 (by decide)]; exact v3, by rw [e2 4 (by decide)]; exact v4, by rw [e2 5 (by decide)]; exact v5, by rw [e2 6 (by decide)]; exact v6, ?_, ?_, ?_⟩
  · intro p hp
    rw [e2 2 (by decide)] at hp
    rw [qu_n (by omega), qu_n (by omega)]
    exact v7 p hp
  · intro a ha
    rw [e2 3 (by decide)] at ha
    rw [e2 2 (by decide), qu_n (by omega), qu_n (by omega), qu_n (by omega), qu_n (by omega), qu_n (by omega), qu_n (by omega)]
    exact v8 a ha
  · intro a ha k hk
    rw [e2 3 (by decide)] at ha
    rw [e2 2 (by decide), qu_n (by omega)]
    exact v9 a ha k hk
theorem xvl_lo {R : Nat → Int} {j : Nat} {v : Int} (h : xvl R) (hj : j < 7) (h2 : j ≠ 2) (h3 : j ≠ 3) (h0 : j = 0 → 0 ≤ v ∧ v ≤ 9999) (h4 : j = 4 → -99999 ≤ v ∧ v ≤ 99999) (h5 : j = 5 → 0 ≤ v ∧ v ≤ 60) (h6 : j = 6 → 0 ≤ v ∧ v ≤ 24) : xvl (qu R j v) := by
  obtain ⟨v1, v2, v3, v4, v5, v6, v7, v8, v9⟩ := h
  have e2 : qu R j v 2 = R 2 := qu_n (fun q => h2 q.symm)
  have e3 : qu R j v 3 = R 3 := qu_n (fun q => h3 q.symm)
  have g : ∀ i, qu R j v i = R i ∨ (j = i ∧ qu R j v i = v) := fun i => by
    by_cases q : i = j
    · exact Or.inr ⟨q.symm, by rw [q, qu_s]⟩
    · exact Or.inl (qu_n q)
  refine ⟨by rw [e2]; exact v1, by rw [e3]; exact v2, ?_, ?_, ?_, ?_, ?_, ?_, ?_⟩
  · rcases g 0 with q | ⟨q1, q2⟩
    · rw [q]; exact v3
    · rw [q2]; exact h0 q1
  · rcases g 4 with q | ⟨q1, q2⟩
    · rw [q]; exact v4
    · rw [q2]; exact h4 q1
  · rcases g 5 with q | ⟨q1, q2⟩
    · rw [q]; exact v5
    · rw [q2]; exact h5 q1
  · rcases g 6 with q | ⟨q1, q2⟩
    · rw [q]; exact v6
    · rw [q2]; exact h6 q1
  · intro p hp
    rw [e2] at hp
    rw [qu_n (by omega), qu_n (by omega)]
    exact v7 p hp
  · intro a ha
    rw [e3] at ha
    rw [e2, qu_n (by omega), qu_n (by omega), qu_n (by omega), qu_n (by omega), qu_n (by omega), qu_n (by omega)]
    exact v8 a ha
  · intro a ha k hk
    rw [e3] at ha
    rw [e2, qu_n (by omega)]
    exact v9 a ha k hk
end
