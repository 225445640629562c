section
-- ===== PART A: goes FIRST, ahead of the names: the tables' words, and 'selects' of the private methods out of them =====
/-- a private method of a class that the tables say can be made, by its rows of tables_1 -/
def lw_okq (q : MethodName × Nat) : Prop := (q.1.cls ≠ "java/lang/invoke/MethodHandle" ∧ q.1.cls ≠ "java/lang/invoke/VarHandle") ∧ Cond.instantiable q.1.cls q.2 ∈ tables_1 ∧ Cond.privateMethod q.1 ∈ tables_1 ∧ Cond.instanceMethod q.1 ∈ tables_1
theorem lw_p0 : lw_okq (⟨"ArcheryField$Reader", "skipBlanks", "()V"⟩, 7) := ⟨⟨by decide +kernel, by decide +kernel⟩, List.mem_of_getElem? (i := 31) (by decide +kernel), List.mem_of_getElem? (i := 244) (by decide +kernel), List.mem_of_getElem? (i := 245) (by decide +kernel)⟩
theorem lw_p1 : lw_okq (⟨"ArcheryField$Reader", "readStatement", "()Z"⟩, 7) := ⟨⟨by decide +kernel, by decide +kernel⟩, List.mem_of_getElem? (i := 31) (by decide +kernel), List.mem_of_getElem? (i := 255) (by decide +kernel), List.mem_of_getElem? (i := 256) (by decide +kernel)⟩
theorem lw_p2 : lw_okq (⟨"ArcheryField$Reader", "skipLetters", "()V"⟩, 7) := ⟨⟨by decide +kernel, by decide +kernel⟩, List.mem_of_getElem? (i := 31) (by decide +kernel), List.mem_of_getElem? (i := 259) (by decide +kernel), List.mem_of_getElem? (i := 260) (by decide +kernel)⟩
theorem lw_p3 : lw_okq (⟨"ArcheryField$Reader", "isSpelt", "(ILjava/lang/String;)Z"⟩, 7) := ⟨⟨by decide +kernel, by decide +kernel⟩, List.mem_of_getElem? (i := 31) (by decide +kernel), List.mem_of_getElem? (i := 267) (by decide +kernel), List.mem_of_getElem? (i := 268) (by decide +kernel)⟩
theorem lw_p4 : lw_okq (⟨"ArcheryField$Reader", "readFace", "(I)Z"⟩, 7) := ⟨⟨by decide +kernel, by decide +kernel⟩, List.mem_of_getElem? (i := 31) (by decide +kernel), List.mem_of_getElem? (i := 319) (by decide +kernel), List.mem_of_getElem? (i := 320) (by decide +kernel)⟩
theorem lw_p5 : lw_okq (⟨"ArcheryField$Reader", "refuse", "(II)Z"⟩, 7) := ⟨⟨by decide +kernel, by decide +kernel⟩, List.mem_of_getElem? (i := 31) (by decide +kernel), List.mem_of_getElem? (i := 327) (by decide +kernel), List.mem_of_getElem? (i := 328) (by decide +kernel)⟩
theorem lw_p6 : lw_okq (⟨"ArcheryField$Reader", "isDigitNext", "()Z"⟩, 7) := ⟨⟨by decide +kernel, by decide +kernel⟩, List.mem_of_getElem? (i := 31) (by decide +kernel), List.mem_of_getElem? (i := 331) (by decide +kernel), List.mem_of_getElem? (i := 332) (by decide +kernel)⟩
theorem lw_p7 : lw_okq (⟨"ArcheryField$Reader", "readNumber", "(II)Z"⟩, 7) := ⟨⟨by decide +kernel, by decide +kernel⟩, List.mem_of_getElem? (i := 31) (by decide +kernel), List.mem_of_getElem? (i := 338) (by decide +kernel), List.mem_of_getElem? (i := 339) (by decide +kernel)⟩
theorem lw_p8 : lw_okq (⟨"ArcheryField$Reader", "readSign", "(C)Z"⟩, 7) := ⟨⟨by decide +kernel, by decide +kernel⟩, List.mem_of_getElem? (i := 31) (by decide +kernel), List.mem_of_getElem? (i := 342) (by decide +kernel), List.mem_of_getElem? (i := 343) (by decide +kernel)⟩
theorem lw_p9 : lw_okq (⟨"ArcheryField$Reader", "readLeg", "(I)Z"⟩, 7) := ⟨⟨by decide +kernel, by decide +kernel⟩, List.mem_of_getElem? (i := 31) (by decide +kernel), List.mem_of_getElem? (i := 351) (by decide +kernel), List.mem_of_getElem? (i := 352) (by decide +kernel)⟩
theorem lw_p10 : lw_okq (⟨"ArcheryField$Reader", "mayTie", "(I)Z"⟩, 7) := ⟨⟨by decide +kernel, by decide +kernel⟩, List.mem_of_getElem? (i := 31) (by decide +kernel), List.mem_of_getElem? (i := 361) (by decide +kernel), List.mem_of_getElem? (i := 362) (by decide +kernel)⟩
theorem lw_p11 : lw_okq (⟨"ArcheryField$Reader", "readOnce", "(III)Z"⟩, 7) := ⟨⟨by decide +kernel, by decide +kernel⟩, List.mem_of_getElem? (i := 31) (by decide +kernel), List.mem_of_getElem? (i := 377) (by decide +kernel), List.mem_of_getElem? (i := 378) (by decide +kernel)⟩
theorem lw_p12 : lw_okq (⟨"ArcheryField", "change", "()LArcheryField$State;"⟩, 6) := ⟨⟨by decide +kernel, by decide +kernel⟩, List.mem_of_getElem? (i := 23) (by decide +kernel), List.mem_of_getElem? (i := 391) (by decide +kernel), List.mem_of_getElem? (i := 392) (by decide +kernel)⟩
theorem lw_p13 : lw_okq (⟨"ArcheryField$Quiver", "judgeOne", "(LArcheryField$Round;II)I"⟩, 5) := ⟨⟨by decide +kernel, by decide +kernel⟩, List.mem_of_getElem? (i := 120) (by decide +kernel), List.mem_of_getElem? (i := 588) (by decide +kernel), List.mem_of_getElem? (i := 589) (by decide +kernel)⟩
theorem lw_p14 : lw_okq (⟨"ArcheryField$Quiver", "judgeIn", "(II)I"⟩, 5) := ⟨⟨by decide +kernel, by decide +kernel⟩, List.mem_of_getElem? (i := 120) (by decide +kernel), List.mem_of_getElem? (i := 597) (by decide +kernel), List.mem_of_getElem? (i := 598) (by decide +kernel)⟩
theorem lw_p15 : lw_okq (⟨"ArcheryField$Scores", "standsFor", "(III)Z"⟩, 1) := ⟨⟨by decide +kernel, by decide +kernel⟩, List.mem_of_getElem? (i := 489) (by decide +kernel), List.mem_of_getElem? (i := 753) (by decide +kernel), List.mem_of_getElem? (i := 754) (by decide +kernel)⟩
def lw_privs_1 : List (MethodName × Nat) := [(⟨"ArcheryField$Reader", "skipBlanks", "()V"⟩, 7), (⟨"ArcheryField$Reader", "readStatement", "()Z"⟩, 7), (⟨"ArcheryField$Reader", "skipLetters", "()V"⟩, 7), (⟨"ArcheryField$Reader", "isSpelt", "(ILjava/lang/String;)Z"⟩, 7), (⟨"ArcheryField$Reader", "readFace", "(I)Z"⟩, 7), (⟨"ArcheryField$Reader", "refuse", "(II)Z"⟩, 7), (⟨"ArcheryField$Reader", "isDigitNext", "()Z"⟩, 7), (⟨"ArcheryField$Reader", "readNumber", "(II)Z"⟩, 7), (⟨"ArcheryField$Reader", "readSign", "(C)Z"⟩, 7), (⟨"ArcheryField$Reader", "readLeg", "(I)Z"⟩, 7), (⟨"ArcheryField$Reader", "mayTie", "(I)Z"⟩, 7), (⟨"ArcheryField$Reader", "readOnce", "(III)Z"⟩, 7), (⟨"ArcheryField", "change", "()LArcheryField$State;"⟩, 6), (⟨"ArcheryField$Quiver", "judgeOne", "(LArcheryField$Round;II)I"⟩, 5), (⟨"ArcheryField$Quiver", "judgeIn", "(II)I"⟩, 5), (⟨"ArcheryField$Scores", "standsFor", "(III)Z"⟩, 1)]
theorem lw_r1 : ∀ q ∈ lw_privs_1, lw_okq q := List.forall_mem_cons.mpr ⟨lw_p0, List.forall_mem_cons.mpr ⟨lw_p1, List.forall_mem_cons.mpr ⟨lw_p2, List.forall_mem_cons.mpr ⟨lw_p3, List.forall_mem_cons.mpr ⟨lw_p4, List.forall_mem_cons.mpr ⟨lw_p5, List.forall_mem_cons.mpr ⟨lw_p6, List.forall_mem_cons.mpr ⟨lw_p7, List.forall_mem_cons.mpr ⟨lw_p8, List.forall_mem_cons.mpr ⟨lw_p9, List.forall_mem_cons.mpr ⟨lw_p10, List.forall_mem_cons.mpr ⟨lw_p11, List.forall_mem_cons.mpr ⟨lw_p12, List.forall_mem_cons.mpr ⟨lw_p13, List.forall_mem_cons.mpr ⟨lw_p14, List.forall_mem_cons.mpr ⟨lw_p15, fun _ h => absurd h List.not_mem_nil⟩⟩⟩⟩⟩⟩⟩⟩⟩⟩⟩⟩⟩⟩⟩⟩
theorem lw_p16 : lw_okq (⟨"ArcheryField$Planner", "nextPlace", "(II)I"⟩, 7) := ⟨⟨by decide +kernel, by decide +kernel⟩, List.mem_of_getElem? (i := 787) (by decide +kernel), List.mem_of_getElem? (i := 824) (by decide +kernel), List.mem_of_getElem? (i := 825) (by decide +kernel)⟩
theorem lw_p17 : lw_okq (⟨"ArcheryField$Planner", "isParted", "(II)Z"⟩, 7) := ⟨⟨by decide +kernel, by decide +kernel⟩, List.mem_of_getElem? (i := 787) (by decide +kernel), List.mem_of_getElem? (i := 828) (by decide +kernel), List.mem_of_getElem? (i := 829) (by decide +kernel)⟩
theorem lw_p18 : lw_okq (⟨"ArcheryField$Planner", "clubOn", "(I)I"⟩, 7) := ⟨⟨by decide +kernel, by decide +kernel⟩, List.mem_of_getElem? (i := 787) (by decide +kernel), List.mem_of_getElem? (i := 832) (by decide +kernel), List.mem_of_getElem? (i := 833) (by decide +kernel)⟩
theorem lw_p19 : lw_okq (⟨"ArcheryField$Planner", "put", "(II)V"⟩, 7) := ⟨⟨by decide +kernel, by decide +kernel⟩, List.mem_of_getElem? (i := 787) (by decide +kernel), List.mem_of_getElem? (i := 836) (by decide +kernel), List.mem_of_getElem? (i := 837) (by decide +kernel)⟩
theorem lw_p20 : lw_okq (⟨"ArcheryField$Planner", "lift", "(I)V"⟩, 7) := ⟨⟨by decide +kernel, by decide +kernel⟩, List.mem_of_getElem? (i := 787) (by decide +kernel), List.mem_of_getElem? (i := 840) (by decide +kernel), List.mem_of_getElem? (i := 841) (by decide +kernel)⟩
theorem lw_p21 : lw_okq (⟨"ArcheryField$Line", "isAnyOfBay", "(II)Z"⟩, 3) := ⟨⟨by decide +kernel, by decide +kernel⟩, List.mem_of_getElem? (i := 166) (by decide +kernel), List.mem_of_getElem? (i := 868) (by decide +kernel), List.mem_of_getElem? (i := 869) (by decide +kernel)⟩
theorem lw_p22 : lw_okq (⟨"ArcheryFieldModel", "next", "()V"⟩, 31) := ⟨⟨by decide +kernel, by decide +kernel⟩, List.mem_of_getElem? (i := 885) (by decide +kernel), List.mem_of_getElem? (i := 1004) (by decide +kernel), List.mem_of_getElem? (i := 1005) (by decide +kernel)⟩
theorem lw_p23 : lw_okq (⟨"ArcheryFieldModel", "statement", "()V"⟩, 31) := ⟨⟨by decide +kernel, by decide +kernel⟩, List.mem_of_getElem? (i := 885) (by decide +kernel), List.mem_of_getElem? (i := 1014) (by decide +kernel), List.mem_of_getElem? (i := 1015) (by decide +kernel)⟩
theorem lw_p24 : lw_okq (⟨"ArcheryFieldModel", "fail", "(II)V"⟩, 31) := ⟨⟨by decide +kernel, by decide +kernel⟩, List.mem_of_getElem? (i := 885) (by decide +kernel), List.mem_of_getElem? (i := 1018) (by decide +kernel), List.mem_of_getElem? (i := 1019) (by decide +kernel)⟩
theorem lw_p25 : lw_okq (⟨"ArcheryFieldModel", "isWord", "([C)Z"⟩, 31) := ⟨⟨by decide +kernel, by decide +kernel⟩, List.mem_of_getElem? (i := 885) (by decide +kernel), List.mem_of_getElem? (i := 1022) (by decide +kernel), List.mem_of_getElem? (i := 1023) (by decide +kernel)⟩
theorem lw_p26 : lw_okq (⟨"ArcheryFieldModel", "face", "()V"⟩, 31) := ⟨⟨by decide +kernel, by decide +kernel⟩, List.mem_of_getElem? (i := 885) (by decide +kernel), List.mem_of_getElem? (i := 1026) (by decide +kernel), List.mem_of_getElem? (i := 1027) (by decide +kernel)⟩
theorem lw_p27 : lw_okq (⟨"ArcheryFieldModel", "sign", "(I)V"⟩, 31) := ⟨⟨by decide +kernel, by decide +kernel⟩, List.mem_of_getElem? (i := 885) (by decide +kernel), List.mem_of_getElem? (i := 1030) (by decide +kernel), List.mem_of_getElem? (i := 1031) (by decide +kernel)⟩
theorem lw_p28 : lw_okq (⟨"ArcheryFieldModel", "numberOf", "(II)I"⟩, 31) := ⟨⟨by decide +kernel, by decide +kernel⟩, List.mem_of_getElem? (i := 885) (by decide +kernel), List.mem_of_getElem? (i := 1034) (by decide +kernel), List.mem_of_getElem? (i := 1035) (by decide +kernel)⟩
theorem lw_p29 : lw_okq (⟨"ArcheryFieldModel", "leg", "()V"⟩, 31) := ⟨⟨by decide +kernel, by decide +kernel⟩, List.mem_of_getElem? (i := 885) (by decide +kernel), List.mem_of_getElem? (i := 1038) (by decide +kernel), List.mem_of_getElem? (i := 1039) (by decide +kernel)⟩
theorem lw_p30 : lw_okq (⟨"ArcheryFieldModel", "tie", "(I)V"⟩, 31) := ⟨⟨by decide +kernel, by decide +kernel⟩, List.mem_of_getElem? (i := 885) (by decide +kernel), List.mem_of_getElem? (i := 1043) (by decide +kernel), List.mem_of_getElem? (i := 1044) (by decide +kernel)⟩
theorem lw_p31 : lw_okq (⟨"ArcheryFieldModel", "once", "(III)V"⟩, 31) := ⟨⟨by decide +kernel, by decide +kernel⟩, List.mem_of_getElem? (i := 885) (by decide +kernel), List.mem_of_getElem? (i := 1047) (by decide +kernel), List.mem_of_getElem? (i := 1048) (by decide +kernel)⟩
def lw_privs_2 : List (MethodName × Nat) := [(⟨"ArcheryField$Planner", "nextPlace", "(II)I"⟩, 7), (⟨"ArcheryField$Planner", "isParted", "(II)Z"⟩, 7), (⟨"ArcheryField$Planner", "clubOn", "(I)I"⟩, 7), (⟨"ArcheryField$Planner", "put", "(II)V"⟩, 7), (⟨"ArcheryField$Planner", "lift", "(I)V"⟩, 7), (⟨"ArcheryField$Line", "isAnyOfBay", "(II)Z"⟩, 3), (⟨"ArcheryFieldModel", "next", "()V"⟩, 31), (⟨"ArcheryFieldModel", "statement", "()V"⟩, 31), (⟨"ArcheryFieldModel", "fail", "(II)V"⟩, 31), (⟨"ArcheryFieldModel", "isWord", "([C)Z"⟩, 31), (⟨"ArcheryFieldModel", "face", "()V"⟩, 31), (⟨"ArcheryFieldModel", "sign", "(I)V"⟩, 31), (⟨"ArcheryFieldModel", "numberOf", "(II)I"⟩, 31), (⟨"ArcheryFieldModel", "leg", "()V"⟩, 31), (⟨"ArcheryFieldModel", "tie", "(I)V"⟩, 31), (⟨"ArcheryFieldModel", "once", "(III)V"⟩, 31)]
theorem lw_r2 : ∀ q ∈ lw_privs_2, lw_okq q := List.forall_mem_cons.mpr ⟨lw_p16, List.forall_mem_cons.mpr ⟨lw_p17, List.forall_mem_cons.mpr ⟨lw_p18, List.forall_mem_cons.mpr ⟨lw_p19, List.forall_mem_cons.mpr ⟨lw_p20, List.forall_mem_cons.mpr ⟨lw_p21, List.forall_mem_cons.mpr ⟨lw_p22, List.forall_mem_cons.mpr ⟨lw_p23, List.forall_mem_cons.mpr ⟨lw_p24, List.forall_mem_cons.mpr ⟨lw_p25, List.forall_mem_cons.mpr ⟨lw_p26, List.forall_mem_cons.mpr ⟨lw_p27, List.forall_mem_cons.mpr ⟨lw_p28, List.forall_mem_cons.mpr ⟨lw_p29, List.forall_mem_cons.mpr ⟨lw_p30, List.forall_mem_cons.mpr ⟨lw_p31, fun _ h => absurd h List.not_mem_nil⟩⟩⟩⟩⟩⟩⟩⟩⟩⟩⟩⟩⟩⟩⟩⟩
theorem lw_p32 : lw_okq (⟨"ArcheryFieldModel", "keeps", "()V"⟩, 31) := ⟨⟨by decide +kernel, by decide +kernel⟩, List.mem_of_getElem? (i := 885) (by decide +kernel), List.mem_of_getElem? (i := 1051) (by decide +kernel), List.mem_of_getElem? (i := 1052) (by decide +kernel)⟩
theorem lw_p33 : lw_okq (⟨"ArcheryFieldModel", "isArcher", "(I)Z"⟩, 31) := ⟨⟨by decide +kernel, by decide +kernel⟩, List.mem_of_getElem? (i := 885) (by decide +kernel), List.mem_of_getElem? (i := 1072) (by decide +kernel), List.mem_of_getElem? (i := 1073) (by decide +kernel)⟩
theorem lw_p34 : lw_okq (⟨"ArcheryFieldModel", "total", "(I)I"⟩, 31) := ⟨⟨by decide +kernel, by decide +kernel⟩, List.mem_of_getElem? (i := 885) (by decide +kernel), List.mem_of_getElem? (i := 1080) (by decide +kernel), List.mem_of_getElem? (i := 1081) (by decide +kernel)⟩
theorem lw_p35 : lw_okq (⟨"ArcheryFieldModel", "arrowsOf", "(I)I"⟩, 31) := ⟨⟨by decide +kernel, by decide +kernel⟩, List.mem_of_getElem? (i := 885) (by decide +kernel), List.mem_of_getElem? (i := 1084) (by decide +kernel), List.mem_of_getElem? (i := 1085) (by decide +kernel)⟩
theorem lw_p36 : lw_okq (⟨"ArcheryFieldModel", "legOf", "(I)I"⟩, 31) := ⟨⟨by decide +kernel, by decide +kernel⟩, List.mem_of_getElem? (i := 885) (by decide +kernel), List.mem_of_getElem? (i := 1088) (by decide +kernel), List.mem_of_getElem? (i := 1089) (by decide +kernel)⟩
theorem lw_p37 : lw_okq (⟨"ArcheryFieldModel", "sum", "(III)I"⟩, 31) := ⟨⟨by decide +kernel, by decide +kernel⟩, List.mem_of_getElem? (i := 885) (by decide +kernel), List.mem_of_getElem? (i := 1092) (by decide +kernel), List.mem_of_getElem? (i := 1093) (by decide +kernel)⟩
theorem lw_p38 : lw_okq (⟨"ArcheryFieldModel", "lastEnd", "(I)I"⟩, 31) := ⟨⟨by decide +kernel, by decide +kernel⟩, List.mem_of_getElem? (i := 885) (by decide +kernel), List.mem_of_getElem? (i := 1096) (by decide +kernel), List.mem_of_getElem? (i := 1097) (by decide +kernel)⟩
theorem lw_p39 : lw_okq (⟨"ArcheryFieldModel", "hit", "(III)I"⟩, 31) := ⟨⟨by decide +kernel, by decide +kernel⟩, List.mem_of_getElem? (i := 885) (by decide +kernel), List.mem_of_getElem? (i := 1111) (by decide +kernel), List.mem_of_getElem? (i := 1112) (by decide +kernel)⟩
theorem lw_p40 : lw_okq (⟨"ArcheryFieldModel", "most", "(II)I"⟩, 31) := ⟨⟨by decide +kernel, by decide +kernel⟩, List.mem_of_getElem? (i := 885) (by decide +kernel), List.mem_of_getElem? (i := 1135) (by decide +kernel), List.mem_of_getElem? (i := 1136) (by decide +kernel)⟩
theorem lw_p41 : lw_okq (⟨"ArcheryFieldModel", "square", "(II)I"⟩, 31) := ⟨⟨by decide +kernel, by decide +kernel⟩, List.mem_of_getElem? (i := 885) (by decide +kernel), List.mem_of_getElem? (i := 1139) (by decide +kernel), List.mem_of_getElem? (i := 1140) (by decide +kernel)⟩
theorem lw_p42 : lw_okq (⟨"ArcheryFieldModel", "isFree", "(I)Z"⟩, 31) := ⟨⟨by decide +kernel, by decide +kernel⟩, List.mem_of_getElem? (i := 885) (by decide +kernel), List.mem_of_getElem? (i := 1180) (by decide +kernel), List.mem_of_getElem? (i := 1181) (by decide +kernel)⟩
theorem lw_p43 : lw_okq (⟨"ArcheryFieldModel", "isParted", "(I)Z"⟩, 31) := ⟨⟨by decide +kernel, by decide +kernel⟩, List.mem_of_getElem? (i := 885) (by decide +kernel), List.mem_of_getElem? (i := 1184) (by decide +kernel), List.mem_of_getElem? (i := 1185) (by decide +kernel)⟩
def lw_privs_3 : List (MethodName × Nat) := [(⟨"ArcheryFieldModel", "keeps", "()V"⟩, 31), (⟨"ArcheryFieldModel", "isArcher", "(I)Z"⟩, 31), (⟨"ArcheryFieldModel", "total", "(I)I"⟩, 31), (⟨"ArcheryFieldModel", "arrowsOf", "(I)I"⟩, 31), (⟨"ArcheryFieldModel", "legOf", "(I)I"⟩, 31), (⟨"ArcheryFieldModel", "sum", "(III)I"⟩, 31), (⟨"ArcheryFieldModel", "lastEnd", "(I)I"⟩, 31), (⟨"ArcheryFieldModel", "hit", "(III)I"⟩, 31), (⟨"ArcheryFieldModel", "most", "(II)I"⟩, 31), (⟨"ArcheryFieldModel", "square", "(II)I"⟩, 31), (⟨"ArcheryFieldModel", "isFree", "(I)Z"⟩, 31), (⟨"ArcheryFieldModel", "isParted", "(I)Z"⟩, 31)]
theorem lw_r3 : ∀ q ∈ lw_privs_3, lw_okq q := List.forall_mem_cons.mpr ⟨lw_p32, List.forall_mem_cons.mpr ⟨lw_p33, List.forall_mem_cons.mpr ⟨lw_p34, List.forall_mem_cons.mpr ⟨lw_p35, List.forall_mem_cons.mpr ⟨lw_p36, List.forall_mem_cons.mpr ⟨lw_p37, List.forall_mem_cons.mpr ⟨lw_p38, List.forall_mem_cons.mpr ⟨lw_p39, List.forall_mem_cons.mpr ⟨lw_p40, List.forall_mem_cons.mpr ⟨lw_p41, List.forall_mem_cons.mpr ⟨lw_p42, List.forall_mem_cons.mpr ⟨lw_p43, fun _ h => absurd h List.not_mem_nil⟩⟩⟩⟩⟩⟩⟩⟩⟩⟩⟩⟩
def lw_privs : List (MethodName × Nat) := lw_privs_1 ++ (lw_privs_2 ++ (lw_privs_3))
def lw_tbl : List Cond := k2_sels lw_privs ++ tables_1
theorem lw_privs_ok : ∀ q ∈ lw_privs, lw_okq q := by
  show ∀ q ∈ lw_privs_1 ++ (lw_privs_2 ++ (lw_privs_3)), lw_okq q
  exact List.forall_mem_append.mpr ⟨lw_r1, List.forall_mem_append.mpr ⟨lw_r2, lw_r3⟩⟩
def RX0 : String := "ArcheryField$Archer"
def TX0 : u_T := fun k => match k with
  | 0 => ("ArcheryField$Archer", "club", "I", true)
  | 1 => ("ArcheryField$Archer", "shots", "LArcheryField$Shots;", true)
  | _ => ("ArcheryField$Archer", "scores", "LArcheryField$Scores;", true)
def tyX0 : Nat → FieldType := fun k => match k with
  | 0 => .int
  | 1 => .object "ArcheryField$Shots"
  | _ => .object "ArcheryField$Scores"
abbrev wsX00 : List Cond := u_ws RX0 TX0 3
theorem nmX0 : ∀ a, a < 3 → ∀ b, b < 3 → a ≠ b → (TX0 a).2.1 ≠ (TX0 b).2.1 := by decide +kernel
theorem tyX0_ok : ∀ k, k < 3 → parseFieldDescriptor (TX0 k).2.2.1 = some (tyX0 k) := by decide +kernel
abbrev cX0_init : ByteArray := prog_2_method_1_code
def yX0_init : MethodName := ⟨RX0, "<init>", "(ILArcheryField$Shots;LArcheryField$Scores;)V"⟩
abbrev cX0_with : ByteArray := prog_2_method_2_code
def yX0_with : MethodName := ⟨RX0, "with", "(LArcheryField$Shots;)LArcheryField$Archer;"⟩
abbrev cX0_with_ : ByteArray := prog_2_method_3_code
def yX0_with_ : MethodName := ⟨RX0, "with", "(LArcheryField$Scores;)LArcheryField$Archer;"⟩
def RX1 : String := "ArcheryField$Laws"
def TX1 : u_T := fun k => match k with
  | _ => ("ArcheryField$Laws", "rows", "[I", true)
def tyX1 : Nat → FieldType := fun k => match k with
  | _ => .array .int
abbrev wsX10 : List Cond := u_ws RX1 TX1 1
theorem nmX1 : ∀ a, a < 1 → ∀ b, b < 1 → a ≠ b → (TX1 a).2.1 ≠ (TX1 b).2.1 := by decide +kernel
theorem tyX1_ok : ∀ k, k < 1 → parseFieldDescriptor (TX1 k).2.2.1 = some (tyX1 k) := by decide +kernel
abbrev cX1_init : ByteArray := prog_3_method_1_code
def yX1_init : MethodName := ⟨RX1, "<init>", "()V"⟩
abbrev cX1_init_ : ByteArray := prog_3_method_2_code
def yX1_init_ : MethodName := ⟨RX1, "<init>", "([I)V"⟩
abbrev cX1_count : ByteArray := prog_3_method_3_code
def yX1_count : MethodName := ⟨RX1, "count", "()I"⟩
abbrev cX1_canAdd : ByteArray := prog_3_method_4_code
def yX1_canAdd : MethodName := ⟨RX1, "canAdd", "(II)Z"⟩
abbrev cX1_with : ByteArray := prog_3_method_5_code
def yX1_with : MethodName := ⟨RX1, "with", "(III)LArcheryField$Laws;"⟩
abbrev cX1_classOf : ByteArray := prog_3_method_6_code
def yX1_classOf : MethodName := ⟨RX1, "classOf", "(LArcheryField$Scores;II)I"⟩
def RX2 : String := "ArcheryField$Line"
def TX2 : u_T := fun k => match k with
  | 0 => ("ArcheryField$Line", "bays", "[I", true)
  | 1 => ("ArcheryField$Line", "states", "[I", true)
  | _ => ("ArcheryField$Line", "seats", "[I", true)
def tyX2 : Nat → FieldType := fun k => match k with
  | 0 => .array .int
  | 1 => .array .int
  | _ => .array .int
abbrev wsX20 : List Cond := u_ws RX2 TX2 3
theorem nmX2 : ∀ a, a < 3 → ∀ b, b < 3 → a ≠ b → (TX2 a).2.1 ≠ (TX2 b).2.1 := by decide +kernel
theorem tyX2_ok : ∀ k, k < 3 → parseFieldDescriptor (TX2 k).2.2.1 = some (tyX2 k) := by decide +kernel
abbrev cX2_init : ByteArray := prog_4_method_1_code
def yX2_init : MethodName := ⟨RX2, "<init>", "()V"⟩
abbrev cX2_init_ : ByteArray := prog_4_method_2_code
def yX2_init_ : MethodName := ⟨RX2, "<init>", "([I[I[I)V"⟩
abbrev cX2_countLanes : ByteArray := prog_4_method_3_code
def yX2_countLanes : MethodName := ⟨RX2, "countLanes", "()I"⟩
abbrev cX2_countPlaces : ByteArray := prog_4_method_4_code
def yX2_countPlaces : MethodName := ⟨RX2, "countPlaces", "()I"⟩
abbrev cX2_canAdd : ByteArray := prog_4_method_5_code
def yX2_canAdd : MethodName := ⟨RX2, "canAdd", "(I)Z"⟩
abbrev cX2_withBay : ByteArray := prog_4_method_6_code
def yX2_withBay : MethodName := ⟨RX2, "withBay", "(I)LArcheryField$Line;"⟩
abbrev cX2_withSeats : ByteArray := prog_4_method_7_code
def yX2_withSeats : MethodName := ⟨RX2, "withSeats", "([I)LArcheryField$Line;"⟩
abbrev cX2_without : ByteArray := prog_4_method_8_code
def yX2_without : MethodName := ⟨RX2, "without", "(I)LArcheryField$Line;"⟩
abbrev cX2_placeOf : ByteArray := prog_4_method_9_code
def yX2_placeOf : MethodName := ⟨RX2, "placeOf", "(I)I"⟩
abbrev cX2_seatedOn : ByteArray := prog_4_method_10_code
def yX2_seatedOn : MethodName := ⟨RX2, "seatedOn", "(I)I"⟩
abbrev cX2_stateOf : ByteArray := prog_4_method_11_code
def yX2_stateOf : MethodName := ⟨RX2, "stateOf", "(I)I"⟩
abbrev cX2_mayBecome : ByteArray := prog_4_method_12_code
def yX2_mayBecome : MethodName := ⟨RX2, "mayBecome", "(II)Z"⟩
abbrev cX2_isAnyOfBay : ByteArray := prog_4_method_13_code
def yX2_isAnyOfBay : MethodName := ⟨RX2, "isAnyOfBay", "(II)Z"⟩
abbrev cX2_withState : ByteArray := prog_4_method_14_code
def yX2_withState : MethodName := ⟨RX2, "withState", "(II)LArcheryField$Line;"⟩
def RX3 : String := "ArcheryField$Planner"
def TX3 : u_T := fun k => match k with
  | 0 => ("ArcheryField$Planner", "numbers", "[I", true)
  | 1 => ("ArcheryField$Planner", "clubs", "[I", true)
  | 2 => ("ArcheryField$Planner", "placed", "[I", true)
  | 3 => ("ArcheryField$Planner", "archers", "I", false)
  | 4 => ("ArcheryField$Planner", "seats", "[I", true)
  | 5 => ("ArcheryField$Planner", "seatClubs", "[I", true)
  | _ => ("ArcheryField$Planner", "tries", "I", false)
def tyX3 : Nat → FieldType := fun k => match k with
  | 0 => .array .int
  | 1 => .array .int
  | 2 => .array .int
  | 3 => .int
  | 4 => .array .int
  | 5 => .array .int
  | _ => .int
abbrev wsX30 : List Cond := u_ws RX3 TX3 7
theorem nmX3 : ∀ a, a < 7 → ∀ b, b < 7 → a ≠ b → (TX3 a).2.1 ≠ (TX3 b).2.1 := by decide +kernel
theorem tyX3_ok : ∀ k, k < 7 → parseFieldDescriptor (TX3 k).2.2.1 = some (tyX3 k) := by decide +kernel
abbrev cX3_init : ByteArray := prog_5_method_1_code
def yX3_init : MethodName := ⟨RX3, "<init>", "(LArcheryField$State;I)V"⟩
abbrev cX3_search : ByteArray := prog_5_method_2_code
def yX3_search : MethodName := ⟨RX3, "search", "()I"⟩
abbrev cX3_nextPlace : ByteArray := prog_5_method_3_code
def yX3_nextPlace : MethodName := ⟨RX3, "nextPlace", "(II)I"⟩
abbrev cX3_isParted : ByteArray := prog_5_method_4_code
def yX3_isParted : MethodName := ⟨RX3, "isParted", "(II)Z"⟩
abbrev cX3_clubOn : ByteArray := prog_5_method_5_code
def yX3_clubOn : MethodName := ⟨RX3, "clubOn", "(I)I"⟩
abbrev cX3_put : ByteArray := prog_5_method_6_code
def yX3_put : MethodName := ⟨RX3, "put", "(II)V"⟩
abbrev cX3_lift : ByteArray := prog_5_method_7_code
def yX3_lift : MethodName := ⟨RX3, "lift", "(I)V"⟩
def RX4 : String := "ArcheryField$Quiver"
def TX4 : u_T := fun k => match k with
  | 0 => ("ArcheryField$Quiver", "kinds", "[I", true)
  | 1 => ("ArcheryField$Quiver", "xs", "[I", true)
  | 2 => ("ArcheryField$Quiver", "ys", "[I", true)
  | 3 => ("ArcheryField$Quiver", "count", "I", false)
  | _ => ("ArcheryField$Quiver", "judged", "[I", true)
def tyX4 : Nat → FieldType := fun k => match k with
  | 0 => .array .int
  | 1 => .array .int
  | 2 => .array .int
  | 3 => .int
  | _ => .array .int
abbrev wsX40 : List Cond := u_ws RX4 TX4 5
theorem nmX4 : ∀ a, a < 5 → ∀ b, b < 5 → a ≠ b → (TX4 a).2.1 ≠ (TX4 b).2.1 := by decide +kernel
theorem tyX4_ok : ∀ k, k < 5 → parseFieldDescriptor (TX4 k).2.2.1 = some (tyX4 k) := by decide +kernel
abbrev cX4_init : ByteArray := prog_6_method_1_code
def yX4_init : MethodName := ⟨RX4, "<init>", "()V"⟩
abbrev cX4_add : ByteArray := prog_6_method_2_code
def yX4_add : MethodName := ⟨RX4, "add", "(III)Z"⟩
abbrev cX4_canBe : ByteArray := prog_6_method_3_code
def yX4_canBe : MethodName := ⟨RX4, "canBe", "(III)Z"⟩
abbrev cX4_empty : ByteArray := prog_6_method_4_code
def yX4_empty : MethodName := ⟨RX4, "empty", "()I"⟩
abbrev cX4_judge : ByteArray := prog_6_method_5_code
def yX4_judge : MethodName := ⟨RX4, "judge", "(LArcheryField$Round;II)I"⟩
abbrev cX4_judgeOne : ByteArray := prog_6_method_6_code
def yX4_judgeOne : MethodName := ⟨RX4, "judgeOne", "(LArcheryField$Round;II)I"⟩
abbrev cX4_judgeIn : ByteArray := prog_6_method_7_code
def yX4_judgeIn : MethodName := ⟨RX4, "judgeIn", "(II)I"⟩
def RX5 : String := "ArcheryField$Reader"
def TX5 : u_T := fun k => match k with
  | 0 => ("ArcheryField$Reader", "tape", "LArcheryField$Tape;", true)
  | 1 => ("ArcheryField$Reader", "draft", "LArcheryField$Round;", false)
  | 2 => ("ArcheryField$Reader", "at", "I", false)
  | 3 => ("ArcheryField$Reader", "number", "I", false)
  | 4 => ("ArcheryField$Reader", "numberPlace", "I", false)
  | 5 => ("ArcheryField$Reader", "fault", "I", false)
  | _ => ("ArcheryField$Reader", "place", "I", false)
def tyX5 : Nat → FieldType := fun k => match k with
  | 0 => .object "ArcheryField$Tape"
  | 1 => .object "ArcheryField$Round"
  | 2 => .int
  | 3 => .int
  | 4 => .int
  | 5 => .int
  | _ => .int
abbrev wsX50 : List Cond := u_ws RX5 TX5 7
theorem nmX5 : ∀ a, a < 7 → ∀ b, b < 7 → a ≠ b → (TX5 a).2.1 ≠ (TX5 b).2.1 := by decide +kernel
theorem tyX5_ok : ∀ k, k < 7 → parseFieldDescriptor (TX5 k).2.2.1 = some (tyX5 k) := by decide +kernel
abbrev cX5_init : ByteArray := prog_7_method_1_code
def yX5_init : MethodName := ⟨RX5, "<init>", "()V"⟩
abbrev cX5_read : ByteArray := prog_7_method_2_code
def yX5_read : MethodName := ⟨RX5, "read", "()LArcheryField$Round;"⟩
abbrev cX5_readStatement : ByteArray := prog_7_method_3_code
def yX5_readStatement : MethodName := ⟨RX5, "readStatement", "()Z"⟩
abbrev cX5_readFace : ByteArray := prog_7_method_4_code
def yX5_readFace : MethodName := ⟨RX5, "readFace", "(I)Z"⟩
abbrev cX5_readLeg : ByteArray := prog_7_method_5_code
def yX5_readLeg : MethodName := ⟨RX5, "readLeg", "(I)Z"⟩
abbrev cX5_mayTie : ByteArray := prog_7_method_6_code
def yX5_mayTie : MethodName := ⟨RX5, "mayTie", "(I)Z"⟩
abbrev cX5_readOnce : ByteArray := prog_7_method_7_code
def yX5_readOnce : MethodName := ⟨RX5, "readOnce", "(III)Z"⟩
abbrev cX5_readNumber : ByteArray := prog_7_method_8_code
def yX5_readNumber : MethodName := ⟨RX5, "readNumber", "(II)Z"⟩
abbrev cX5_readSign : ByteArray := prog_7_method_9_code
def yX5_readSign : MethodName := ⟨RX5, "readSign", "(C)Z"⟩
abbrev cX5_isDigitNext : ByteArray := prog_7_method_10_code
def yX5_isDigitNext : MethodName := ⟨RX5, "isDigitNext", "()Z"⟩
abbrev cX5_skipBlanks : ByteArray := prog_7_method_11_code
def yX5_skipBlanks : MethodName := ⟨RX5, "skipBlanks", "()V"⟩
abbrev cX5_skipLetters : ByteArray := prog_7_method_12_code
def yX5_skipLetters : MethodName := ⟨RX5, "skipLetters", "()V"⟩
abbrev cX5_isSpelt : ByteArray := prog_7_method_13_code
def yX5_isSpelt : MethodName := ⟨RX5, "isSpelt", "(ILjava/lang/String;)Z"⟩
abbrev cX5_refuse : ByteArray := prog_7_method_14_code
def yX5_refuse : MethodName := ⟨RX5, "refuse", "(II)Z"⟩
abbrev cX5_isBlank : ByteArray := prog_7_method_15_code
def yX5_isBlank : MethodName := ⟨RX5, "isBlank", "(I)Z"⟩
abbrev cX5_isLetter : ByteArray := prog_7_method_16_code
def yX5_isLetter : MethodName := ⟨RX5, "isLetter", "(I)Z"⟩
abbrev cX5_isDigit : ByteArray := prog_7_method_17_code
def yX5_isDigit : MethodName := ⟨RX5, "isDigit", "(I)Z"⟩
def RX6 : String := "ArcheryField$Round"
def TX6 : u_T := fun k => match k with
  | 0 => ("ArcheryField$Round", "faces", "I", false)
  | 1 => ("ArcheryField$Round", "lines", "[I", true)
  | 2 => ("ArcheryField$Round", "radii", "[I", true)
  | 3 => ("ArcheryField$Round", "values", "[I", true)
  | 4 => ("ArcheryField$Round", "legs", "I", false)
  | 5 => ("ArcheryField$Round", "legEnds", "[I", true)
  | 6 => ("ArcheryField$Round", "legArrows", "[I", true)
  | 7 => ("ArcheryField$Round", "legFaces", "[I", true)
  | 8 => ("ArcheryField$Round", "ties", "I", false)
  | 9 => ("ArcheryField$Round", "tieKinds", "[I", true)
  | _ => ("ArcheryField$Round", "settings", "[I", true)
def tyX6 : Nat → FieldType := fun k => match k with
  | 0 => .int
  | 1 => .array .int
  | 2 => .array .int
  | 3 => .array .int
  | 4 => .int
  | 5 => .array .int
  | 6 => .array .int
  | 7 => .array .int
  | 8 => .int
  | 9 => .array .int
  | _ => .array .int
abbrev wsX60 : List Cond := u_ws RX6 TX6 11
theorem nmX6 : ∀ a, a < 11 → ∀ b, b < 11 → a ≠ b → (TX6 a).2.1 ≠ (TX6 b).2.1 := by decide +kernel
theorem tyX6_ok : ∀ k, k < 11 → parseFieldDescriptor (TX6 k).2.2.1 = some (tyX6 k) := by decide +kernel
abbrev cX6_init : ByteArray := prog_8_method_1_code
def yX6_init : MethodName := ⟨RX6, "<init>", "()V"⟩
abbrev cX6_addFace : ByteArray := prog_8_method_2_code
def yX6_addFace : MethodName := ⟨RX6, "addFace", "()Z"⟩
abbrev cX6_addLine : ByteArray := prog_8_method_3_code
def yX6_addLine : MethodName := ⟨RX6, "addLine", "(II)V"⟩
abbrev cX6_addLeg : ByteArray := prog_8_method_4_code
def yX6_addLeg : MethodName := ⟨RX6, "addLeg", "(III)Z"⟩
abbrev cX6_canTie : ByteArray := prog_8_method_5_code
def yX6_canTie : MethodName := ⟨RX6, "canTie", "()Z"⟩
abbrev cX6_addTie : ByteArray := prog_8_method_6_code
def yX6_addTie : MethodName := ⟨RX6, "addTie", "(I)Z"⟩
abbrev cX6_isSet : ByteArray := prog_8_method_7_code
def yX6_isSet : MethodName := ⟨RX6, "isSet", "(I)Z"⟩
abbrev cX6_set : ByteArray := prog_8_method_8_code
def yX6_set : MethodName := ⟨RX6, "set", "(II)Z"⟩
abbrev cX6_setting : ByteArray := prog_8_method_9_code
def yX6_setting : MethodName := ⟨RX6, "setting", "(I)I"⟩
abbrev cX6_tell : ByteArray := prog_8_method_10_code
def yX6_tell : MethodName := ⟨RX6, "tell", "(I)I"⟩
abbrev cX6_countEnds : ByteArray := prog_8_method_11_code
def yX6_countEnds : MethodName := ⟨RX6, "countEnds", "()I"⟩
abbrev cX6_countArrows : ByteArray := prog_8_method_12_code
def yX6_countArrows : MethodName := ⟨RX6, "countArrows", "()I"⟩
abbrev cX6_legOf : ByteArray := prog_8_method_13_code
def yX6_legOf : MethodName := ⟨RX6, "legOf", "(I)I"⟩
abbrev cX6_arrowsOf : ByteArray := prog_8_method_14_code
def yX6_arrowsOf : MethodName := ⟨RX6, "arrowsOf", "(I)I"⟩
abbrev cX6_valueAt : ByteArray := prog_8_method_15_code
def yX6_valueAt : MethodName := ⟨RX6, "valueAt", "(III)I"⟩
abbrev cX6_compare : ByteArray := prog_8_method_16_code
def yX6_compare : MethodName := ⟨RX6, "compare", "(LArcheryField$Shots;LArcheryField$Shots;)I"⟩
abbrev cX6_compareBy : ByteArray := prog_8_method_17_code
def yX6_compareBy : MethodName := ⟨RX6, "compareBy", "(ILArcheryField$Shots;LArcheryField$Shots;)I"⟩
abbrev cX6_compareOffs : ByteArray := prog_8_method_18_code
def yX6_compareOffs : MethodName := ⟨RX6, "compareOffs", "(LArcheryField$Shots;LArcheryField$Shots;)I"⟩
def RX7 : String := "ArcheryField$Scores"
def TX7 : u_T := fun k => match k with
  | _ => ("ArcheryField$Scores", "rows", "[I", true)
def tyX7 : Nat → FieldType := fun k => match k with
  | _ => .array .int
abbrev wsX70 : List Cond := u_ws RX7 TX7 1
theorem nmX7 : ∀ a, a < 1 → ∀ b, b < 1 → a ≠ b → (TX7 a).2.1 ≠ (TX7 b).2.1 := by decide +kernel
theorem tyX7_ok : ∀ k, k < 1 → parseFieldDescriptor (TX7 k).2.2.1 = some (tyX7 k) := by decide +kernel
abbrev cX7_init : ByteArray := prog_9_method_1_code
def yX7_init : MethodName := ⟨RX7, "<init>", "()V"⟩
abbrev cX7_init_ : ByteArray := prog_9_method_2_code
def yX7_init_ : MethodName := ⟨RX7, "<init>", "([I)V"⟩
abbrev cX7_count : ByteArray := prog_9_method_3_code
def yX7_count : MethodName := ⟨RX7, "count", "()I"⟩
abbrev cX7_with : ByteArray := prog_9_method_4_code
def yX7_with : MethodName := ⟨RX7, "with", "(III)LArcheryField$Scores;"⟩
abbrev cX7_canStrike : ByteArray := prog_9_method_5_code
def yX7_canStrike : MethodName := ⟨RX7, "canStrike", "(I)Z"⟩
abbrev cX7_withStruck : ByteArray := prog_9_method_6_code
def yX7_withStruck : MethodName := ⟨RX7, "withStruck", "(II)LArcheryField$Scores;"⟩
abbrev cX7_countFor : ByteArray := prog_9_method_7_code
def yX7_countFor : MethodName := ⟨RX7, "countFor", "(III)I"⟩
abbrev cX7_standsFor : ByteArray := prog_9_method_8_code
def yX7_standsFor : MethodName := ⟨RX7, "standsFor", "(III)Z"⟩
def RX8 : String := "ArcheryField$Shots"
def TX8 : u_T := fun k => match k with
  | 0 => ("ArcheryField$Shots", "sums", "[I", true)
  | 1 => ("ArcheryField$Shots", "counts", "[I", true)
  | _ => ("ArcheryField$Shots", "squares", "[I", true)
def tyX8 : Nat → FieldType := fun k => match k with
  | 0 => .array .int
  | 1 => .array .int
  | _ => .array .int
abbrev wsX80 : List Cond := u_ws RX8 TX8 3
theorem nmX8 : ∀ a, a < 3 → ∀ b, b < 3 → a ≠ b → (TX8 a).2.1 ≠ (TX8 b).2.1 := by decide +kernel
theorem tyX8_ok : ∀ k, k < 3 → parseFieldDescriptor (TX8 k).2.2.1 = some (tyX8 k) := by decide +kernel
abbrev cX8_init : ByteArray := prog_10_method_1_code
def yX8_init : MethodName := ⟨RX8, "<init>", "()V"⟩
abbrev cX8_init_ : ByteArray := prog_10_method_2_code
def yX8_init_ : MethodName := ⟨RX8, "<init>", "([I[I[I)V"⟩
abbrev cX8_countEnds : ByteArray := prog_10_method_3_code
def yX8_countEnds : MethodName := ⟨RX8, "countEnds", "()I"⟩
abbrev cX8_countOffs : ByteArray := prog_10_method_4_code
def yX8_countOffs : MethodName := ⟨RX8, "countOffs", "()I"⟩
abbrev cX8_total : ByteArray := prog_10_method_5_code
def yX8_total : MethodName := ⟨RX8, "total", "()I"⟩
abbrev cX8_lastSum : ByteArray := prog_10_method_6_code
def yX8_lastSum : MethodName := ⟨RX8, "lastSum", "()I"⟩
abbrev cX8_counted : ByteArray := prog_10_method_7_code
def yX8_counted : MethodName := ⟨RX8, "counted", "(I)I"⟩
abbrev cX8_countOf : ByteArray := prog_10_method_8_code
def yX8_countOf : MethodName := ⟨RX8, "countOf", "(I)I"⟩
abbrev cX8_squareOf : ByteArray := prog_10_method_9_code
def yX8_squareOf : MethodName := ⟨RX8, "squareOf", "(I)I"⟩
abbrev cX8_withEnd : ByteArray := prog_10_method_10_code
def yX8_withEnd : MethodName := ⟨RX8, "withEnd", "([III)LArcheryField$Shots;"⟩
abbrev cX8_withoutLast : ByteArray := prog_10_method_11_code
def yX8_withoutLast : MethodName := ⟨RX8, "withoutLast", "(I)LArcheryField$Shots;"⟩
abbrev cX8_withOff : ByteArray := prog_10_method_12_code
def yX8_withOff : MethodName := ⟨RX8, "withOff", "(I)LArcheryField$Shots;"⟩
abbrev cX8_joined : ByteArray := prog_10_method_13_code
def yX8_joined : MethodName := ⟨RX8, "joined", "([II)[I"⟩
def RX9 : String := "ArcheryField$State"
def TX9 : u_T := fun k => match k with
  | 0 => ("ArcheryField$State", "round", "LArcheryField$Round;", false)
  | 1 => ("ArcheryField$State", "archers", "[LArcheryField$Archer;", true)
  | 2 => ("ArcheryField$State", "laws", "LArcheryField$Laws;", false)
  | 3 => ("ArcheryField$State", "line", "LArcheryField$Line;", false)
  | _ => ("ArcheryField$State", "today", "I", false)
def tyX9 : Nat → FieldType := fun k => match k with
  | 0 => .object "ArcheryField$Round"
  | 1 => .array (.object "ArcheryField$Archer")
  | 2 => .object "ArcheryField$Laws"
  | 3 => .object "ArcheryField$Line"
  | _ => .int
abbrev wsX90 : List Cond := u_ws RX9 TX9 5
theorem nmX9 : ∀ a, a < 5 → ∀ b, b < 5 → a ≠ b → (TX9 a).2.1 ≠ (TX9 b).2.1 := by decide +kernel
theorem tyX9_ok : ∀ k, k < 5 → parseFieldDescriptor (TX9 k).2.2.1 = some (tyX9 k) := by decide +kernel
abbrev cX9_init : ByteArray := prog_11_method_1_code
def yX9_init : MethodName := ⟨RX9, "<init>", "()V"⟩
abbrev cX9_init_ : ByteArray := prog_11_method_2_code
def yX9_init_ : MethodName := ⟨RX9, "<init>", "(LArcheryField$State;)V"⟩
abbrev cX9_find : ByteArray := prog_11_method_3_code
def yX9_find : MethodName := ⟨RX9, "find", "(I)LArcheryField$Archer;"⟩
abbrev cX9_put : ByteArray := prog_11_method_4_code
def yX9_put : MethodName := ⟨RX9, "put", "(ILArcheryField$Archer;)V"⟩
abbrev cX9_freeNumber : ByteArray := prog_11_method_5_code
def yX9_freeNumber : MethodName := ⟨RX9, "freeNumber", "()I"⟩
abbrev cX9_forgetShots : ByteArray := prog_11_method_6_code
def yX9_forgetShots : MethodName := ⟨RX9, "forgetShots", "()V"⟩
def RX10 : String := "ArcheryField$Tape"
def TX10 : u_T := fun k => match k with
  | 0 => ("ArcheryField$Tape", "bytes", "[B", true)
  | _ => ("ArcheryField$Tape", "length", "I", false)
def tyX10 : Nat → FieldType := fun k => match k with
  | 0 => .array .byte
  | _ => .int
abbrev wsX100 : List Cond := u_ws RX10 TX10 2
theorem nmX10 : ∀ a, a < 2 → ∀ b, b < 2 → a ≠ b → (TX10 a).2.1 ≠ (TX10 b).2.1 := by decide +kernel
theorem tyX10_ok : ∀ k, k < 2 → parseFieldDescriptor (TX10 k).2.2.1 = some (tyX10 k) := by decide +kernel
abbrev cX10_init : ByteArray := prog_12_method_1_code
def yX10_init : MethodName := ⟨RX10, "<init>", "()V"⟩
abbrev cX10_append : ByteArray := prog_12_method_2_code
def yX10_append : MethodName := ⟨RX10, "append", "(I)V"⟩
abbrev cX10_signAt : ByteArray := prog_12_method_3_code
def yX10_signAt : MethodName := ⟨RX10, "signAt", "(I)I"⟩
def RX11 : String := "ArcheryField"
def TX11 : u_T := fun k => match k with
  | 0 => ("ArcheryField", "reader", "LArcheryField$Reader;", true)
  | 1 => ("ArcheryField", "tape", "LArcheryField$Tape;", true)
  | 2 => ("ArcheryField", "quiver", "LArcheryField$Quiver;", true)
  | 3 => ("ArcheryField", "kept", "[LArcheryField$State;", true)
  | 4 => ("ArcheryField", "keptCount", "I", false)
  | _ => ("ArcheryField", "now", "LArcheryField$State;", false)
def tyX11 : Nat → FieldType := fun k => match k with
  | 0 => .object "ArcheryField$Reader"
  | 1 => .object "ArcheryField$Tape"
  | 2 => .object "ArcheryField$Quiver"
  | 3 => .array (.object "ArcheryField$State")
  | 4 => .int
  | _ => .object "ArcheryField$State"
abbrev wsX110 : List Cond := u_ws RX11 TX11 6
theorem nmX11 : ∀ a, a < 6 → ∀ b, b < 6 → a ≠ b → (TX11 a).2.1 ≠ (TX11 b).2.1 := by decide +kernel
theorem tyX11_ok : ∀ k, k < 6 → parseFieldDescriptor (TX11 k).2.2.1 = some (tyX11 k) := by decide +kernel
abbrev cX11_init : ByteArray := prog_1_method_1_code
def yX11_init : MethodName := ⟨RX11, "<init>", "()V"⟩
abbrev cX11_feed : ByteArray := prog_1_method_2_code
def yX11_feed : MethodName := ⟨RX11, "feed", "(IIIII)I"⟩
abbrev cX11_end : ByteArray := prog_1_method_3_code
def yX11_end : MethodName := ⟨RX11, "end", "(I)Z"⟩
abbrev cX11_round : ByteArray := prog_1_method_4_code
def yX11_round : MethodName := ⟨RX11, "round", "()I"⟩
abbrev cX11_fault : ByteArray := prog_1_method_5_code
def yX11_fault : MethodName := ⟨RX11, "fault", "(I)I"⟩
abbrev cX11_of : ByteArray := prog_1_method_6_code
def yX11_of : MethodName := ⟨RX11, "of", "(I)I"⟩
abbrev cX11_archer : ByteArray := prog_1_method_7_code
def yX11_archer : MethodName := ⟨RX11, "archer", "(I)I"⟩
abbrev cX11_leave : ByteArray := prog_1_method_8_code
def yX11_leave : MethodName := ⟨RX11, "leave", "(I)Z"⟩
abbrev cX11_told : ByteArray := prog_1_method_9_code
def yX11_told : MethodName := ⟨RX11, "told", "(II)I"⟩
abbrev cX11_arrow : ByteArray := prog_1_method_10_code
def yX11_arrow : MethodName := ⟨RX11, "arrow", "(III)I"⟩
abbrev cX11_shoot : ByteArray := prog_1_method_11_code
def yX11_shoot : MethodName := ⟨RX11, "shoot", "(I)I"⟩
abbrev cX11_value : ByteArray := prog_1_method_12_code
def yX11_value : MethodName := ⟨RX11, "value", "(II)I"⟩
abbrev cX11_take : ByteArray := prog_1_method_13_code
def yX11_take : MethodName := ⟨RX11, "take", "(I)I"⟩
abbrev cX11_off : ByteArray := prog_1_method_14_code
def yX11_off : MethodName := ⟨RX11, "off", "(IIII)I"⟩
abbrev cX11_ahead : ByteArray := prog_1_method_15_code
def yX11_ahead : MethodName := ⟨RX11, "ahead", "(II)I"⟩
abbrev cX11_rank : ByteArray := prog_1_method_16_code
def yX11_rank : MethodName := ⟨RX11, "rank", "(I)I"⟩
abbrev cX11_today : ByteArray := prog_1_method_17_code
def yX11_today : MethodName := ⟨RX11, "today", "(I)Z"⟩
abbrev cX11_score : ByteArray := prog_1_method_18_code
def yX11_score : MethodName := ⟨RX11, "score", "(III)I"⟩
abbrev cX11_strike : ByteArray := prog_1_method_19_code
def yX11_strike : MethodName := ⟨RX11, "strike", "(II)Z"⟩
abbrev cX11_law : ByteArray := prog_1_method_20_code
def yX11_law : MethodName := ⟨RX11, "law", "(III)I"⟩
abbrev cX11_kind : ByteArray := prog_1_method_21_code
def yX11_kind : MethodName := ⟨RX11, "kind", "(III)I"⟩
abbrev cX11_bay : ByteArray := prog_1_method_22_code
def yX11_bay : MethodName := ⟨RX11, "bay", "(I)I"⟩
abbrev cX11_layout : ByteArray := prog_1_method_23_code
def yX11_layout : MethodName := ⟨RX11, "layout", "()I"⟩
abbrev cX11_on : ByteArray := prog_1_method_24_code
def yX11_on : MethodName := ⟨RX11, "on", "(I)I"⟩
abbrev cX11_lane : ByteArray := prog_1_method_25_code
def yX11_lane : MethodName := ⟨RX11, "lane", "(II)I"⟩
abbrev cX11_state : ByteArray := prog_1_method_26_code
def yX11_state : MethodName := ⟨RX11, "state", "(I)I"⟩
abbrev cX11_undo : ByteArray := prog_1_method_27_code
def yX11_undo : MethodName := ⟨RX11, "undo", "()I"⟩
abbrev cX11_change : ByteArray := prog_1_method_28_code
def yX11_change : MethodName := ⟨RX11, "change", "()LArcheryField$State;"⟩
abbrev cX11_isDay : ByteArray := prog_1_method_29_code
def yX11_isDay : MethodName := ⟨RX11, "isDay", "(I)Z"⟩
abbrev cX11_isScore : ByteArray := prog_1_method_30_code
def yX11_isScore : MethodName := ⟨RX11, "isScore", "(I)Z"⟩
abbrev cX11_isOnField : ByteArray := prog_1_method_31_code
def yX11_isOnField : MethodName := ⟨RX11, "isOnField", "(II)Z"⟩
def RX12 : String := "ArcheryFieldModel"
def TX12 : u_T := fun k => match k with
  | 0 => ("ArcheryFieldModel", "d", "[I", true)
  | 1 => ("ArcheryFieldModel", "changes", "I", false)
  | 2 => ("ArcheryFieldModel", "tape", "[I", true)
  | 3 => ("ArcheryFieldModel", "taped", "I", false)
  | 4 => ("ArcheryFieldModel", "at", "I", false)
  | 5 => ("ArcheryFieldModel", "size", "I", false)
  | 6 => ("ArcheryFieldModel", "token", "I", false)
  | 7 => ("ArcheryFieldModel", "begun", "I", false)
  | 8 => ("ArcheryFieldModel", "number", "I", false)
  | 9 => ("ArcheryFieldModel", "bad", "I", false)
  | 10 => ("ArcheryFieldModel", "badPlace", "I", false)
  | 11 => ("ArcheryFieldModel", "fault", "I", false)
  | 12 => ("ArcheryFieldModel", "faultPlace", "I", false)
  | 13 => ("ArcheryFieldModel", "faceWord", "[C", true)
  | 14 => ("ArcheryFieldModel", "legWord", "[C", true)
  | 15 => ("ArcheryFieldModel", "mostWord", "[C", true)
  | 16 => ("ArcheryFieldModel", "lastWord", "[C", true)
  | 17 => ("ArcheryFieldModel", "nearestWord", "[C", true)
  | 18 => ("ArcheryFieldModel", "bouncedWord", "[C", true)
  | 19 => ("ArcheryFieldModel", "passedWord", "[C", true)
  | 20 => ("ArcheryFieldModel", "shaftWord", "[C", true)
  | 21 => ("ArcheryFieldModel", "\x72", "[I", true)
  | 22 => ("ArcheryFieldModel", "had", "[Z", true)
  | 23 => ("ArcheryFieldModel", "waits", "I", false)
  | 24 => ("ArcheryFieldModel", "waitKind", "[I", true)
  | 25 => ("ArcheryFieldModel", "waitX", "[I", true)
  | 26 => ("ArcheryFieldModel", "waitY", "[I", true)
  | 27 => ("ArcheryFieldModel", "counted", "[I", true)
  | 28 => ("ArcheryFieldModel", "placed", "I", false)
  | 29 => ("ArcheryFieldModel", "who", "[I", true)
  | _ => ("ArcheryFieldModel", "where", "[I", true)
def tyX12 : Nat → FieldType := fun k => match k with
  | 0 => .array .int
  | 1 => .int
  | 2 => .array .int
  | 3 => .int
  | 4 => .int
  | 5 => .int
  | 6 => .int
  | 7 => .int
  | 8 => .int
  | 9 => .int
  | 10 => .int
  | 11 => .int
  | 12 => .int
  | 13 => .array .char
  | 14 => .array .char
  | 15 => .array .char
  | 16 => .array .char
  | 17 => .array .char
  | 18 => .array .char
  | 19 => .array .char
  | 20 => .array .char
  | 21 => .array .int
  | 22 => .array .boolean
  | 23 => .int
  | 24 => .array .int
  | 25 => .array .int
  | 26 => .array .int
  | 27 => .array .int
  | 28 => .int
  | 29 => .array .int
  | _ => .array .int
abbrev wsX120 : List Cond := u_ws RX12 TX12 31
theorem nmX12 : ∀ a, a < 31 → ∀ b, b < 31 → a ≠ b → (TX12 a).2.1 ≠ (TX12 b).2.1 := by decide +kernel
theorem tyX12_ok : ∀ k, k < 31 → parseFieldDescriptor (TX12 k).2.2.1 = some (tyX12 k) := by decide +kernel
abbrev cX12_init : ByteArray := prog_14_method_1_code
def yX12_init : MethodName := ⟨RX12, "<init>", "()V"⟩
abbrev cX12_keeps : ByteArray := prog_14_method_2_code
def yX12_keeps : MethodName := ⟨RX12, "keeps", "()V"⟩
abbrev cX12_undo : ByteArray := prog_14_method_3_code
def yX12_undo : MethodName := ⟨RX12, "undo", "()I"⟩
abbrev cX12_feed : ByteArray := prog_14_method_4_code
def yX12_feed : MethodName := ⟨RX12, "feed", "(IIIII)I"⟩
abbrev cX12_end : ByteArray := prog_14_method_5_code
def yX12_end : MethodName := ⟨RX12, "end", "(I)Z"⟩
abbrev cX12_fail : ByteArray := prog_14_method_6_code
def yX12_fail : MethodName := ⟨RX12, "fail", "(II)V"⟩
abbrev cX12_isLetter : ByteArray := prog_14_method_7_code
def yX12_isLetter : MethodName := ⟨RX12, "isLetter", "(I)Z"⟩
abbrev cX12_isDigit : ByteArray := prog_14_method_8_code
def yX12_isDigit : MethodName := ⟨RX12, "isDigit", "(I)Z"⟩
abbrev cX12_next : ByteArray := prog_14_method_9_code
def yX12_next : MethodName := ⟨RX12, "next", "()V"⟩
abbrev cX12_isWord : ByteArray := prog_14_method_10_code
def yX12_isWord : MethodName := ⟨RX12, "isWord", "([C)Z"⟩
abbrev cX12_numberOf : ByteArray := prog_14_method_11_code
def yX12_numberOf : MethodName := ⟨RX12, "numberOf", "(II)I"⟩
abbrev cX12_sign : ByteArray := prog_14_method_12_code
def yX12_sign : MethodName := ⟨RX12, "sign", "(I)V"⟩
abbrev cX12_face : ByteArray := prog_14_method_13_code
def yX12_face : MethodName := ⟨RX12, "face", "()V"⟩
abbrev cX12_leg : ByteArray := prog_14_method_14_code
def yX12_leg : MethodName := ⟨RX12, "leg", "()V"⟩
abbrev cX12_tie : ByteArray := prog_14_method_15_code
def yX12_tie : MethodName := ⟨RX12, "tie", "(I)V"⟩
abbrev cX12_once : ByteArray := prog_14_method_16_code
def yX12_once : MethodName := ⟨RX12, "once", "(III)V"⟩
abbrev cX12_statement : ByteArray := prog_14_method_17_code
def yX12_statement : MethodName := ⟨RX12, "statement", "()V"⟩
abbrev cX12_round : ByteArray := prog_14_method_18_code
def yX12_round : MethodName := ⟨RX12, "round", "()I"⟩
abbrev cX12_fault : ByteArray := prog_14_method_19_code
def yX12_fault : MethodName := ⟨RX12, "fault", "(I)I"⟩
abbrev cX12_of : ByteArray := prog_14_method_20_code
def yX12_of : MethodName := ⟨RX12, "of", "(I)I"⟩
abbrev cX12_isArcher : ByteArray := prog_14_method_21_code
def yX12_isArcher : MethodName := ⟨RX12, "isArcher", "(I)Z"⟩
abbrev cX12_archer : ByteArray := prog_14_method_22_code
def yX12_archer : MethodName := ⟨RX12, "archer", "(I)I"⟩
abbrev cX12_leave : ByteArray := prog_14_method_23_code
def yX12_leave : MethodName := ⟨RX12, "leave", "(I)Z"⟩
abbrev cX12_legOf : ByteArray := prog_14_method_24_code
def yX12_legOf : MethodName := ⟨RX12, "legOf", "(I)I"⟩
abbrev cX12_arrowsOf : ByteArray := prog_14_method_25_code
def yX12_arrowsOf : MethodName := ⟨RX12, "arrowsOf", "(I)I"⟩
abbrev cX12_sum : ByteArray := prog_14_method_26_code
def yX12_sum : MethodName := ⟨RX12, "sum", "(III)I"⟩
abbrev cX12_lastEnd : ByteArray := prog_14_method_27_code
def yX12_lastEnd : MethodName := ⟨RX12, "lastEnd", "(I)I"⟩
abbrev cX12_total : ByteArray := prog_14_method_28_code
def yX12_total : MethodName := ⟨RX12, "total", "(I)I"⟩
abbrev cX12_told : ByteArray := prog_14_method_29_code
def yX12_told : MethodName := ⟨RX12, "told", "(II)I"⟩
abbrev cX12_isFar : ByteArray := prog_14_method_30_code
def yX12_isFar : MethodName := ⟨RX12, "isFar", "(I)Z"⟩
abbrev cX12_arrow : ByteArray := prog_14_method_31_code
def yX12_arrow : MethodName := ⟨RX12, "arrow", "(III)I"⟩
abbrev cX12_hit : ByteArray := prog_14_method_32_code
def yX12_hit : MethodName := ⟨RX12, "hit", "(III)I"⟩
abbrev cX12_shoot : ByteArray := prog_14_method_33_code
def yX12_shoot : MethodName := ⟨RX12, "shoot", "(I)I"⟩
abbrev cX12_value : ByteArray := prog_14_method_34_code
def yX12_value : MethodName := ⟨RX12, "value", "(II)I"⟩
abbrev cX12_take : ByteArray := prog_14_method_35_code
def yX12_take : MethodName := ⟨RX12, "take", "(I)I"⟩
abbrev cX12_off : ByteArray := prog_14_method_36_code
def yX12_off : MethodName := ⟨RX12, "off", "(IIII)I"⟩
abbrev cX12_most : ByteArray := prog_14_method_37_code
def yX12_most : MethodName := ⟨RX12, "most", "(II)I"⟩
abbrev cX12_square : ByteArray := prog_14_method_38_code
def yX12_square : MethodName := ⟨RX12, "square", "(II)I"⟩
abbrev cX12_signOf : ByteArray := prog_14_method_39_code
def yX12_signOf : MethodName := ⟨RX12, "signOf", "(I)I"⟩
abbrev cX12_ahead : ByteArray := prog_14_method_40_code
def yX12_ahead : MethodName := ⟨RX12, "ahead", "(II)I"⟩
abbrev cX12_rank : ByteArray := prog_14_method_41_code
def yX12_rank : MethodName := ⟨RX12, "rank", "(I)I"⟩
abbrev cX12_isDay : ByteArray := prog_14_method_42_code
def yX12_isDay : MethodName := ⟨RX12, "isDay", "(I)Z"⟩
abbrev cX12_today : ByteArray := prog_14_method_43_code
def yX12_today : MethodName := ⟨RX12, "today", "(I)Z"⟩
abbrev cX12_score : ByteArray := prog_14_method_44_code
def yX12_score : MethodName := ⟨RX12, "score", "(III)I"⟩
abbrev cX12_strike : ByteArray := prog_14_method_45_code
def yX12_strike : MethodName := ⟨RX12, "strike", "(II)Z"⟩
abbrev cX12_law : ByteArray := prog_14_method_46_code
def yX12_law : MethodName := ⟨RX12, "law", "(III)I"⟩
abbrev cX12_kind : ByteArray := prog_14_method_47_code
def yX12_kind : MethodName := ⟨RX12, "kind", "(III)I"⟩
abbrev cX12_bay : ByteArray := prog_14_method_48_code
def yX12_bay : MethodName := ⟨RX12, "bay", "(I)I"⟩
abbrev cX12_isParted : ByteArray := prog_14_method_49_code
def yX12_isParted : MethodName := ⟨RX12, "isParted", "(I)Z"⟩
abbrev cX12_isFree : ByteArray := prog_14_method_50_code
def yX12_isFree : MethodName := ⟨RX12, "isFree", "(I)Z"⟩
abbrev cX12_layout : ByteArray := prog_14_method_51_code
def yX12_layout : MethodName := ⟨RX12, "layout", "()I"⟩
abbrev cX12_on : ByteArray := prog_14_method_52_code
def yX12_on : MethodName := ⟨RX12, "on", "(I)I"⟩
abbrev cX12_lane : ByteArray := prog_14_method_53_code
def yX12_lane : MethodName := ⟨RX12, "lane", "(II)I"⟩
abbrev cX12_state : ByteArray := prog_14_method_54_code
def yX12_state : MethodName := ⟨RX12, "state", "(I)I"⟩
def RJx8e188 : String := "java/lang/Cloneable"
def TJx8e188 : u_T := fun k => match k with
  | _ => ("", "", "", false)
def tyJx8e188 : Nat → FieldType := fun k => match k with
  | _ => .int
abbrev wsJx8e1880 : List Cond := u_ws RJx8e188 TJx8e188 0
theorem nmJx8e188 : ∀ a, a < 0 → ∀ b, b < 0 → a ≠ b → (TJx8e188 a).2.1 ≠ (TJx8e188 b).2.1 := by decide +kernel
theorem tyJx8e188_ok : ∀ k, k < 0 → parseFieldDescriptor (TJx8e188 k).2.2.1 = some (tyJx8e188 k) := by decide +kernel
def RJ6 : String := "java/lang/Integer"
def TJ6 : u_T := fun k => match k with
  | _ => ("", "", "", false)
def tyJ6 : Nat → FieldType := fun k => match k with
  | _ => .int
abbrev wsJ60 : List Cond := u_ws RJ6 TJ6 0
theorem nmJ6 : ∀ a, a < 0 → ∀ b, b < 0 → a ≠ b → (TJ6 a).2.1 ≠ (TJ6 b).2.1 := by decide +kernel
theorem tyJ6_ok : ∀ k, k < 0 → parseFieldDescriptor (TJ6 k).2.2.1 = some (tyJ6 k) := by decide +kernel
abbrev cJ6_compare_7cf53 : ByteArray := prog_16_method_40_code
def yJ6_compare_7cf53 : MethodName := ⟨RJ6, "compare", "(II)I"⟩
def RJ9 : String := "java/lang/Math"
def TJ9 : u_T := fun k => match k with
  | _ => ("", "", "", false)
def tyJ9 : Nat → FieldType := fun k => match k with
  | _ => .int
abbrev wsJ90 : List Cond := u_ws RJ9 TJ9 0
theorem nmJ9 : ∀ a, a < 0 → ∀ b, b < 0 → a ≠ b → (TJ9 a).2.1 ≠ (TJ9 b).2.1 := by decide +kernel
theorem tyJ9_ok : ∀ k, k < 0 → parseFieldDescriptor (TJ9 k).2.2.1 = some (tyJ9 k) := by decide +kernel
abbrev cJ9_max_7cf53 : ByteArray := prog_17_method_65_code
def yJ9_max_7cf53 : MethodName := ⟨RJ9, "max", "(II)I"⟩
abbrev cJ9_min_7cf53 : ByteArray := prog_17_method_69_code
def yJ9_min_7cf53 : MethodName := ⟨RJ9, "min", "(II)I"⟩
def RJ0 : String := "java/lang/String"
def TJ0 : u_T := fun k => match k with
  | _ => ("", "", "", false)
def tyJ0 : Nat → FieldType := fun k => match k with
  | _ => .int
abbrev wsJ00 : List Cond := u_ws RJ0 TJ0 0
theorem nmJ0 : ∀ a, a < 0 → ∀ b, b < 0 → a ≠ b → (TJ0 a).2.1 ≠ (TJ0 b).2.1 := by decide +kernel
theorem tyJ0_ok : ∀ k, k < 0 → parseFieldDescriptor (TJ0 k).2.2.1 = some (tyJ0 k) := by decide +kernel
abbrev cJ0_length_8abf5 : ByteArray := prog_18_method_54_code
def yJ0_length_8abf5 : MethodName := ⟨RJ0, "length", "()I"⟩
abbrev cJ0_charAt_5068e : ByteArray := prog_18_method_56_code
def yJ0_charAt_5068e : MethodName := ⟨RJ0, "charAt", "(I)C"⟩
abbrev cJ0_coder_7d493 : ByteArray := prog_18_method_152_code
def yJ0_coder_7d493 : MethodName := ⟨RJ0, "coder", "()B"⟩
abbrev cJ0_isLatin1_aae02 : ByteArray := prog_18_method_154_code
def yJ0_isLatin1_aae02 : MethodName := ⟨RJ0, "isLatin1", "()Z"⟩
abbrev cJ0_checkIndex_df160 : ByteArray := prog_18_method_155_code
def yJ0_checkIndex_df160 : MethodName := ⟨RJ0, "checkIndex", "(II)V"⟩
def RJ1 : String := "java/lang/StringLatin1"
def TJ1 : u_T := fun k => match k with
  | _ => ("", "", "", false)
def tyJ1 : Nat → FieldType := fun k => match k with
  | _ => .int
abbrev wsJ10 : List Cond := u_ws RJ1 TJ1 0
theorem nmJ1 : ∀ a, a < 0 → ∀ b, b < 0 → a ≠ b → (TJ1 a).2.1 ≠ (TJ1 b).2.1 := by decide +kernel
theorem tyJ1_ok : ∀ k, k < 0 → parseFieldDescriptor (TJ1 k).2.2.1 = some (tyJ1 k) := by decide +kernel
abbrev cJ1_charAt_3b067 : ByteArray := prog_19_method_2_code
def yJ1_charAt_3b067 : MethodName := ⟨RJ1, "charAt", "([BI)C"⟩
def RJ2 : String := "java/lang/StringUTF16"
def TJ2 : u_T := fun k => match k with
  | _ => ("", "", "", false)
def tyJ2 : Nat → FieldType := fun k => match k with
  | _ => .int
abbrev wsJ20 : List Cond := u_ws RJ2 TJ2 0
theorem nmJ2 : ∀ a, a < 0 → ∀ b, b < 0 → a ≠ b → (TJ2 a).2.1 ≠ (TJ2 b).2.1 := by decide +kernel
theorem tyJ2_ok : ∀ k, k < 0 → parseFieldDescriptor (TJ2 k).2.2.1 = some (tyJ2 k) := by decide +kernel
abbrev cJ2_getChar_3b067 : ByteArray := prog_20_method_5_code
def yJ2_getChar_3b067 : MethodName := ⟨RJ2, "getChar", "([BI)C"⟩
abbrev cJ2_length_9d52b : ByteArray := prog_20_method_6_code
def yJ2_length_9d52b : MethodName := ⟨RJ2, "length", "([B)I"⟩
abbrev cJ2_charAt_3b067 : ByteArray := prog_20_method_83_code
def yJ2_charAt_3b067 : MethodName := ⟨RJ2, "charAt", "([BI)C"⟩
abbrev cJ2_checkIndex_2214a : ByteArray := prog_20_method_91_code
def yJ2_checkIndex_2214a : MethodName := ⟨RJ2, "checkIndex", "(I[B)V"⟩
def RJ10 : String := "java/lang/System"
def TJ10 : u_T := fun k => match k with
  | _ => ("", "", "", false)
def tyJ10 : Nat → FieldType := fun k => match k with
  | _ => .int
abbrev wsJ100 : List Cond := u_ws RJ10 TJ10 0
theorem nmJ10 : ∀ a, a < 0 → ∀ b, b < 0 → a ≠ b → (TJ10 a).2.1 ≠ (TJ10 b).2.1 := by decide +kernel
theorem tyJ10_ok : ∀ k, k < 0 → parseFieldDescriptor (TJ10 k).2.2.1 = some (tyJ10 k) := by decide +kernel
def RJ7 : String := "java/util/Arrays"
def TJ7 : u_T := fun k => match k with
  | _ => ("", "", "", false)
def tyJ7 : Nat → FieldType := fun k => match k with
  | _ => .int
abbrev wsJ70 : List Cond := u_ws RJ7 TJ7 0
theorem nmJ7 : ∀ a, a < 0 → ∀ b, b < 0 → a ≠ b → (TJ7 a).2.1 ≠ (TJ7 b).2.1 := by decide +kernel
theorem tyJ7_ok : ∀ k, k < 0 → parseFieldDescriptor (TJ7 k).2.2.1 = some (tyJ7 k) := by decide +kernel
abbrev cJ7_fill_53178 : ByteArray := prog_22_method_103_code
def yJ7_fill_53178 : MethodName := ⟨RJ7, "fill", "([II)V"⟩
abbrev cJ7_copyOf_59c91 : ByteArray := prog_22_method_123_code
def yJ7_copyOf_59c91 : MethodName := ⟨RJ7, "copyOf", "([II)[I"⟩
def RJ3 : String := "jdk/internal/util/Preconditions"
def TJ3 : u_T := fun k => match k with
  | _ => ("", "", "", false)
def tyJ3 : Nat → FieldType := fun k => match k with
  | _ => .int
abbrev wsJ30 : List Cond := u_ws RJ3 TJ3 0
theorem nmJ3 : ∀ a, a < 0 → ∀ b, b < 0 → a ≠ b → (TJ3 a).2.1 ≠ (TJ3 b).2.1 := by decide +kernel
theorem tyJ3_ok : ∀ k, k < 0 → parseFieldDescriptor (TJ3 k).2.2.1 = some (tyJ3 k) := by decide +kernel
abbrev cJ3_checkIndex_8e157 : ByteArray := prog_23_method_11_code
def yJ3_checkIndex_8e157 : MethodName := ⟨RJ3, "checkIndex", "(IILjava/util/function/BiFunction;)I"⟩
def RL : String := "ArcheryFieldLaw"
abbrev cL_law : ByteArray := code
def yL_law : MethodName := ⟨RL, "law", "([I)Z"⟩
abbrev vwCl : List vw_C := [(RX0, TX0, 3), (RX1, TX1, 1), (RX2, TX2, 3), (RX3, TX3, 7), (RX4, TX4, 5), (RX5, TX5, 7), (RX6, TX6, 11), (RX7, TX7, 1), (RX8, TX8, 3), (RX9, TX9, 5), (RX10, TX10, 2), (RX11, TX11, 6), (RX12, TX12, 31)]
theorem inX0 : ∀ w ∈ wsX00, w ∈ lw_tbl := by decide +kernel
theorem inX1 : ∀ w ∈ wsX10, w ∈ lw_tbl := by decide +kernel
theorem inX2 : ∀ w ∈ wsX20, w ∈ lw_tbl := by decide +kernel
theorem inX3 : ∀ w ∈ wsX30, w ∈ lw_tbl := by decide +kernel
theorem inX4 : ∀ w ∈ wsX40, w ∈ lw_tbl := by decide +kernel
theorem inX5 : ∀ w ∈ wsX50, w ∈ lw_tbl := by decide +kernel
theorem inX6 : ∀ w ∈ wsX60, w ∈ lw_tbl := by decide +kernel
theorem inX7 : ∀ w ∈ wsX70, w ∈ lw_tbl := by decide +kernel
theorem inX8 : ∀ w ∈ wsX80, w ∈ lw_tbl := by decide +kernel
theorem inX9 : ∀ w ∈ wsX90, w ∈ lw_tbl := by decide +kernel
theorem inX10 : ∀ w ∈ wsX100, w ∈ lw_tbl := by decide +kernel
theorem inX11 : ∀ w ∈ wsX110, w ∈ lw_tbl := by decide +kernel
theorem inX12 : ∀ w ∈ wsX120, w ∈ lw_tbl := by decide +kernel
end
section
/-! ===== the abstract machine: values, cells, a heap as a list from a base on ===== -/
abbrev zV : Type := Int32 ⊕ (Option Nat ⊕ Nat)
abbrev zi (x : Int32) : zV := Sum.inl x
abbrev zr (o : Option Nat) : zV := Sum.inr (Sum.inl o)
abbrev zs (k : Nat) : zV := Sum.inr (Sum.inr k)
abbrev zE : Type := (Nat × Nat × ((Nat → Int32) ⊕ (Nat → Option Nat))) ⊕ (Nat × List zV)
abbrev zH : Type := List zE
/-- slots of the classes, array classes, the base, the addresses of constants (0 .. 7 texts, 8 the script, 16 .. the texts' bytes, 32 the formatter), nothing, the script's length and ints -/
abbrev zG : Type := va_G × List (ClassId × FieldType) × Nat × (Nat → Nat) × (Nat → Nat) × Nat × (Nat → Int32)
abbrev zJ : Type := MethodName × ByteArray × Nat × Option FieldType × Nat × Nat
def zv (g : zG) (v : zV) : Value := match v with
  | .inl x => .int x
  | .inr (.inl o) => va_rf (o.map (fun a => g.2.2.1 + a))
  | .inr (.inr k) => .ref (g.2.2.2.1 k)
theorem zv_cat (g : zG) (v : zV) : (zv g v).category = 1 := by
  rcases v with x | o | k
  · rfl
  · cases o <;> rfl
  · rfl
def zty : List FieldType := [.int, .byte, .char, .boolean, .object RX0, .object RX9]
def zca (g : zG) (t : Nat) : ClassId := (g.2.1.getD t (0, .int)).1
def zc (g : zG) (e : zE) : va_E := match e with
  | .inl (t, n, .inl f) => .inl (zca g t, n, .inl f)
  | .inl (t, n, .inr f) => .inl (zca g t, n, .inr (.inr (.inr (.inr (fun j => (f j).map (fun a => g.2.2.1 + a))))))
  | .inr (ci, fs) => .inr (ci, fs.map (zv g))
def zw (g : zG) (h : zH) : va_W := h.mapIdx (fun k e => (g.2.2.1 + k, zc g e))
def zA (g : zG) : Nat → Prop := fun q => g.2.2.1 ≤ q
def zsz (e : zE) : Nat := match e with
  | .inl (_, n, _) => n
  | .inr (_, fs) => fs.length
def zsl : zH → Nat
  | [] => 0
  | e :: h => zsz e + zsl h
theorem zw_get {g : zG} {h : zH} {a : Nat} {e : zE} (ha : h[a]? = some e) : (zw g h)[a]? = some (g.2.2.1 + a, zc g e) := by
  simp only [zw, List.getElem?_mapIdx, ha, Option.map_some]
theorem zw_get' {g : zG} {h : zH} {k : Nat} {q : Nat × va_E} (hk : (zw g h)[k]? = some q) : ∃ e, h[k]? = some e ∧ q = (g.2.2.1 + k, zc g e) := by
  simp only [zw, List.getElem?_mapIdx, Option.map_eq_some_iff] at hk
  obtain ⟨e, h1, h2⟩ := hk
  exact ⟨e, h1, h2.symm⟩
theorem zw_set {g : zG} {h : zH} {a : Nat} {e : zE} : (zw g h).set a (g.2.2.1 + a, zc g e) = zw g (h.set a e) := by
  apply List.ext_getElem?
  intro i
  simp only [zw, List.getElem?_mapIdx, List.getElem?_set, List.length_mapIdx]
  by_cases hi : a = i
  · subst hi
    by_cases hl : a < h.length
    · simp [hl]
    · simp [hl]
  · simp [hi]
theorem zw_push {g : zG} {h : zH} {e : zE} : zw g (h ++ [e]) = zw g h ++ [(g.2.2.1 + h.length, zc g e)] := by
  simp [zw, List.mapIdx_append]
theorem zw_D (g : zG) (h : zH) : va_D (zA g) (zw g h) := by
  refine ⟨fun i j p q hi hj hpq => ?_, fun k q hk => ?_⟩
  · obtain ⟨e1, -, rfl⟩ := zw_get' hi
    obtain ⟨e2, -, rfl⟩ := zw_get' hj
    exact Nat.add_left_cancel hpq
  · obtain ⟨e1, -, rfl⟩ := zw_get' hk
    exact Nat.le_add_right _ _
theorem zsl_push (h : zH) (e : zE) : zsl (h ++ [e]) = zsl h + zsz e := by
  induction h with
  | nil => simp [zsl]
  | cons x h ih => simp only [List.cons_append, zsl, ih]; omega
theorem zsl_set : ∀ (h : zH) (a : Nat) (e0 e : zE), h[a]? = some e0 → zsz e = zsz e0 → zsl (h.set a e) = zsl h
  | [], a, e0, e, h1, h2 => by simp at h1
  | x :: h, 0, e0, e, h1, h2 => by
    simp only [List.getElem?_cons_zero, Option.some.injEq] at h1
    subst h1
    simp only [List.set_cons_zero, zsl, h2]
  | x :: h, a + 1, e0, e, h1, h2 => by
    simp only [List.getElem?_cons_succ] at h1
    simp only [List.set_cons_succ, zsl, zsl_set h a e0 e h1 h2]
/-! the locals -/
def zas (g : zG) : Nat → List (Option zV) → List (Nat × Value)
  | _, [] => []
  | k, none :: L => zas g (k + 1) L
  | k, some v :: L => (k, zv g v) :: zas g (k + 1) L
theorem zas_mem {g : zG} : ∀ {k : Nat} {L : List (Option zV)} {q : Nat × Value}, q ∈ zas g k L ↔ ∃ i v, L[i]? = some (some v) ∧ q = (k + i, zv g v)
  | k, [], q => by simp [zas]
  | k, none :: L, q => by
    rw [zas, zas_mem]
    constructor
    · rintro ⟨i, v, h1, h2⟩
      exact ⟨i + 1, v, by simpa using h1, by rw [h2]; congr 1; omega⟩
    · rintro ⟨i, v, h1, h2⟩
      cases i with
      | zero => simp at h1
      | succ i => exact ⟨i, v, by simpa using h1, by rw [h2]; congr 1; omega⟩
  | k, some w :: L, q => by
    rw [zas, List.mem_cons, zas_mem]
    constructor
    · rintro (h | ⟨i, v, h1, h2⟩)
      · exact ⟨0, w, by simp, by rw [h]; congr 1⟩
      · exact ⟨i + 1, v, by simpa using h1, by rw [h2]; congr 1; omega⟩
    · rintro ⟨i, v, h1, h2⟩
      cases i with
      | zero =>
        simp only [List.getElem?_cons_zero, Option.some.injEq] at h1
        subst h1
        exact Or.inl (by rw [h2]; congr 1)
      | succ i => exact Or.inr ⟨i, v, by simpa using h1, by rw [h2]; congr 1; omega⟩
def zL (g : zG) (ls : Array Slot) (nL : Nat) (L : List (Option zV)) : Prop := lv_has ls nL (zas g 0 L)
theorem zL_get {g : zG} {ls : Array Slot} {nL i : Nat} {L : List (Option zV)} {v : zV} (h : zL g ls nL L) (hl : L[i]? = some (some v)) : ls[i]? = some (.val (zv g v)) :=
  h.2.2 (i, zv g v) (zas_mem.mpr ⟨i, v, hl, by rw [Nat.zero_add]⟩)
theorem zL_set {g : zG} {ls : Array Slot} {nL i : Nat} {L : List (Option zV)} {v : zV} {w : Value} (hw : zv g v = w) (h : lv_has ls nL ((i, w) :: (zas g 0 L).filter (fun q => !(q.1 == i) && !(q.1 + 1 == i && q.2.category == 2)))) : zL g ls nL (L.set i (some v)) := by
  subst hw
  refine ⟨h.1, h.2.1, fun q hq => ?_⟩
  obtain ⟨j, w, hj, rfl⟩ := zas_mem.mp hq
  rw [Nat.zero_add]
  by_cases hij : i = j
  · subst hij
    have hl : i < L.length := by
      have := (List.getElem?_eq_some_iff.mp hj).1
      simpa using this
    rw [List.getElem?_set_self hl] at hj
    cases hj
    exact h.2.2 _ List.mem_cons_self
  · rw [List.getElem?_set_ne hij] at hj
    refine h.2.2 (j, zv g w) (List.mem_cons_of_mem _ (List.mem_filter.mpr ⟨zas_mem.mpr ⟨j, w, hj, by rw [Nat.zero_add]⟩, ?_⟩))
    have hji : ¬ j = i := fun z => hij z.symm
    simp [hji, zv_cat]
/-! what is known of the machine's state -/
def zWd : List Cond := lw_tbl.filter goodWord
def zNwB : Cond → Bool
  | .fieldLinkNest _ _ _ _ _ _ => true
  | .methodLinkNest _ _ _ _ => true
  | .castable _ _ => true
  | _ => false
def zNw : List Cond := lw_tbl.filter zNwB
theorem zWd_mem {w : Cond} (h : w ∈ lw_tbl) (h2 : goodWord w = true) : w ∈ zWd := List.mem_filter.mpr ⟨h, h2⟩
theorem zNw_mem {w : Cond} (h : w ∈ lw_tbl) (h2 : zNwB w = true) : w ∈ zNw := List.mem_filter.mpr ⟨h, h2⟩
theorem zWd_good {w : Cond} (h : w ∈ zWd) : w ∈ zWd ∧ ((w.onTables && w.keeps) = true ∨ ∃ ty, w = .arrayClass ty) := ⟨h, good_of_word (List.mem_filter.mp h).2⟩
def zSt : List (Nat × String) := [(65, "face"), (75, "leg"), (80, "most"), (91, "last"), (93, "nearest"), (95, "bounced"), (101, "passed"), (103, "shaft")]
def zSl : List Nat := [4, 3, 4, 4, 7, 7, 6, 5]
def zSb : List (List Int32) := [[102, 97, 99, 101], [108, 101, 103], [109, 111, 115, 116], [108, 97, 115, 116], [110, 101, 97, 114, 101, 115, 116], [98, 111, 117, 110, 99, 101, 100], [112, 97, 115, 115, 101, 100], [115, 104, 97, 102, 116]]
def zFo : String × String × String := ("jdk/internal/util/Preconditions", "SIOOBE_FORMATTER", "Ljava/util/function/BiFunction;")
def zStr (g : zG) (U : State) : Prop := va_Z "java/lang/String" "COMPACT_STRINGS" "Z" (.int 1) (zA g) U U.heap ∧ (∀ i, i < 8 → vk_R RX5 (zSt.getD i (0, "")).1 (zSt.getD i (0, "")).2 (g.2.2.2.1 i) U) ∧ vk_S 8 zSl zSb g.2.2.2.1 (fun k => g.2.2.2.1 (16 + k)) (zA g) U U.heap ∧ va_X (g.2.2.2.1 8) g.2.2.2.2.2.1 g.2.2.2.2.2.2 U U.heap ∧ ¬ zA g (g.2.2.2.1 8) ∧ (va_Z zFo.1 zFo.2.1 zFo.2.2 .null (zA g) U U.heap ∨ va_Z zFo.1 zFo.2.1 zFo.2.2 (.ref (g.2.2.2.1 32)) (zA g) U U.heap)
def zU (g : zG) (U : State) : Prop := va_K g.1 vwCl g.2.1 U ∧ (∀ w ∈ zNw, va_Nw w U) ∧ va_AO RX0 U ∧ va_AO RX9 U ∧ zStr g U
theorem zX.moved {b L : Nat} {xs : Nat → Int32} {u U : State} {H : Heap} (hvm : u.vm.Alike U.vm) (h : va_X b L xs u H) : va_X b L xs U H := by
  obtain ⟨scr, h1, h2, h3, h4, h5⟩ := h
  exact ⟨scr, h1, State.isArrayOf_alike hvm h2, h3, h4, h5⟩
theorem zX.kept {b L : Nat} {xs : Nat → Int32} {A : Nat → Prop} {U : State} {H H1 : Heap} (h : va_X b L xs U H) (hA : ¬ A b) (hq : ∀ a : Nat, a < H.size → ¬ A a → H1[a]? = H[a]?) : va_X b L xs U H1 := by
  obtain ⟨scr, h1, h2, h3, h4, h5⟩ := h
  exact ⟨scr, by rw [hq b (Array.getElem?_eq_some_iff.mp h1).1 hA]; exact h1, h2, h3, h4, h5⟩
theorem zNw_on {w : Cond} (h : zNwB w = true) : w.onTables = true := by
  cases w <;> first | rfl | (exfalso; simp [zNwB] at h; done)
theorem zU.call {g : zG} {U : State} (h : zU g U) (f : JFrame) (mk : MethodId) (a : Array Value) : zU g (U.calling f mk a) := by
  obtain ⟨h1, h2, h3, h4, h5, h6, h7, h8, h9, h10⟩ := h
  refine ⟨va_K.moved (u := U) (Vm.Alike.refl U.vm) h1, fun w hw => va_Nw.same (zNw_on (List.mem_filter.mp hw).2) (u := U) rfl (h2 w hw), va_AO.moved (u := U) (Vm.Alike.refl U.vm) h3, va_AO.moved (u := U) (Vm.Alike.refl U.vm) h4, ?_, fun i hi => vk_R.same (u := U) rfl (h6 i hi), ?_, zX.moved (u := U) (Vm.Alike.refl U.vm) h8, h9, h10.imp (va_Z.moved (u := U) (Vm.Alike.refl U.vm)) (va_Z.moved (u := U) (Vm.Alike.refl U.vm))⟩
  · exact va_Z.moved (u := U) (Vm.Alike.refl U.vm) h5
  · exact vk_S.moved (u := U) (Vm.Alike.refl U.vm) h7
theorem zU.warm {g : zG} {s U : State} (h : zU g s) (hW : s.WarmedH U.vm) (hk : ∀ a : Nat, a < s.heap.size → ¬ zA g a → U.heap[a]? = s.heap[a]?) : zU g U := by
  obtain ⟨h1, h2, h3, h4, h5, h6, h7, h8, h9, h10⟩ := h
  refine ⟨va_K.moved hW.alike h1, fun w hw => ?_, va_AO.moved hW.alike h3, va_AO.moved hW.alike h4, (va_Z.moved hW.alike h5).kept hk, fun i hi => vk_R.warm hW (h6 i hi), (vk_S.moved hW.alike h7).kept hk, zX.kept (zX.moved hW.alike h8) h9 hk, h9, h10.imp (fun q => (va_Z.moved hW.alike q).kept hk) (fun q => (va_Z.moved hW.alike q).kept hk)⟩
  have hb := (List.mem_filter.mp hw).2
  have h0 := h2 w hw
  cases w <;> first
    | exact va_Nw.warmF hW h0
    | exact va_Nw.warmM hW h0
    | exact va_Nw.warmC hW h0
    | (exfalso; simp [zNwB] at hb; done)
def zX (g : zG) (J : zJ) (p : Program) (s : State) (m : MethodId) (args : Array Value) (meth : Method) (c : Code) : Prop :=
  p.tables.exec = Jvm.exec ∧ c.code = J.2.1 ∧ c.maxLocals = J.2.2.1 ∧ s.vm.findClass J.1.cls = some m.cls ∧ (∀ w ∈ zWd, w.before args s = true) ∧ (J.1.name = "<init>" → meth.name = "<init>") ∧ zU g s ∧ g.2.1.map (fun q => q.2) = zty
def zT (g : zG) (s : State) (h : zH) (H : Heap) (locs : List Loc) : Prop := H.size = g.2.2.1 + h.length ∧ va_P g.1 vwCl (zw g h) H ∧ va_S (zA g) s.heap H locs
def zret (r : Option zV) : Instr := match r with
  | none => .return_
  | some (.inl _) => .ireturn
  | some (.inr _) => .areturn
def zok (ret : Option FieldType) (r : Option zV) : Prop := match ret, r with
  | none, none => True
  | some ty, some (.inl x) => narrow ty (.int x) = .int x
  | some ty, some (.inr (.inl _)) => (∃ n, ty = .object n) ∨ ∃ t, ty = .array t
  | _, _ => False
/-- from pc on, with these locals, this stack and this heap the method comes to its end with the answer r and the heap h' -/
def zR (g : zG) (J : zJ) (h0 : zH) (pc : Nat) (L : List (Option zV)) (st : List zV) (h : zH) (r : Option zV) (h' : zH) : Prop :=
  (h.length ≤ h'.length ∧ zsl h ≤ zsl h') ∧ zok J.2.2.2.1 r ∧ (h0.length ≤ h.length → zsl h0 ≤ zsl h →
    ∀ (p : Program) (l : Launch) (e : Env) (R : Room) (s : State) (m : MethodId) (args : Array Value) (below : List Frame) (meth : Method) (c : Code) (Q : State → Prop), zX g J p s m args meth c → s.heap.size = g.2.2.1 + h0.length →
      J.2.2.2.2.1 ≤ R.frames → J.2.2.2.2.2 ≤ R.locals → h'.length - h0.length ≤ R.cells → zsl h' - zsl h0 ≤ R.slots →
      (∀ (pc' : Nat) (ls : Array Slot) (H : Heap) (locs : List Loc), zT g s h' H locs → decode J.2.1 pc' = .ok (zret r, 1) → W p l e R s m args below meth c H locs (h'.length - h0.length) (zsl h' - zsl h0) Q (F0 m pc' ls (r.toList.map (zv g)))) →
      ∀ (H : Heap) (locs : List Loc) (ls : Array Slot), zT g s h H locs → zL g ls J.2.2.1 L → W p l e R s m args below meth c H locs (h.length - h0.length) (zsl h - zsl h0) Q (F0 m pc ls (st.map (zv g))))
theorem zfix {p : Program} {l : Launch} {e : Env} {R : Room} {s : State} {m : MethodId} {args : Array Value} {below : List Frame} {meth : Method} {c : Code} {Q : State → Prop} {g : zG} {h0 h : zH} {H : Heap} {locs : List Loc} {slots : Nat} {f : JFrame} (hs : s.heap.size = g.2.2.1 + h0.length) (hl : h0.length ≤ h.length) (hP : va_P g.1 vwCl (zw g h) H) (hS : va_S (zA g) s.heap H locs)
    (k : zT g s h H locs → W p l e R s m args below meth c H locs (h.length - h0.length) slots Q f) : W p l e R s m args below meth c H locs (h.length - h0.length) slots Q f := by
  intro T hT X
  have hz := X.heapSize
  rw [hT] at hz
  refine k ⟨?_, hP, hS⟩ T hT X
  have h1 : g.2.2.1 + h.length ≤ H.size := by
    by_cases hn : h.length = 0
    · have := hS.1
      omega
    · have hlt : h.length - 1 < h.length := by omega
      have h2 := hP (h.length - 1) _ (zw_get (List.getElem?_eq_getElem hlt))
      have h3 := h2.lt
      show g.2.2.1 + h.length ≤ H.size
      have h4 : g.2.2.1 + (h.length - 1) < H.size := h3
      omega
  omega
/-! ===== steps ===== -/
theorem zR.step {g : zG} {J : zJ} {h0 : zH} {pc pc' : Nat} {L L' : List (Option zV)} {st st' : List zV} {h : zH} {r : Option zV} {h' : zH}
    (hw : ∀ {p : Program} {l : Launch} {e : Env} {R : Room} {s : State} {m : MethodId} {args : Array Value} {below : List Frame} {meth : Method} {c : Code} {Q : State → Prop} {H : Heap} {locs : List Loc} {cells slots : Nat} {ls : Array Slot}, zX g J p s m args meth c → J.2.2.2.2.1 ≤ R.frames → J.2.2.2.2.2 ≤ R.locals → cells ≤ R.cells → slots ≤ R.slots → zT g s h H locs → zL g ls J.2.2.1 L →
      (∀ ls' : Array Slot, zL g ls' J.2.2.1 L' → W p l e R s m args below meth c H locs cells slots Q (F0 m pc' ls' (st'.map (zv g)))) → W p l e R s m args below meth c H locs cells slots Q (F0 m pc ls (st.map (zv g))))
    (k : zR g J h0 pc' L' st' h r h') : zR g J h0 pc L st h r h' :=
  ⟨k.1, k.2.1, fun a1 a2 p l e R s m args below meth c Q X hs f1 f2 f3 f4 hr H locs ls hT hL => hw X f1 f2 (by have := k.1.1; omega) (by have := k.1.2; omega) hT hL (fun ls' hL' => k.2.2 a1 a2 p l e R s m args below meth c Q X hs f1 f2 f3 f4 hr H locs ls' hT hL')⟩
theorem zR.stepS {g : zG} {J : zJ} {h0 : zH} {pc pc' : Nat} {L L' : List (Option zV)} {st st' : List zV} {h h1 : zH} {r : Option zV} {h' : zH} (hl : h1.length = h.length) (hz : zsl h1 = zsl h)
    (hw : ∀ {p : Program} {l : Launch} {e : Env} {R : Room} {s : State} {m : MethodId} {args : Array Value} {below : List Frame} {meth : Method} {c : Code} {Q : State → Prop} {H : Heap} {locs : List Loc} {cells slots : Nat} {ls : Array Slot}, zX g J p s m args meth c → J.2.2.2.2.1 ≤ R.frames → J.2.2.2.2.2 ≤ R.locals → zT g s h H locs → zL g ls J.2.2.1 L →
      (∀ (H1 : Heap) (locs1 : List Loc) (ls' : Array Slot), va_P g.1 vwCl (zw g h1) H1 → va_S (zA g) s.heap H1 locs1 → zL g ls' J.2.2.1 L' → W p l e R s m args below meth c H1 locs1 cells slots Q (F0 m pc' ls' (st'.map (zv g)))) → W p l e R s m args below meth c H locs cells slots Q (F0 m pc ls (st.map (zv g))))
    (k : zR g J h0 pc' L' st' h1 r h') : zR g J h0 pc L st h r h' := by
  refine ⟨⟨hl ▸ k.1.1, hz ▸ k.1.2⟩, k.2.1, fun a1 a2 p l e R s m args below meth c Q X hs f1 f2 f3 f4 hr H locs ls hT hL => hw X f1 f2 hT hL (fun H1 locs1 ls' hP1 hS1 hL1 => ?_)⟩
  have hk := k.2.2 (by omega) (by omega) p l e R s m args below meth c Q X hs f1 f2 f3 f4 hr H1 locs1 ls'
  rw [← hl, ← hz]
  exact zfix hs (by omega) hP1 hS1 (fun hT1 => hk hT1 hL1)
theorem zR.stepA {g : zG} {J : zJ} {h0 : zH} {pc pc' : Nat} {L : List (Option zV)} {st st' : List zV} {h : zH} {e1 : zE} {r : Option zV} {h' : zH}
    (hw : ∀ {p : Program} {l : Launch} {e : Env} {R : Room} {s : State} {m : MethodId} {args : Array Value} {below : List Frame} {meth : Method} {c : Code} {Q : State → Prop} {H : Heap} {locs : List Loc} {cells slots : Nat} {ls : Array Slot}, zX g J p s m args meth c → J.2.2.2.2.1 ≤ R.frames → J.2.2.2.2.2 ≤ R.locals → cells + 1 ≤ R.cells → slots + zsz e1 ≤ R.slots → zT g s h H locs → zL g ls J.2.2.1 L → g.2.2.1 ≤ s.heap.size →
      (∀ (H1 : Heap) (locs1 : List Loc) (q : Nat), va_P g.1 vwCl (zw g h ++ [(q, zc g e1)]) H1 → va_D (zA g) (zw g h ++ [(q, zc g e1)]) → va_S (zA g) s.heap H1 locs1 → W p l e R s m args below meth c H1 locs1 (cells + 1) (slots + zsz e1) Q (F0 m pc' ls (.ref q :: st'.map (zv g)))) → W p l e R s m args below meth c H locs cells slots Q (F0 m pc ls (st.map (zv g))))
    (k : zR g J h0 pc' L (zr (some h.length) :: st') (h ++ [e1]) r h') : zR g J h0 pc L st h r h' := by
  have hl : (h ++ [e1]).length = h.length + 1 := by simp
  have hz := zsl_push h e1
  have k1 := k.1
  rw [hl, hz] at k1
  refine ⟨⟨by omega, by omega⟩, k.2.1, fun a1 a2 p l e R s m args below meth c Q X hs f1 f2 f3 f4 hr H locs ls hT hL => hw X f1 f2 (by omega) (by omega) hT hL (by omega) (fun H1 locs1 q hP1 hD1 hS1 => ?_)⟩
  have hk := k.2.2 (by omega) (by omega) p l e R s m args below meth c Q X hs f1 f2 f3 f4 hr H1 locs1 ls
  rw [hl, hz] at hk
  intro T hT2 X2
  have hsz := X2.heapSize
  rw [hT2] at hsz
  have hq1 : (zw g h ++ [(q, zc g e1)])[h.length]? = some (q, zc g e1) := by
    rw [List.getElem?_append_right (by simp [zw])]
    simp [zw]
  have hlt : q < H1.size := (hP1 h.length _ hq1).lt
  have hge : g.2.2.1 ≤ q := hD1.2 h.length _ hq1
  have hne : ∀ j, j < h.length → q ≠ g.2.2.1 + j := by
    intro j hj hqj
    have hg1 : (zw g h ++ [(q, zc g e1)])[j]? = some (g.2.2.1 + j, zc g h[j]) := by
      rw [List.getElem?_append_left (by simpa [zw] using hj)]
      exact zw_get (List.getElem?_eq_getElem hj)
    have := hD1.1 h.length j _ _ hq1 hg1 hqj
    omega
  have hq : q = g.2.2.1 + h.length := by
    have h2 : ¬ q < g.2.2.1 + h.length := fun hc => hne (q - g.2.2.1) (by omega) (by omega)
    omega
  subst hq
  rw [← zw_push] at hP1
  have hT1 : zT g s (h ++ [e1]) H1 locs1 := ⟨by rw [hl]; omega, hP1, hS1⟩
  have hk2 := hk hT1 hL
  have c1 : h.length + 1 - h0.length = h.length - h0.length + 1 := by omega
  have c2 : zsl h + zsz e1 - zsl h0 = zsl h - zsl h0 + zsz e1 := by omega
  rw [c1, c2] at hk2
  exact hk2 T hT2 X2
def zQ3 (g : zG) (r : Option zV) (h' : zH) : State → Outcome → State → Prop := fun st oc t => (oc = .returned (r.map (zv g)) ∧ va_P g.1 vwCl (zw g h') t.heap) ∧ va_F (zA g) st t
theorem zR.stepC {g : zG} {J : zJ} {h0 : zH} {pc : Nat} {L : List (Option zV)} {st rest : List zV} {h h1 : zH} {r1 r : Option zV} {h' : zH} (hm : h.length ≤ h1.length ∧ zsl h ≤ zsl h1)
    (hw : ∀ {p : Program} {l : Launch} {e : Env} {R : Room} {s : State} {m : MethodId} {args : Array Value} {below : List Frame} {meth : Method} {c : Code} {H : Heap} {locs : List Loc} {cells slots : Nat} {ls : Array Slot}, zX g J p s m args meth c → J.2.2.2.2.1 ≤ R.frames → J.2.2.2.2.2 ≤ R.locals → zT g s h H locs → zL g ls J.2.2.1 L → cells + (h1.length - h.length) ≤ R.cells → slots + (zsl h1 - zsl h) ≤ R.slots →
      va_Run p l e R s m args below meth c H locs cells slots (h1.length - h.length) (zsl h1 - zsl h) (F0 m pc ls (st.map (zv g))) (rest.map (zv g)) (zQ3 g r1 h1) (zA g))
    (k : zR g J h0 (pc + 3) L (r1.toList ++ rest) h1 r h') : zR g J h0 pc L st h r h' := by
  have k1 := k.1
  refine ⟨⟨by omega, by omega⟩, k.2.1, fun a1 a2 p l e R s m args below meth c Q X hs f1 f2 f3 f4 hr H locs ls hT hL => ?_⟩
  have hk := k.2.2 (by omega) (by omega) p l e R s m args below meth c Q X hs f1 f2 f3 f4 hr
  have hrun := hw (below := below) (e := e) (l := l) X f1 f2 hT hL (cells := h.length - h0.length) (slots := zsl h - zsl h0) (by omega) (by omega)
  intro T hT2 X2
  obtain ⟨v, st₀, t, T', L9, e0, X', hL9, e1, e2, ⟨⟨hv, hP1⟩, hz, hkk⟩, stp⟩ := hrun T hT2 X2
  have hv2 : v = r1.map (zv g) := by injection hv
  subst hv2
  rw [e0] at hz hkk
  have c1 : h.length - h0.length + (h1.length - h.length) = h1.length - h0.length := by omega
  have c2 : zsl h - zsl h0 + (zsl h1 - zsl h) = zsl h1 - zsl h0 := by omega
  rw [c1, c2] at X'
  have hS := hT.2.2
  have hS1 : va_S (zA g) s.heap T'.heap (locs ++ L9) := ⟨Nat.le_trans hS.1 (by rw [e1]; exact hz), fun q g1 g2 => by rw [e1, hkk q (Nat.lt_of_lt_of_le g1 hS.1) g2]; exact hS.2.1 q g1 g2, fun q hq => by
      rcases List.mem_append.mp hq with h | h
      · exact hS.2.2 q h
      · exact hL9 q h⟩
  obtain ⟨t2, a, b⟩ := zfix (locs := locs ++ L9) hs (by omega) (by rw [e1]; exact hP1) hS1 (fun hT1 => hk T'.heap (locs ++ L9) ls hT1 hL) T' rfl X'
  refine ⟨t2, stp t2 ?_, b⟩
  have c3 : (r1.toList ++ rest).map (zv g) = (r1.map (zv g)).toList ++ rest.map (zv g) := by cases r1 <;> simp
  rw [c3] at a
  exact a
theorem zr_ret {g : zG} {J : zJ} {h0 : zH} {pc : Nat} {L : List (Option zV)} {h : zH} (r : Option zV) (hok : zok J.2.2.2.1 r) (hd : decode J.2.1 pc = .ok (zret r, 1)) : zR g J h0 pc L r.toList h r h :=
  ⟨⟨Nat.le_refl _, Nat.le_refl _⟩, hok, fun _ _ _ _ _ _ _ _ _ _ _ _ _ _ _ _ _ _ _ hr H locs ls hT _ => hr pc ls H locs hT hd⟩
theorem ztys {g : zG} (h : g.2.1.map (fun q => q.2) = zty) {t : Nat} {ty : FieldType} (ht : zty[t]? = some ty) : g.2.1[t]? = some (zca g t, ty) := by
  rw [← h, List.getElem?_map, Option.map_eq_some_iff] at ht
  obtain ⟨q, h1, h2⟩ := ht
  rw [h1]
  simp [zca, List.getD_eq_getElem?_getD, h1, ← h2]
/-! ===== one row an instruction ===== -/
section zrows
variable {g : zG} {J : zJ} {h0 : zH} {pc : Nat} {L : List (Option zV)} {st : List zV} {h : zH} {r : Option zV} {h' : zH}
theorem zr_iconst {n : Int} {v : Int32} (hd : decode J.2.1 pc = .ok (.iconst n, 1)) (hv : Int32.ofInt n = v) (k : zR g J h0 (pc + 1) L (zi v :: st) h r h') : zR g J h0 pc L st h r h' :=
  zR.step (fun X _ _ _ _ _ hL kk => lv_iconst X.1 X.2.1 hd hv (kk _ hL)) k
theorem zr_bipush {n : Int} {v : Int32} (hd : decode J.2.1 pc = .ok (.bipush n, 2)) (hv : (Int8.ofInt n).toInt32 = v) (k : zR g J h0 (pc + 2) L (zi v :: st) h r h') : zR g J h0 pc L st h r h' :=
  zR.step (fun X _ _ _ _ _ hL kk => lv_bipush X.1 X.2.1 hd hv (kk _ hL)) k
theorem zr_sipush {n : Int} {v : Int32} (hd : decode J.2.1 pc = .ok (.sipush n, 3)) (hv : (Int16.ofInt n).toInt32 = v) (k : zR g J h0 (pc + 3) L (zi v :: st) h r h') : zR g J h0 pc L st h r h' :=
  zR.step (fun X _ _ _ _ _ hL kk => lv_sipush X.1 X.2.1 hd hv (kk _ hL)) k
theorem zr_ldc {index : Nat} {v : Int32} (hc : Cond.constant J.1.cls index v ∈ zWd) (hd : decode J.2.1 pc = .ok (.ldc index, 2)) (k : zR g J h0 (pc + 2) L (zi v :: st) h r h') : zR g J h0 pc L st h r h' :=
  zR.step (fun X _ _ _ _ _ hL kk => lv_ldc X.1 X.2.1 X.2.2.2.1 (X.2.2.2.2.1 _ hc) hd (kk _ hL)) k
theorem zr_ldcw {index : Nat} {v : Int32} (hc : Cond.constant J.1.cls index v ∈ zWd) (hd : decode J.2.1 pc = .ok (.ldc_w index, 3)) (k : zR g J h0 (pc + 3) L (zi v :: st) h r h') : zR g J h0 pc L st h r h' :=
  zR.step (fun X _ _ _ _ _ hL kk => lv_ldcw X.1 X.2.1 X.2.2.2.1 (X.2.2.2.2.1 _ hc) hd (kk _ hL)) k
theorem zr_ldcS {index i : Nat} {tx : String} (hi : i < 8) (ht : zSt.getD i (0, "") = (index, tx)) (ho : J.1.cls = RX5) (hd : decode J.2.1 pc = .ok (.ldc index, 2)) (k : zR g J h0 (pc + 2) L (zs i :: st) h r h') : zR g J h0 pc L st h r h' :=
  zR.step (fun X _ _ _ _ _ hL kk => va_ldcS (own := RX5) (tx := tx) (q := g.2.2.2.1 i) X.1 X.2.1 (by rw [← ho]; exact X.2.2.2.1) (by have := X.2.2.2.2.2.2.1.2.2.2.2.2.1 i hi; rw [ht] at this; exact this) hd (kk _ hL)) k
theorem zr_null (hd : decode J.2.1 pc = .ok (.aconst_null, 1)) (k : zR g J h0 (pc + 1) L (zr none :: st) h r h') : zR g J h0 pc L st h r h' :=
  zR.step (fun X _ _ _ _ _ hL kk => lv_null X.1 X.2.1 hd (kk _ hL)) k
theorem zr_iload_n {k : Fin 4} {i : Nat} {x : Int32} (hd : decode J.2.1 pc = .ok (.iload_n k, 1)) (hi : (k : Nat) = i) (hl : L[i]? = some (some (zi x))) (kk : zR g J h0 (pc + 1) L (zi x :: st) h r h') : zR g J h0 pc L st h r h' :=
  zR.step (fun X _ _ _ _ _ hL kk => lv_iload_n X.1 X.2.1 hd hi (zL_get hL hl) (kk _ hL)) kk
theorem zr_iload {i : Nat} {x : Int32} (hd : decode J.2.1 pc = .ok (.iload i, 2)) (hl : L[i]? = some (some (zi x))) (kk : zR g J h0 (pc + 2) L (zi x :: st) h r h') : zR g J h0 pc L st h r h' :=
  zR.step (fun X _ _ _ _ _ hL kk => lv_iload X.1 X.2.1 hd (zL_get hL hl) (kk _ hL)) kk
theorem zr_aload_n {k : Fin 4} {i : Nat} {v : Option Nat ⊕ Nat} (hd : decode J.2.1 pc = .ok (.aload_n k, 1)) (hi : (k : Nat) = i) (hl : L[i]? = some (some (.inr v))) (kk : zR g J h0 (pc + 1) L (.inr v :: st) h r h') : zR g J h0 pc L st h r h' := by
  refine zR.step (fun X _ _ _ _ _ hL kk => ?_) kk
  have h1 := zL_get hL hl
  rcases v with (_ | a) | q
  · exact lv_aload_nN X.1 X.2.1 hd hi h1 (kk _ hL)
  · exact lv_aload_n X.1 X.2.1 hd hi h1 (kk _ hL)
  · exact lv_aload_n X.1 X.2.1 hd hi h1 (kk _ hL)
theorem zr_aload {i : Nat} {v : Option Nat ⊕ Nat} (hd : decode J.2.1 pc = .ok (.aload i, 2)) (hl : L[i]? = some (some (.inr v))) (kk : zR g J h0 (pc + 2) L (.inr v :: st) h r h') : zR g J h0 pc L st h r h' := by
  refine zR.step (fun X _ _ _ _ _ hL kk => ?_) kk
  have h1 := zL_get hL hl
  rcases v with (_ | a) | q
  · exact lv_aloadN X.1 X.2.1 hd h1 (kk _ hL)
  · exact lv_aload X.1 X.2.1 hd h1 (kk _ hL)
  · exact lv_aload X.1 X.2.1 hd h1 (kk _ hL)
theorem zr_istore_n {k : Fin 4} {i : Nat} {x : Int32} (hd : decode J.2.1 pc = .ok (.istore_n k, 1)) (hi : (k : Nat) = i) (hn : i < J.2.2.1) (kk : zR g J h0 (pc + 1) (L.set i (some (zi x))) st h r h') : zR g J h0 pc L (zi x :: st) h r h' :=
  zR.step (fun X _ _ _ _ _ hL kk => lv_istore_n X.1 X.2.1 hd hi hL hn rfl (fun ls' hl => kk ls' (zL_set rfl hl))) kk
theorem zr_istore {i : Nat} {x : Int32} (hd : decode J.2.1 pc = .ok (.istore i, 2)) (hn : i < J.2.2.1) (kk : zR g J h0 (pc + 2) (L.set i (some (zi x))) st h r h') : zR g J h0 pc L (zi x :: st) h r h' :=
  zR.step (fun X _ _ _ _ _ hL kk => lv_istore X.1 X.2.1 hd hL hn rfl (fun ls' hl => kk ls' (zL_set rfl hl))) kk
theorem zr_astore_n {k : Fin 4} {i : Nat} {v : Option Nat ⊕ Nat} (hd : decode J.2.1 pc = .ok (.astore_n k, 1)) (hi : (k : Nat) = i) (hn : i < J.2.2.1) (kk : zR g J h0 (pc + 1) (L.set i (some (.inr v))) st h r h') : zR g J h0 pc L (.inr v :: st) h r h' := by
  refine zR.step (fun X _ _ _ _ _ hL kk => ?_) kk
  rcases v with (_ | a) | q
  · exact lv_astore_nN X.1 X.2.1 hd hi hL hn rfl (fun ls' hl => kk ls' (zL_set rfl hl))
  · exact lv_astore_n X.1 X.2.1 hd hi hL hn rfl (fun ls' hl => kk ls' (zL_set rfl hl))
  · exact lv_astore_n X.1 X.2.1 hd hi hL hn rfl (fun ls' hl => kk ls' (zL_set rfl hl))
theorem zr_astore {i : Nat} {v : Option Nat ⊕ Nat} (hd : decode J.2.1 pc = .ok (.astore i, 2)) (hn : i < J.2.2.1) (kk : zR g J h0 (pc + 2) (L.set i (some (.inr v))) st h r h') : zR g J h0 pc L (.inr v :: st) h r h' := by
  refine zR.step (fun X _ _ _ _ _ hL kk => ?_) kk
  rcases v with (_ | a) | q
  · exact lv_astoreN X.1 X.2.1 hd hL hn rfl (fun ls' hl => kk ls' (zL_set rfl hl))
  · exact lv_astore X.1 X.2.1 hd hL hn rfl (fun ls' hl => kk ls' (zL_set rfl hl))
  · exact lv_astore X.1 X.2.1 hd hL hn rfl (fun ls' hl => kk ls' (zL_set rfl hl))
theorem zr_iinc {i : Nat} {n : Int} {x y : Int32} (hd : decode J.2.1 pc = .ok (.iinc i n, 3)) (hl : L[i]? = some (some (zi x))) (hy : Int32.ofInt n = y) (hn : i < J.2.2.1) (kk : zR g J h0 (pc + 3) (L.set i (some (zi (x + y)))) st h r h') : zR g J h0 pc L st h r h' := by
  refine zR.step (fun X _ _ _ _ _ hL kk => ?_) kk
  obtain ⟨j, hj⟩ := List.getElem?_of_mem (zas_mem.mpr ⟨i, zi x, hl, rfl⟩ : ((0 + i, zv g (zi x)) ∈ zas g 0 L))
  rw [Nat.zero_add] at hj
  exact lv_iinc (k := j) X.1 X.2.1 hd hL hj (by rw [hy]) hn rfl (fun ls' hl => kk ls' (zL_set rfl hl))
theorem zr_iadd {x y : Int32} (hd : decode J.2.1 pc = .ok (.iadd, 1)) (k : zR g J h0 (pc + 1) L (zi (x + y) :: st) h r h') : zR g J h0 pc L (zi y :: zi x :: st) h r h' :=
  zR.step (fun X _ _ _ _ _ hL kk => lv_iadd X.1 X.2.1 hd (kk _ hL)) k
theorem zr_isub {x y : Int32} (hd : decode J.2.1 pc = .ok (.isub, 1)) (k : zR g J h0 (pc + 1) L (zi (x - y) :: st) h r h') : zR g J h0 pc L (zi y :: zi x :: st) h r h' :=
  zR.step (fun X _ _ _ _ _ hL kk => lv_isub X.1 X.2.1 hd (kk _ hL)) k
theorem zr_imul {x y : Int32} (hd : decode J.2.1 pc = .ok (.imul, 1)) (k : zR g J h0 (pc + 1) L (zi (x * y) :: st) h r h') : zR g J h0 pc L (zi y :: zi x :: st) h r h' :=
  zR.step (fun X _ _ _ _ _ hL kk => lv_imul X.1 X.2.1 hd (kk _ hL)) k
theorem zr_iand {x y : Int32} (hd : decode J.2.1 pc = .ok (.iand, 1)) (k : zR g J h0 (pc + 1) L (zi (x &&& y) :: st) h r h') : zR g J h0 pc L (zi y :: zi x :: st) h r h' :=
  zR.step (fun X _ _ _ _ _ hL kk => lv_iand X.1 X.2.1 hd (kk _ hL)) k
theorem zr_ixor {x y : Int32} (hd : decode J.2.1 pc = .ok (.ixor, 1)) (k : zR g J h0 (pc + 1) L (zi (x ^^^ y) :: st) h r h') : zR g J h0 pc L (zi y :: zi x :: st) h r h' :=
  zR.step (fun X _ _ _ _ _ hL kk => lv_ixor X.1 X.2.1 hd (kk _ hL)) k
theorem zr_ishr {x y : Int32} (hd : decode J.2.1 pc = .ok (.ishr, 1)) (k : zR g J h0 (pc + 1) L (zi (x >>> (y &&& 31)) :: st) h r h') : zR g J h0 pc L (zi y :: zi x :: st) h r h' :=
  zR.step (fun X _ _ _ _ _ hL kk => lv_ishr X.1 X.2.1 hd (kk _ hL)) k
theorem zr_idiv {x y : Int32} (hne : ¬ y = 0) (hd : decode J.2.1 pc = .ok (.idiv, 1)) (k : zR g J h0 (pc + 1) L (zi (x / y) :: st) h r h') : zR g J h0 pc L (zi y :: zi x :: st) h r h' :=
  zR.step (fun X _ _ _ _ _ hL kk => lv_idiv X.1 X.2.1 hd hne (kk _ hL)) k
theorem zr_irem {x y : Int32} (hne : ¬ y = 0) (hd : decode J.2.1 pc = .ok (.irem, 1)) (k : zR g J h0 (pc + 1) L (zi (x - x / y * y) :: st) h r h') : zR g J h0 pc L (zi y :: zi x :: st) h r h' :=
  zR.step (fun X _ _ _ _ _ hL kk => lv_irem X.1 X.2.1 hd hne (kk _ hL)) k
theorem zr_i2b {x : Int32} (hd : decode J.2.1 pc = .ok (.i2b, 1)) (k : zR g J h0 (pc + 1) L (zi x.toInt8.toInt32 :: st) h r h') : zR g J h0 pc L (zi x :: st) h r h' :=
  zR.step (fun X _ _ _ _ _ hL kk => lv_i2b X.1 X.2.1 hd rfl (kk _ hL)) k
theorem zr_dup {v : zV} (hd : decode J.2.1 pc = .ok (.dup, 1)) (k : zR g J h0 (pc + 1) L (v :: v :: st) h r h') : zR g J h0 pc L (v :: st) h r h' :=
  zR.step (fun X _ _ _ _ _ hL kk => lv_dup X.1 X.2.1 hd (zv_cat g v) (kk _ hL)) k
theorem zr_pop {v : zV} (hd : decode J.2.1 pc = .ok (.pop, 1)) (k : zR g J h0 (pc + 1) L st h r h') : zR g J h0 pc L (v :: st) h r h' :=
  zR.step (fun X _ _ _ _ _ hL kk => lv_pop X.1 X.2.1 hd (zv_cat g v) (kk _ hL)) k
theorem zr_dup2 {v w : zV} (hd : decode J.2.1 pc = .ok (.dup2, 1)) (k : zR g J h0 (pc + 1) L (v :: w :: v :: w :: st) h r h') : zR g J h0 pc L (v :: w :: st) h r h' :=
  zR.step (fun X _ _ _ _ _ hL kk => lv_dup2_11 X.1 X.2.1 hd (zv_cat g v) (zv_cat g w) (kk _ hL)) k
theorem zr_goto {off : Int} {tgt : Nat} (hd : decode J.2.1 pc = .ok (.goto off, 3)) (ht : (pc : Int) + off = (tgt : Int)) (k : zR g J h0 tgt L st h r h') : zR g J h0 pc L st h r h' :=
  zR.step (fun X _ _ _ _ _ hL kk => lv_goto X.1 X.2.1 hd ht (kk _ hL)) k
theorem zr_ifeq_t {x : Int32} {off : Int} {tgt : Nat} (hd : decode J.2.1 pc = .ok (.ifCond .eq off, 3)) (ht : (pc : Int) + off = (tgt : Int)) (hc : x = 0) (k : zR g J h0 tgt L st h r h') : zR g J h0 pc L (zi x :: st) h r h' :=
  zR.step (fun X _ _ _ _ _ hL kk => lv_if_eq X.1 X.2.1 hd ht (fun _ => kk _ hL) (fun n => absurd hc n)) k
theorem zr_ifeq_f {x : Int32} {off : Int} (tgt : Nat) (hd : decode J.2.1 pc = .ok (.ifCond .eq off, 3)) (ht : (pc : Int) + off = (tgt : Int)) (hc : ¬ x = 0) (k : zR g J h0 (pc + 3) L st h r h') : zR g J h0 pc L (zi x :: st) h r h' :=
  zR.step (fun X _ _ _ _ _ hL kk => lv_if_eq X.1 X.2.1 hd ht (fun n => absurd n hc) (fun _ => kk _ hL)) k
theorem zr_ifne_t {x : Int32} {off : Int} {tgt : Nat} (hd : decode J.2.1 pc = .ok (.ifCond .ne off, 3)) (ht : (pc : Int) + off = (tgt : Int)) (hc : ¬ x = 0) (k : zR g J h0 tgt L st h r h') : zR g J h0 pc L (zi x :: st) h r h' :=
  zR.step (fun X _ _ _ _ _ hL kk => lv_if_ne X.1 X.2.1 hd ht (fun _ => kk _ hL) (fun n => absurd n hc)) k
theorem zr_ifne_f {x : Int32} {off : Int} (tgt : Nat) (hd : decode J.2.1 pc = .ok (.ifCond .ne off, 3)) (ht : (pc : Int) + off = (tgt : Int)) (hc : x = 0) (k : zR g J h0 (pc + 3) L st h r h') : zR g J h0 pc L (zi x :: st) h r h' :=
  zR.step (fun X _ _ _ _ _ hL kk => lv_if_ne X.1 X.2.1 hd ht (fun n => absurd hc n) (fun _ => kk _ hL)) k
theorem zr_iflt_t {x : Int32} {off : Int} {tgt : Nat} (hd : decode J.2.1 pc = .ok (.ifCond .lt off, 3)) (ht : (pc : Int) + off = (tgt : Int)) (hc : x < 0) (k : zR g J h0 tgt L st h r h') : zR g J h0 pc L (zi x :: st) h r h' :=
  zR.step (fun X _ _ _ _ _ hL kk => lv_if_lt X.1 X.2.1 hd ht (fun _ => kk _ hL) (fun n => absurd hc n)) k
theorem zr_iflt_f {x : Int32} {off : Int} (tgt : Nat) (hd : decode J.2.1 pc = .ok (.ifCond .lt off, 3)) (ht : (pc : Int) + off = (tgt : Int)) (hc : ¬ x < 0) (k : zR g J h0 (pc + 3) L st h r h') : zR g J h0 pc L (zi x :: st) h r h' :=
  zR.step (fun X _ _ _ _ _ hL kk => lv_if_lt X.1 X.2.1 hd ht (fun n => absurd n hc) (fun _ => kk _ hL)) k
theorem zr_ifge_t {x : Int32} {off : Int} {tgt : Nat} (hd : decode J.2.1 pc = .ok (.ifCond .ge off, 3)) (ht : (pc : Int) + off = (tgt : Int)) (hc : 0 ≤ x) (k : zR g J h0 tgt L st h r h') : zR g J h0 pc L (zi x :: st) h r h' :=
  zR.step (fun X _ _ _ _ _ hL kk => lv_if_ge X.1 X.2.1 hd ht (fun _ => kk _ hL) (fun n => absurd hc n)) k
theorem zr_ifge_f {x : Int32} {off : Int} (tgt : Nat) (hd : decode J.2.1 pc = .ok (.ifCond .ge off, 3)) (ht : (pc : Int) + off = (tgt : Int)) (hc : ¬ 0 ≤ x) (k : zR g J h0 (pc + 3) L st h r h') : zR g J h0 pc L (zi x :: st) h r h' :=
  zR.step (fun X _ _ _ _ _ hL kk => lv_if_ge X.1 X.2.1 hd ht (fun n => absurd n hc) (fun _ => kk _ hL)) k
theorem zr_ifgt_t {x : Int32} {off : Int} {tgt : Nat} (hd : decode J.2.1 pc = .ok (.ifCond .gt off, 3)) (ht : (pc : Int) + off = (tgt : Int)) (hc : 0 < x) (k : zR g J h0 tgt L st h r h') : zR g J h0 pc L (zi x :: st) h r h' :=
  zR.step (fun X _ _ _ _ _ hL kk => lv_if_gt X.1 X.2.1 hd ht (fun _ => kk _ hL) (fun n => absurd hc n)) k
theorem zr_ifgt_f {x : Int32} {off : Int} (tgt : Nat) (hd : decode J.2.1 pc = .ok (.ifCond .gt off, 3)) (ht : (pc : Int) + off = (tgt : Int)) (hc : ¬ 0 < x) (k : zR g J h0 (pc + 3) L st h r h') : zR g J h0 pc L (zi x :: st) h r h' :=
  zR.step (fun X _ _ _ _ _ hL kk => lv_if_gt X.1 X.2.1 hd ht (fun n => absurd n hc) (fun _ => kk _ hL)) k
theorem zr_ifle_t {x : Int32} {off : Int} {tgt : Nat} (hd : decode J.2.1 pc = .ok (.ifCond .le off, 3)) (ht : (pc : Int) + off = (tgt : Int)) (hc : x ≤ 0) (k : zR g J h0 tgt L st h r h') : zR g J h0 pc L (zi x :: st) h r h' :=
  zR.step (fun X _ _ _ _ _ hL kk => lv_if_le X.1 X.2.1 hd ht (fun _ => kk _ hL) (fun n => absurd hc n)) k
theorem zr_ifle_f {x : Int32} {off : Int} (tgt : Nat) (hd : decode J.2.1 pc = .ok (.ifCond .le off, 3)) (ht : (pc : Int) + off = (tgt : Int)) (hc : ¬ x ≤ 0) (k : zR g J h0 (pc + 3) L st h r h') : zR g J h0 pc L (zi x :: st) h r h' :=
  zR.step (fun X _ _ _ _ _ hL kk => lv_if_le X.1 X.2.1 hd ht (fun n => absurd n hc) (fun _ => kk _ hL)) k
theorem zr_iceq_t {x y : Int32} {off : Int} {tgt : Nat} (hd : decode J.2.1 pc = .ok (.if_icmp .eq off, 3)) (ht : (pc : Int) + off = (tgt : Int)) (hc : x = y) (k : zR g J h0 tgt L st h r h') : zR g J h0 pc L (zi y :: zi x :: st) h r h' :=
  zR.step (fun X _ _ _ _ _ hL kk => lv_icmp_eq X.1 X.2.1 hd ht (fun _ => kk _ hL) (fun n => absurd hc n)) k
theorem zr_iceq_f {x y : Int32} {off : Int} (tgt : Nat) (hd : decode J.2.1 pc = .ok (.if_icmp .eq off, 3)) (ht : (pc : Int) + off = (tgt : Int)) (hc : ¬ x = y) (k : zR g J h0 (pc + 3) L st h r h') : zR g J h0 pc L (zi y :: zi x :: st) h r h' :=
  zR.step (fun X _ _ _ _ _ hL kk => lv_icmp_eq X.1 X.2.1 hd ht (fun n => absurd n hc) (fun _ => kk _ hL)) k
theorem zr_icne_t {x y : Int32} {off : Int} {tgt : Nat} (hd : decode J.2.1 pc = .ok (.if_icmp .ne off, 3)) (ht : (pc : Int) + off = (tgt : Int)) (hc : ¬ x = y) (k : zR g J h0 tgt L st h r h') : zR g J h0 pc L (zi y :: zi x :: st) h r h' :=
  zR.step (fun X _ _ _ _ _ hL kk => lv_icmp_ne X.1 X.2.1 hd ht (fun _ => kk _ hL) (fun n => absurd n hc)) k
theorem zr_icne_f {x y : Int32} {off : Int} (tgt : Nat) (hd : decode J.2.1 pc = .ok (.if_icmp .ne off, 3)) (ht : (pc : Int) + off = (tgt : Int)) (hc : x = y) (k : zR g J h0 (pc + 3) L st h r h') : zR g J h0 pc L (zi y :: zi x :: st) h r h' :=
  zR.step (fun X _ _ _ _ _ hL kk => lv_icmp_ne X.1 X.2.1 hd ht (fun n => absurd hc n) (fun _ => kk _ hL)) k
theorem zr_iclt_t {x y : Int32} {off : Int} {tgt : Nat} (hd : decode J.2.1 pc = .ok (.if_icmp .lt off, 3)) (ht : (pc : Int) + off = (tgt : Int)) (hc : x < y) (k : zR g J h0 tgt L st h r h') : zR g J h0 pc L (zi y :: zi x :: st) h r h' :=
  zR.step (fun X _ _ _ _ _ hL kk => lv_icmp_lt X.1 X.2.1 hd ht (fun _ => kk _ hL) (fun n => absurd hc n)) k
theorem zr_iclt_f {x y : Int32} {off : Int} (tgt : Nat) (hd : decode J.2.1 pc = .ok (.if_icmp .lt off, 3)) (ht : (pc : Int) + off = (tgt : Int)) (hc : ¬ x < y) (k : zR g J h0 (pc + 3) L st h r h') : zR g J h0 pc L (zi y :: zi x :: st) h r h' :=
  zR.step (fun X _ _ _ _ _ hL kk => lv_icmp_lt X.1 X.2.1 hd ht (fun n => absurd n hc) (fun _ => kk _ hL)) k
theorem zr_icge_t {x y : Int32} {off : Int} {tgt : Nat} (hd : decode J.2.1 pc = .ok (.if_icmp .ge off, 3)) (ht : (pc : Int) + off = (tgt : Int)) (hc : y ≤ x) (k : zR g J h0 tgt L st h r h') : zR g J h0 pc L (zi y :: zi x :: st) h r h' :=
  zR.step (fun X _ _ _ _ _ hL kk => lv_icmp_ge X.1 X.2.1 hd ht (fun _ => kk _ hL) (fun n => absurd hc n)) k
theorem zr_icge_f {x y : Int32} {off : Int} (tgt : Nat) (hd : decode J.2.1 pc = .ok (.if_icmp .ge off, 3)) (ht : (pc : Int) + off = (tgt : Int)) (hc : ¬ y ≤ x) (k : zR g J h0 (pc + 3) L st h r h') : zR g J h0 pc L (zi y :: zi x :: st) h r h' :=
  zR.step (fun X _ _ _ _ _ hL kk => lv_icmp_ge X.1 X.2.1 hd ht (fun n => absurd n hc) (fun _ => kk _ hL)) k
theorem zr_icgt_t {x y : Int32} {off : Int} {tgt : Nat} (hd : decode J.2.1 pc = .ok (.if_icmp .gt off, 3)) (ht : (pc : Int) + off = (tgt : Int)) (hc : y < x) (k : zR g J h0 tgt L st h r h') : zR g J h0 pc L (zi y :: zi x :: st) h r h' :=
  zR.step (fun X _ _ _ _ _ hL kk => lv_icmp_gt X.1 X.2.1 hd ht (fun _ => kk _ hL) (fun n => absurd hc n)) k
theorem zr_icgt_f {x y : Int32} {off : Int} (tgt : Nat) (hd : decode J.2.1 pc = .ok (.if_icmp .gt off, 3)) (ht : (pc : Int) + off = (tgt : Int)) (hc : ¬ y < x) (k : zR g J h0 (pc + 3) L st h r h') : zR g J h0 pc L (zi y :: zi x :: st) h r h' :=
  zR.step (fun X _ _ _ _ _ hL kk => lv_icmp_gt X.1 X.2.1 hd ht (fun n => absurd n hc) (fun _ => kk _ hL)) k
theorem zr_icle_t {x y : Int32} {off : Int} {tgt : Nat} (hd : decode J.2.1 pc = .ok (.if_icmp .le off, 3)) (ht : (pc : Int) + off = (tgt : Int)) (hc : x ≤ y) (k : zR g J h0 tgt L st h r h') : zR g J h0 pc L (zi y :: zi x :: st) h r h' :=
  zR.step (fun X _ _ _ _ _ hL kk => lv_icmp_le X.1 X.2.1 hd ht (fun _ => kk _ hL) (fun n => absurd hc n)) k
theorem zr_icle_f {x y : Int32} {off : Int} (tgt : Nat) (hd : decode J.2.1 pc = .ok (.if_icmp .le off, 3)) (ht : (pc : Int) + off = (tgt : Int)) (hc : ¬ x ≤ y) (k : zR g J h0 (pc + 3) L st h r h') : zR g J h0 pc L (zi y :: zi x :: st) h r h' :=
  zR.step (fun X _ _ _ _ _ hL kk => lv_icmp_le X.1 X.2.1 hd ht (fun n => absurd n hc) (fun _ => kk _ hL)) k
theorem zr_ifnull_t {o : Option Nat} {off : Int} {tgt : Nat} (hd : decode J.2.1 pc = .ok (.ifnull off, 3)) (ht : (pc : Int) + off = (tgt : Int)) (hc : o = none) (k : zR g J h0 tgt L st h r h') : zR g J h0 pc L (zr o :: st) h r h' := by
  subst hc
  exact zR.step (fun X _ _ _ _ _ hL kk => lv_ifnullN X.1 X.2.1 hd ht (kk _ hL)) k
theorem zr_ifnull_f {o : Option Nat} {off : Int} (hd : decode J.2.1 pc = .ok (.ifnull off, 3)) (hc : ¬ o = none) (k : zR g J h0 (pc + 3) L st h r h') : zR g J h0 pc L (zr o :: st) h r h' := by
  cases o with
  | none => exact absurd rfl hc
  | some a => exact zR.step (fun X _ _ _ _ _ hL kk => lv_ifnull (x := g.2.2.1 + a) X.1 X.2.1 hd (kk _ hL)) k
theorem zr_ifnonnull_t {o : Option Nat} {off : Int} {tgt : Nat} (hd : decode J.2.1 pc = .ok (.ifnonnull off, 3)) (ht : (pc : Int) + off = (tgt : Int)) (hc : ¬ o = none) (k : zR g J h0 tgt L st h r h') : zR g J h0 pc L (zr o :: st) h r h' := by
  cases o with
  | none => exact absurd rfl hc
  | some a => exact zR.step (fun X _ _ _ _ _ hL kk => lv_ifnonnull (x := g.2.2.1 + a) X.1 X.2.1 hd ht (kk _ hL)) k
theorem zr_ifnonnull_f {o : Option Nat} {off : Int} (hd : decode J.2.1 pc = .ok (.ifnonnull off, 3)) (hc : o = none) (k : zR g J h0 (pc + 3) L st h r h') : zR g J h0 pc L (zr o :: st) h r h' := by
  subst hc
  exact zR.step (fun X _ _ _ _ _ hL kk => lv_ifnonnullN X.1 X.2.1 hd (kk _ hL)) k
theorem zr_tabIn {dflt lo hi : Int} {offs : Array Int} {len : Nat} {x : Int32} {off : Int} {tgt : Nat} (hd : decode J.2.1 pc = .ok (.tableswitch dflt lo hi offs, len)) (h1 : lo ≤ x.toInt ∧ x.toInt ≤ hi) (ho : offs[(x.toInt - lo).toNat]? = some off) (ht : (pc : Int) + off = (tgt : Int)) (k : zR g J h0 tgt L st h r h') : zR g J h0 pc L (zi x :: st) h r h' :=
  zR.step (fun X _ _ _ _ _ hL kk => lv_tableIn X.1 X.2.1 hd (by omega) (by omega) ho ht (kk _ hL)) k
theorem zr_tabOut {dflt lo hi : Int} {offs : Array Int} {len : Nat} {x : Int32} {tgt : Nat} (hd : decode J.2.1 pc = .ok (.tableswitch dflt lo hi offs, len)) (h1 : ¬ (lo ≤ x.toInt ∧ x.toInt ≤ hi)) (ht : (pc : Int) + dflt = (tgt : Int)) (k : zR g J h0 tgt L st h r h') : zR g J h0 pc L (zi x :: st) h r h' :=
  zR.step (fun X _ _ _ _ _ hL kk => lv_tableOut X.1 X.2.1 hd (by omega) ht (kk _ hL)) k
theorem zr_look {dflt : Int} {ps : Array (Int × Int)} {len : Nat} {x : Int32} {off : Int} {tgt : Nat} (hd : decode J.2.1 pc = .ok (.lookupswitch dflt ps, len)) (hp : (ps.toList.zip (ps.toList.drop 1)).all (fun (a, next) => a.1 < next.1) = true) (ho : Op.lookupswitch.offset ps.toList dflt x.toInt = off) (ht : (pc : Int) + off = (tgt : Int)) (k : zR g J h0 tgt L st h r h') : zR g J h0 pc L (zi x :: st) h r h' :=
  zR.step (fun X _ _ _ _ _ hL kk => lv_lookup X.1 X.2.1 hd hp ho ht (kk _ hL)) k
end zrows
end
section
/-! ===== rows that read and write the heap ===== -/
theorem zRA_eq {s : State} {c1 c2 : ClassId} {ty : FieldType} (h1 : va_RA s c1 ty) (h2 : va_RA s c2 ty) : c1 = c2 := by
  cases ty with
  | object C =>
    obtain ⟨_, _, -, -, -, a⟩ := h1
    obtain ⟨_, _, -, -, -, b⟩ := h2
    exact Option.some.inj (a.symm.trans b)
  | _ => exact Option.some.inj (Eq.trans (Eq.symm h1) h2)
def zFg (own : String) (idx ci k : Nat) : Prop := ∃ (C : String) (T : u_T) (N : Nat), vwCl[ci]? = some (C, T, N) ∧ k < N ∧ (∀ w ∈ u_ws C T N, w ∈ zWd) ∧ (Cond.fieldLink own idx (T k).1 (T k).2.1 (T k).2.2.1 ∈ zWd ∨ ∃ host, Cond.fieldLinkNest own idx (T k).1 (T k).2.1 (T k).2.2.1 host ∈ zNw)
def zFp (own nm : String) (idx ci k : Nat) (ty : FieldType) : Prop := ∃ (C : String) (T : u_T) (N : Nat) (ty0 : Nat → FieldType), vwCl[ci]? = some (C, T, N) ∧ k < N ∧ (∀ w ∈ u_ws C T N, w ∈ zWd) ∧ (∀ k, k < N → parseFieldDescriptor (T k).2.2.1 = some (ty0 k)) ∧ (∀ a, a < N → ∀ b, b < N → a ≠ b → (T a).2.1 ≠ (T b).2.1) ∧ parseFieldDescriptor (T k).2.2.1 = some ty ∧
  (((T k).2.2.2 = false ∧ Cond.fieldLink own idx (T k).1 (T k).2.1 (T k).2.2.1 ∈ zWd) ∨ ((T k).2.2.2 = false ∧ ∃ host, Cond.fieldLinkNest own idx (T k).1 (T k).2.1 (T k).2.2.1 host ∈ zNw) ∨ ((T k).2.2.2 = true ∧ nm = "<init>" ∧ (T k).1 = own ∧ Cond.fieldLink own idx (T k).1 (T k).2.1 (T k).2.2.1 ∈ zWd))
def zFn (own : String) (idx ci : Nat) (fs : List zV) : Prop := ∃ (C : String) (T : u_T) (N : Nat) (ty : Nat → FieldType), vwCl[ci]? = some (C, T, N) ∧ (∀ w ∈ u_ws C T N, w ∈ zWd) ∧ (∀ k, k < N → parseFieldDescriptor (T k).2.2.1 = some (ty k)) ∧ Cond.classLink own idx C ∈ zWd ∧ Cond.instantiable C N ∈ zWd ∧ Cond.initialized C ∈ zWd ∧ fs.length = N ∧ ∀ (g : zG) (j : Nat), j < N → defaultValue (ty j) = vp_V (fs.map (zv g)) j
section zheap
variable {g : zG} {J : zJ} {h0 : zH} {pc : Nat} {L : List (Option zV)} {st : List zV} {h : zH} {r : Option zV} {h' : zH}
theorem zr_get {idx ci k a : Nat} {fs : List zV} {v : zV} (hf : zFg J.1.cls idx ci k) (hd : decode J.2.1 pc = .ok (.getfield idx, 3)) (ha : h[a]? = some (.inr (ci, fs))) (hv : fs[k]? = some v) (kk : zR g J h0 (pc + 3) L (v :: st) h r h') : zR g J h0 pc L (zr (some a) :: st) h r h' := by
  obtain ⟨C, T, N, hc, hk, hin, hl⟩ := hf
  refine zR.step (fun X _ _ _ _ hT hL kk => ?_) kk
  have hv2 : (fs.map (zv g))[k]? = some (zv g v) := by rw [List.getElem?_map, hv]; rfl
  rcases hl with hl | ⟨host, hl⟩
  · exact va_get (D := g.1) (ci := ci) (v := zv g v) (C := C) (T := T) (N := N) X.1 X.2.1 X.2.2.2.2.1 hin X.2.2.2.1 X.2.2.2.2.2.2.1.1 hT.2.1 a (zw_get ha) hc k hk (X.2.2.2.2.1 _ hl) (fun _ h9 => h9) hv2 hd (kk _ hL)
  · exact va_getN (D := g.1) (ci := ci) (v := zv g v) (C := C) (T := T) (N := N) (host := host) X.1 X.2.1 X.2.2.2.2.1 hin X.2.2.2.1 X.2.2.2.2.2.2.1.1 hT.2.1 a (zw_get ha) hc k hk (va_Nw.use rfl (X.2.2.2.2.2.2.1.2.1 _ hl)) (fun _ h9 => h9) hv2 hd (kk _ hL)
theorem zr_put {idx ci k a : Nat} {ty : FieldType} {fs : List zV} {v : zV} (hf : zFp J.1.cls J.1.name idx ci k ty) (hd : decode J.2.1 pc = .ok (.putfield idx, 3)) (ha : h[a]? = some (.inr (ci, fs))) (hlen : k < fs.length) (hn : ∀ g : zG, narrow ty (zv g v) = zv g v ∧ fits ty (zv g v) = true) (kk : zR g J h0 (pc + 3) L st (h.set a (.inr (ci, fs.set k v))) r h') : zR g J h0 pc L (v :: zr (some a) :: st) h r h' := by
  obtain ⟨C, T, N, ty0, hc, hk, hin, hty, hnm, hpd, hl⟩ := hf
  refine zR.stepS (List.length_set ..) (zsl_set h a _ _ ha (by simp [zsz])) (fun {p l e R s m args below meth c Q H locs cells slots ls} X _ _ hT hL kk => ?_) kk
  have hlen2 : k < (fs.map (zv g)).length := by simpa using hlen
  have he : (zw g h).set a (g.2.2.1 + a, .inr (ci, (fs.map (zv g)).set k (zv g v))) = zw g (h.set a (.inr (ci, fs.set k v))) := by
    rw [← zw_set]
    simp only [zc, List.map_set]
  rcases hl with ⟨hfin, hl⟩ | ⟨hfin, host, hl⟩ | ⟨hfin, hnam, hdecl, hl⟩
  · refine va_put (D := g.1) (ci := ci) (v := zv g v) (ty := ty) (C := C) (T := T) (N := N) X.1 X.2.1 X.2.2.2.2.1 hin ty0 hty hnm X.2.2.2.1 X.2.2.2.2.2.2.1.1 hT.2.1 (zw_D g h) hT.2.2 a (zw_get ha) hc k hk (X.2.2.2.2.1 _ hl) (fun _ h9 => h9) hfin hpd (hn g).1 (hn g).2 hlen2 hd (fun H1 locs1 hP hD hS => ?_)
    rw [he] at hP
    exact kk H1 locs1 ls hP hS hL
  · refine va_putN (D := g.1) (ci := ci) (v := zv g v) (ty := ty) (C := C) (T := T) (N := N) (host := host) X.1 X.2.1 X.2.2.2.2.1 hin ty0 hty hnm X.2.2.2.1 X.2.2.2.2.2.2.1.1 hT.2.1 (zw_D g h) hT.2.2 a (zw_get ha) hc k hk (va_Nw.use rfl (X.2.2.2.2.2.2.1.2.1 _ hl)) (fun _ h9 => h9) hfin hpd (hn g).1 (hn g).2 hlen2 hd (fun H1 locs1 hP hD hS => ?_)
    rw [he] at hP
    exact kk H1 locs1 ls hP hS hL
  · refine va_putF (D := g.1) (ci := ci) (v := zv g v) (ty := ty) (C := C) (T := T) (N := N) X.1 X.2.1 X.2.2.2.2.1 hin ty0 hty hnm X.2.2.2.1 X.2.2.2.2.2.2.1.1 hT.2.1 (zw_D g h) hT.2.2 a (zw_get ha) hc k hk (X.2.2.2.2.1 _ hl) (fun _ h9 => h9) hfin (X.2.2.2.2.2.1 hnam) hdecl hpd (hn g).1 (hn g).2 hlen2 hd (fun H1 locs1 hP hD hS => ?_)
    rw [he] at hP
    exact kk H1 locs1 ls hP hS hL
theorem zn_i (x : Int32) (g : zG) : narrow .int (zv g (zi x)) = zv g (zi x) ∧ fits .int (zv g (zi x)) = true := ⟨rfl, rfl⟩
theorem zn_o (C : String) (o : Option Nat) (g : zG) : narrow (.object C) (zv g (zr o)) = zv g (zr o) ∧ fits (.object C) (zv g (zr o)) = true := by cases o <;> exact ⟨rfl, rfl⟩
theorem zn_a (t : FieldType) (o : Option Nat) (g : zG) : narrow (.array t) (zv g (zr o)) = zv g (zr o) ∧ fits (.array t) (zv g (zr o)) = true := by cases o <;> exact ⟨rfl, rfl⟩
theorem zr_alen {a t n : Nat} {ty : FieldType} {x : (Nat → Int32) ⊕ (Nat → Option Nat)} (ht : zty[t]? = some ty) (hd : decode J.2.1 pc = .ok (.arraylength, 1)) (ha : h[a]? = some (.inl (t, n, x))) (kk : zR g J h0 (pc + 1) L (zi (nI n) :: st) h r h') : zR g J h0 pc L (zr (some a) :: st) h r h' := by
  refine zR.step (fun X _ _ _ _ hT hL kk => ?_) kk
  rcases x with f | f
  · exact va_alen (D := g.1) X.1 X.2.1 X.2.2.2.2.2.2.1.1 hT.2.1 a t (zw_get ha) (ztys X.2.2.2.2.2.2.2 ht) rfl hd (kk _ hL)
  · exact va_alen (D := g.1) X.1 X.2.1 X.2.2.2.2.2.2.1.1 hT.2.1 a t (zw_get ha) (ztys X.2.2.2.2.2.2.2 ht) rfl hd (kk _ hL)
theorem zr_iald {a n : Nat} {f : Nat → Int32} {i : Int32} (hd : decode J.2.1 pc = .ok (.iaload, 1)) (ha : h[a]? = some (.inl (0, n, .inl f))) (hin : vp_in i n) (kk : zR g J h0 (pc + 1) L (zi (f i.toNatClampNeg) :: st) h r h') : zR g J h0 pc L (zi i :: zr (some a) :: st) h r h' :=
  zR.step (fun X _ _ _ _ hT hL kk => va_iald (D := g.1) X.1 X.2.1 X.2.2.2.2.2.2.1.1 hT.2.1 a 0 (zw_get ha) (ztys X.2.2.2.2.2.2.2 rfl) hin hd (kk _ hL)) kk
theorem zr_bald {a n : Nat} {f : Nat → Int32} {i : Int32} (hd : decode J.2.1 pc = .ok (.baload, 1)) (ha : h[a]? = some (.inl (1, n, .inl f))) (hin : vp_in i n) (kk : zR g J h0 (pc + 1) L (zi (f i.toNatClampNeg) :: st) h r h') : zR g J h0 pc L (zi i :: zr (some a) :: st) h r h' :=
  zR.step (fun X _ _ _ _ hT hL kk => va_bald (D := g.1) X.1 X.2.1 X.2.2.2.2.2.2.1.1 hT.2.1 a 1 (zw_get ha) (ztys X.2.2.2.2.2.2.2 rfl) hin hd (kk _ hL)) kk
theorem zr_cald {a n : Nat} {f : Nat → Int32} {i : Int32} (hd : decode J.2.1 pc = .ok (.caload, 1)) (ha : h[a]? = some (.inl (2, n, .inl f))) (hin : vp_in i n) (kk : zR g J h0 (pc + 1) L (zi (f i.toNatClampNeg) :: st) h r h') : zR g J h0 pc L (zi i :: zr (some a) :: st) h r h' :=
  zR.step (fun X _ _ _ _ hT hL kk => va_cald (D := g.1) X.1 X.2.1 X.2.2.2.2.2.2.1.1 hT.2.1 a 2 (zw_get ha) (ztys X.2.2.2.2.2.2.2 rfl) hin hd (kk _ hL)) kk
theorem zr_zald {a n : Nat} {f : Nat → Int32} {i : Int32} (hd : decode J.2.1 pc = .ok (.baload, 1)) (ha : h[a]? = some (.inl (3, n, .inl f))) (hin : vp_in i n) (kk : zR g J h0 (pc + 1) L (zi (f i.toNatClampNeg) :: st) h r h') : zR g J h0 pc L (zi i :: zr (some a) :: st) h r h' :=
  zR.step (fun X _ _ _ _ hT hL kk => va_zald (D := g.1) X.1 X.2.1 X.2.2.2.2.2.2.1.1 hT.2.1 a 3 (zw_get ha) (ztys X.2.2.2.2.2.2.2 rfl) hin hd (kk _ hL)) kk
theorem zr_aald {a t n : Nat} {C : String} {f : Nat → Option Nat} {i : Int32} (ht : zty[t]? = some (.object C)) (hd : decode J.2.1 pc = .ok (.aaload, 1)) (ha : h[a]? = some (.inl (t, n, .inr f))) (hin : vp_in i n) (kk : zR g J h0 (pc + 1) L (zr (f i.toNatClampNeg) :: st) h r h') : zR g J h0 pc L (zi i :: zr (some a) :: st) h r h' :=
  zR.step (fun X _ _ _ _ hT hL kk => va_aldq (D := g.1) X.1 X.2.1 X.2.2.2.2.2.2.1.1 hT.2.1 a t (zw_get ha) (ztys X.2.2.2.2.2.2.2 ht) hin hd (kk _ hL)) kk
theorem zr_iast {a n : Nat} {f : Nat → Int32} {i x : Int32} (hd : decode J.2.1 pc = .ok (.iastore, 1)) (ha : h[a]? = some (.inl (0, n, .inl f))) (hin : vp_in i n) (kk : zR g J h0 (pc + 1) L st (h.set a (.inl (0, n, .inl (upd f i.toNatClampNeg x)))) r h') : zR g J h0 pc L (zi x :: zi i :: zr (some a) :: st) h r h' := by
  refine zR.stepS (List.length_set ..) (zsl_set h a _ _ ha (by rfl)) (fun {p l e R s m args below meth c Q H locs cells slots ls} X _ _ hT hL kk => ?_) kk
  refine va_iast (D := g.1) X.1 X.2.1 X.2.2.2.2.2.2.1.1 hT.2.1 (zw_D g h) hT.2.2 a 0 (zw_get ha) (ztys X.2.2.2.2.2.2.2 rfl) hin hd (fun H1 locs1 hP hD hS => ?_)
  exact kk H1 locs1 ls (by rw [← zw_set]; exact hP) hS hL
theorem zr_bast {a n : Nat} {f : Nat → Int32} {i x : Int32} (hd : decode J.2.1 pc = .ok (.bastore, 1)) (ha : h[a]? = some (.inl (1, n, .inl f))) (hin : vp_in i n) (kk : zR g J h0 (pc + 1) L st (h.set a (.inl (1, n, .inl (upd f i.toNatClampNeg (vp_nar .byte x))))) r h') : zR g J h0 pc L (zi x :: zi i :: zr (some a) :: st) h r h' := by
  refine zR.stepS (List.length_set ..) (zsl_set h a _ _ ha (by rfl)) (fun {p l e R s m args below meth c Q H locs cells slots ls} X _ _ hT hL kk => ?_) kk
  refine va_bast (D := g.1) X.1 X.2.1 X.2.2.2.2.2.2.1.1 hT.2.1 (zw_D g h) hT.2.2 a 1 (zw_get ha) (ztys X.2.2.2.2.2.2.2 rfl) hin hd (fun H1 locs1 hP hD hS => ?_)
  exact kk H1 locs1 ls (by rw [← zw_set]; exact hP) hS hL
theorem zr_cast {a n : Nat} {f : Nat → Int32} {i x : Int32} (hd : decode J.2.1 pc = .ok (.castore, 1)) (ha : h[a]? = some (.inl (2, n, .inl f))) (hin : vp_in i n) (kk : zR g J h0 (pc + 1) L st (h.set a (.inl (2, n, .inl (upd f i.toNatClampNeg (vp_nar .char x))))) r h') : zR g J h0 pc L (zi x :: zi i :: zr (some a) :: st) h r h' := by
  refine zR.stepS (List.length_set ..) (zsl_set h a _ _ ha (by rfl)) (fun {p l e R s m args below meth c Q H locs cells slots ls} X _ _ hT hL kk => ?_) kk
  refine va_cast (D := g.1) X.1 X.2.1 X.2.2.2.2.2.2.1.1 hT.2.1 (zw_D g h) hT.2.2 a 2 (zw_get ha) (ztys X.2.2.2.2.2.2.2 rfl) hin hd (fun H1 locs1 hP hD hS => ?_)
  exact kk H1 locs1 ls (by rw [← zw_set]; exact hP) hS hL
theorem zr_zast {a n : Nat} {f : Nat → Int32} {i x : Int32} (hd : decode J.2.1 pc = .ok (.bastore, 1)) (ha : h[a]? = some (.inl (3, n, .inl f))) (hin : vp_in i n) (kk : zR g J h0 (pc + 1) L st (h.set a (.inl (3, n, .inl (upd f i.toNatClampNeg (vp_nar .boolean x))))) r h') : zR g J h0 pc L (zi x :: zi i :: zr (some a) :: st) h r h' := by
  refine zR.stepS (List.length_set ..) (zsl_set h a _ _ ha (by rfl)) (fun {p l e R s m args below meth c Q H locs cells slots ls} X _ _ hT hL kk => ?_) kk
  refine va_zast (D := g.1) X.1 X.2.1 X.2.2.2.2.2.2.1.1 hT.2.1 (zw_D g h) hT.2.2 a 3 (zw_get ha) (ztys X.2.2.2.2.2.2.2 rfl) hin hd (fun H1 locs1 hP hD hS => ?_)
  exact kk H1 locs1 ls (by rw [← zw_set]; exact hP) hS hL
theorem zr_aast {a t n ci : Nat} {rr : vw_C} {f : Nat → Option Nat} {i : Int32} {o : Option Nat} (ht : zty[t]? = some (.object rr.1)) (hc : vwCl[ci]? = some rr) (hd : decode J.2.1 pc = .ok (.aastore, 1)) (ha : h[a]? = some (.inl (t, n, .inr f))) (ho : ∀ v, o = some v → ∃ vs, h[v]? = some (.inr (ci, vs))) (hin : vp_in i n) (kk : zR g J h0 (pc + 1) L st (h.set a (.inl (t, n, .inr (va_up f i.toNatClampNeg o)))) r h') : zR g J h0 pc L (zr o :: zi i :: zr (some a) :: st) h r h' := by
  refine zR.stepS (List.length_set ..) (zsl_set h a _ _ ha (by rfl)) (fun {p l e R s m args below meth c Q H locs cells slots ls} X _ _ hT hL kk => ?_) kk
  have e9 : ∀ x : Option Nat, (fun j => ((va_up f i.toNatClampNeg x) j).map (fun a => g.2.2.1 + a)) = va_up (fun j => (f j).map (fun a => g.2.2.1 + a)) i.toNatClampNeg (x.map (fun a => g.2.2.1 + a)) := by
    intro x
    funext j
    by_cases hj : j = i.toNatClampNeg <;> simp [va_up, hj]
  cases o with
  | none =>
    refine va_astqN (D := g.1) X.1 X.2.1 X.2.2.2.2.2.2.1.1 hT.2.1 (zw_D g h) hT.2.2 a t (zw_get ha) (ztys X.2.2.2.2.2.2.2 ht) hin hd (fun H1 locs1 hP hD hS => ?_)
    exact kk H1 locs1 ls (by rw [← zw_set]; simp only [zc, e9]; exact hP) hS hL
  | some v =>
    obtain ⟨vs, hv⟩ := ho v rfl
    refine va_astq (D := g.1) X.1 X.2.1 X.2.2.2.2.2.2.1.1 hT.2.1 (zw_D g h) hT.2.2 a t v ci (zw_get ha) (ztys X.2.2.2.2.2.2.2 ht) (zw_get hv) hc hin hd (fun H1 locs1 hP hD hS => ?_)
    exact kk H1 locs1 ls (by rw [← zw_set]; simp only [zc, e9]; exact hP) hS hL
theorem zr_new {idx ci : Nat} {fs : List zV} (hf : zFn J.1.cls idx ci fs) (hd : decode J.2.1 pc = .ok (.new idx, 3)) (kk : zR g J h0 (pc + 3) L (zr (some h.length) :: st) (h ++ [.inr (ci, fs)]) r h') : zR g J h0 pc L st h r h' := by
  obtain ⟨C, T, N, ty, hc, hin, hty, w1, w2, w3, hlen, hdf⟩ := hf
  refine zR.stepA (e1 := .inr (ci, fs)) (fun {p l e R s m args below meth c Q H locs cells slots ls} X _ _ b1 b2 hT hL hb kk => ?_) kk
  have hs9 : zsz (.inr (ci, fs)) = N := hlen
  rw [hs9] at b2
  refine va_new (D := g.1) (ci := ci) (fs := fs.map (zv g)) (C := C) (T := T) (N := N) X.1 X.2.1 X.2.2.2.2.1 hin ty hty X.2.2.2.1 (X.2.2.2.2.1 _ w1) (X.2.2.2.2.1 _ w2) (X.2.2.2.2.1 _ w3) X.2.2.2.2.2.2.1.1 hT.2.1 (zw_D g h) hT.2.2 (fun q hq => Nat.le_trans hb hq) hc (hdf g) b1 b2 hd (fun q H1 hP hD hS => ?_)
  have := kk H1 locs q hP hD hS
  rw [hs9] at this
  exact this
theorem zr_newa {atype : ArrayType} {t : Nat} {n : Int32} (hw : Cond.arrayClass (newarray.typeOf atype) ∈ zWd) (ht : zty[t]? = some (newarray.typeOf atype)) (hz : ∀ (cA : ClassId) (N : Nat), vp_cell cA (N, .inl (fun _ => 0)) = arrV cA N (fun _ => defaultValue (newarray.typeOf atype))) (hd : decode J.2.1 pc = .ok (.newarray atype, 2)) (hn : ¬ n < 0) (hb9 : n.toNatClampNeg * componentBytes (newarray.typeOf atype) ≤ 536870912)
    (kk : zR g J h0 (pc + 2) L (zr (some h.length) :: st) (h ++ [.inl (t, n.toNatClampNeg, .inl (fun _ => 0))]) r h') : zR g J h0 pc L (zi n :: st) h r h' := by
  refine zR.stepA (e1 := .inl (t, n.toNatClampNeg, .inl (fun _ => 0))) (fun {p l e R s m args below meth c Q H locs cells slots ls} X _ _ b1 b2 hT hL hb kk => ?_) kk
  refine va_newa (D := g.1) X.1 X.2.1 (X.2.2.2.2.1 _ hw) rfl X.2.2.2.2.2.2.1.1 hT.2.1 (zw_D g h) hT.2.2 (fun q hq => Nat.le_trans hb hq) (a0 := (n.toNatClampNeg, .inl (fun _ => 0))) (fun cA => hz cA _) hn rfl hb9 b1 b2 hd (fun q cA H1 hK hP hD hS => ?_)
  have hcA : cA = zca g t := zRA_eq (hK.2 g.2.1.length (cA, _) (by simp)).2 (X.2.2.2.2.2.2.1.1.2 t _ (ztys X.2.2.2.2.2.2.2 ht)).2
  subst hcA
  exact kk H1 locs q hP hD hS
theorem zr_newq {idx t : Nat} {C : String} {n : Int32} (hw : Cond.classLink J.1.cls idx C ∈ zWd) (ho : C = RX0 ∨ C = RX9) (ht : zty[t]? = some (.object C)) (hd : decode J.2.1 pc = .ok (.anewarray idx, 3)) (hn : ¬ n < 0) (hb9 : n.toNatClampNeg * 4 ≤ 536870912)
    (kk : zR g J h0 (pc + 3) L (zr (some h.length) :: st) (h ++ [.inl (t, n.toNatClampNeg, .inr (fun _ => none))]) r h') : zR g J h0 pc L (zi n :: st) h r h' := by
  refine zR.stepA (e1 := .inl (t, n.toNatClampNeg, .inr (fun _ => none))) (fun {p l e R s m args below meth c Q H locs cells slots ls} X _ _ b1 b2 hT hL hb kk => ?_) kk
  have hao : va_AO C s := by
    rcases ho with rfl | rfl
    · exact X.2.2.2.2.2.2.1.2.2.1
    · exact X.2.2.2.2.2.2.1.2.2.2.1
  refine va_newq (D := g.1) X.1 X.2.1 X.2.2.2.1 (X.2.2.2.2.1 _ hw) hao X.2.2.2.2.2.2.1.1 hT.2.1 (zw_D g h) hT.2.2 (fun q hq => Nat.le_trans hb hq) hn rfl hb9 b1 b2 hd (fun q cA H1 hK hP hD hS => ?_)
  have hcA : cA = zca g t := zRA_eq (hK.2 g.2.1.length (cA, _) (by simp)).2 (X.2.2.2.2.2.2.1.1.2 t _ (ztys X.2.2.2.2.2.2.2 ht)).2
  subst hcA
  exact kk H1 locs q hP hD hS
end zheap
end
section
/-! ===== contracts and calls ===== -/
def zWs (J : zJ) : List Cond := Cond.code J.1 J.2.1 J.2.2.1 J.2.2.2.1 :: zWd
def zB (g : zG) (h : zH) (U : State) : Prop := U.heap.size = g.2.2.1 + h.length ∧ va_P g.1 vwCl (zw g h) U.heap ∧ zU g U
def zRm (J : zJ) (c s : Nat) : Room := { frames := J.2.2.2.2.1, cells := c, slots := s, locals := J.2.2.2.2.2 }
def zCa (g : zG) (J : zJ) (as : List zV) (h : zH) (r : Option zV) (h' : zH) : Prop :=
  (h.length ≤ h'.length ∧ zsl h ≤ zsl h') ∧ ∀ l : Launch, Met l J.1 (zWs J) (zRm J (h'.length - h.length) (zsl h' - zsl h)) (va_Pc (as.map (zv g)) (zB g h)) (fun _ => zQ3 g r h') (h'.length - h.length) (zsl h' - zsl h) (zA g)
theorem zlg (g : zG) : ∀ as : List zV, lg_sl (as.map (zv g)) = as.map (fun v => Slot.val (zv g v))
  | [] => rfl
  | v :: as => by
    have := zlg g as
    simp only [lg_sl] at this
    simp [lg_sl, zv_cat, this]
theorem zarg (g : zG) : ∀ (as : List zV) (k n : Nat), zas g k (as.map some ++ List.replicate n none) = lv_args k (as.map (zv g))
  | [], k, n => by
    induction n generalizing k with
    | zero => simp [zas, lv_args]
    | succ n ih =>
      simp only [List.map_nil, List.nil_append] at ih ⊢
      rw [List.replicate_succ, zas, ih]
      simp [lv_args]
  | v :: as, k, n => by
    simp only [List.map_cons, List.cons_append, zas, lv_args, zv_cat]
    rw [zarg g as (k + 1) n, if_neg (by decide)]
theorem zCa.of {g : zG} {J : zJ} {as : List zV} {h : zH} {r : Option zV} {h' : zH} (hty : g.2.1.map (fun q => q.2) = zty) (hy : plainName J.1.cls = true) (hn : as.length ≤ J.2.2.1) (k : zR g J h 0 (as.map some ++ List.replicate (J.2.2.1 - as.length) none) [] h r h') : zCa g J as h r h' := by
  have hok := k.2.1
  refine ⟨k.1, fun l => ?_⟩
  refine Met.ofW (cc := J.2.1) (maxL := J.2.2.1) (ret := J.2.2.2.1) hy rfl ?_
  intro p e s m args below meth c s₁ B hml hv
  obtain ⟨rfl, hsz, hP, hu⟩ := hv
  have hts := atoms_spec (ws := zWs J) B.pre
  have X : zX g J p s m (as.map (zv g)).toArray meth c := ⟨B.exec, B.bytes, hml, findClass_of_methodNamed B.named, fun w hw => hts w (List.mem_cons_of_mem _ hw), fun q => (name_of_methodNamed B.named B.method).1.trans q, hu, hty⟩
  have hlen : (lg_sl (as.map (zv g))).length = as.length := by rw [zlg]; simp
  have hl := lv_entry (as.map (zv g)) (n := J.2.2.1) (by rw [hlen]; exact hn)
  rw [lg_entry_eq]
  generalize (lg_sl (as.map (zv g)) ++ List.replicate (J.2.2.1 - (lg_sl (as.map (zv g))).length) Slot.unset).toArray = ls at hl ⊢
  have hL : zL g ls J.2.2.1 (as.map some ++ List.replicate (J.2.2.1 - as.length) none) := by
    unfold zL
    rw [zarg]
    exact hl
  have hk := k.2.2 (Nat.le_refl _) (Nat.le_refl _) p l e (zRm J (h'.length - h.length) (zsl h' - zsl h)) s m (as.map (zv g)).toArray below meth c (MQ below (fun _ => zQ3 g r h') (as.map (zv g)).toArray s (h'.length - h.length) (zsl h' - zsl h) (zA g)) X hsz (Nat.le_refl _) (Nat.le_refl _) (Nat.le_refl _) (Nat.le_refl _) ?_ s.heap [] ls ⟨hsz, hP, va_S.rf⟩ hL
  · rw [Nat.sub_self, Nat.sub_self] at hk
    exact hk
  · intro pc' ls2 H locs hT hd
    have hr := B.returns
    have hlocks := B.notSynchronized
    have hq : ∀ t : State, t.heap = H → s.WarmedH t.vm → zQ3 g r h' s (.returned (r.map (zv g))) t := fun t ht hW => ⟨⟨rfl, by rw [ht]; exact hT.2.1⟩, hT.2.2.F ht⟩
    revert hok hr
    generalize J.2.2.2.1 = rt
    intro hok hr
    rcases r with _ | (x | (o | q))
    · cases rt with
      | none => exact W.vret (Qc := fun _ => zQ3 g none h') B.exec B.bytes hr hq hT.2.2.2.2 hd hlocks
      | some ty => exact hok.elim
    · cases rt with
      | none => exact hok.elim
      | some ty => exact W.zret (Qc := fun _ => zQ3 g (some (.inl x)) h') (v := x) B.exec B.bytes hr hok hq hT.2.2.2.2 hd hlocks
    · cases rt with
      | none => exact hok.elim
      | some ty => exact W.aret (Qc := fun _ => zQ3 g (some (.inr (.inl o))) h') (v := zv g (.inr (.inl o))) B.exec B.bytes hr hok (by cases o with
          | none => exact Or.inl rfl
          | some a => exact Or.inr ⟨_, rfl⟩) hq hT.2.2.2.2 hd hlocks
    · cases rt with
      | none => exact hok.elim
      | some ty => exact hok.elim
theorem zgood {ws : List Cond} (h : ∀ w ∈ ws, w ∈ zWd) : GoodIn zWd ws := fun w hw => zWd_good (h w hw)
theorem zblind (g : zG) (h : zH) (as : List zV) : FrameBlind (va_Pc (as.map (zv g)) (zB g h)) := fun a U f mk q => ⟨q.1, q.2.1, q.2.2.1, q.2.2.2.call f mk a⟩
theorem zsum (g : zG) : ∀ rest : List zV, ((rest.map (zv g)).map (fun v => v.category)).sum = rest.length
  | [] => rfl
  | v :: rest => by
    have := zsum g rest
    simp only [List.map_cons, List.sum_cons, zv_cat, this, List.length_cons]
    omega
def zMp (J : zJ) (n : Nat) : Prop := J.1.cls ≠ "java/lang/invoke/MethodHandle" ∧ J.1.cls ≠ "java/lang/invoke/VarHandle" ∧ (parseMethodDescriptor J.1.desc).map (fun d => d.parameters.length) = some n
def zMv (J : zJ) (n : Nat) : Prop := (Cond.instanceMethod J.1 ∈ zWd ∧ Cond.selects J.1.cls J.1 J.1 ∈ zWd ∧ Cond.initialized J.1.cls ∈ zWd ∧ Cond.code J.1 J.2.1 J.2.2.1 J.2.2.2.1 ∈ zWd) ∧ zMp J n
def zMs (J : zJ) (n : Nat) : Prop := (Cond.static J.1 ∈ zWd ∧ Cond.initialized J.1.cls ∈ zWd ∧ Cond.code J.1 J.2.1 J.2.2.1 J.2.2.2.1 ∈ zWd) ∧ zMp J n
def zMc (J : zJ) (n : Nat) : Prop := (Cond.instanceMethod J.1 ∈ zWd ∧ Cond.initialized J.1.cls ∈ zWd ∧ Cond.code J.1 J.2.1 J.2.2.1 J.2.2.2.1 ∈ zWd) ∧ J.1.name = "<init>" ∧ J.2.2.2.1 = none ∧ zMp J n
def zFits (J J' : zJ) : Prop := J'.2.2.2.2.1 + 1 ≤ J.2.2.2.2.1 ∧ 8 + (J'.2.2.1 + 11) + J'.2.2.2.2.2 ≤ J.2.2.2.2.2
section zcalls
variable {g : zG} {J J' : zJ} {h0 : zH} {pc idx n : Nat} {L : List (Option zV)} {rest as : List zV} {h h1 : zH} {r r1 : Option zV} {h' : zH}
theorem zpre {p : Program} {s : State} {m : MethodId} {args : Array Value} {meth : Method} {c : Code} {H : Heap} {locs : List Loc} (X : zX g J p s m args meth c) (hT : zT g s h H locs) (U : State) (hU : U.heap = H) (hW : s.WarmedH U.vm) : va_Pc (as.map (zv g)) (zB g h) (as.map (zv g)).toArray U :=
  ⟨rfl, by rw [hU]; exact hT.1, by rw [hU]; exact hT.2.1, zU.warm X.2.2.2.2.2.2.1 hW (fun a h1 h2 => by rw [hU]; exact hT.2.2.2.1 a h1 h2)⟩
theorem zstk (st : List zV) (a : Nat) : ((as.reverse ++ zr (some a) :: rest).map (zv g)) = (as.map (zv g)).reverse ++ .ref (g.2.2.1 + a) :: rest.map (zv g) := by
  simp [List.map_reverse, zv, va_rf]
theorem zr_callV {a ci : Nat} {fs : List zV} {q : vw_C} (hl : Cond.methodLink J.1.cls idx J'.1 ∈ zWd) (hM : zMv J' n) (hF : zFits J J') (hd : decode J.2.1 pc = .ok (.invokevirtual idx, 3)) (hn : as.length = n) (hrest : rest.length ≤ 8) (hq : vwCl[ci]? = some q) (hq1 : q.1 = J'.1.cls) (ha : h[a]? = some (.inr (ci, fs))) (hc : zCa g J' (zr (some a) :: as) h r1 h1)
    (kk : zR g J h0 (pc + 3) L (r1.toList ++ rest) h1 r h') : zR g J h0 pc L (as.reverse ++ zr (some a) :: rest) h r h' := by
  refine zR.stepC hc.1 (fun {p l e R s m args below meth c H locs cells slots ls} X b1 b2 hT hL b3 b4 => ?_) kk
  obtain ⟨⟨m1, m2, m3, m4⟩, m5, m6, m7⟩ := hM
  have hgood : GoodIn zWd (wsV J.1.cls idx J'.1.cls J'.1 (zWs J')) := zgood (fun w hw => by
    simp only [wsV, zWs, List.cons_append, List.nil_append, List.mem_cons] at hw
    rcases hw with rfl | rfl | rfl | rfl | rfl | hw
    · exact hl
    · exact m1
    · exact m2
    · exact m3
    · exact m4
    · exact hw)
  have hrec := va_recv X.2.2.2.2.2.2.1.1 hT.2.1 hq (zw_get ha)
  rw [hq1] at hrec
  rw [zstk []]
  exact va_runV (As := as.map (zv g)) (rest := rest.map (zv g)) (b := g.2.2.1 + a) ⟨X.1, X.2.1, X.2.2.1, X.2.2.2.1, X.2.2.2.2.1⟩ (hc.2 l) (cwV n X.2.2.2.2.1 hgood rfl rfl rfl ⟨rfl, m5, m6, m7⟩ ⟨Nat.le_trans hF.1 b1, Nat.le_trans hF.2 b2⟩) ⟨zblind g h _, hrec, fun U hU hW => zpre X hT U hU hW⟩ rfl (by simpa using hn) hL.1 rfl (lv_room (by rw [zsum]; exact hrest)) hd ⟨b3, b4⟩
theorem zr_callS (hl : Cond.methodLink J.1.cls idx J'.1 ∈ zWd) (hM : zMs J' n) (hF : zFits J J') (hd : decode J.2.1 pc = .ok (.invokestatic idx, 3)) (hn : as.length = n) (hrest : rest.length ≤ 8) (hc : zCa g J' as h r1 h1)
    (kk : zR g J h0 (pc + 3) L (r1.toList ++ rest) h1 r h') : zR g J h0 pc L (as.reverse ++ rest) h r h' := by
  refine zR.stepC hc.1 (fun {p l e R s m args below meth c H locs cells slots ls} X b1 b2 hT hL b3 b4 => ?_) kk
  obtain ⟨⟨m1, m3, m4⟩, m5, m6, m7⟩ := hM
  have hgood : GoodIn zWd (va_wsS J.1.cls idx J'.1 (zWs J')) := zgood (fun w hw => by
    simp only [va_wsS, zWs, List.cons_append, List.nil_append, List.mem_cons] at hw
    rcases hw with rfl | rfl | rfl | rfl | hw
    · exact hl
    · exact m1
    · exact m3
    · exact m4
    · exact hw)
  rw [List.map_append, List.map_reverse]
  exact va_runS (As := as.map (zv g)) (rest := rest.map (zv g)) ⟨X.1, X.2.1, X.2.2.1, X.2.2.2.1, X.2.2.2.2.1⟩ (hc.2 l) (va_cwS n X.2.2.2.2.1 hgood rfl rfl rfl ⟨m5, m6, m7⟩ ⟨Nat.le_trans hF.1 b1, Nat.le_trans hF.2 b2⟩) ⟨zblind g h _, fun U hU hW => zpre X hT U hU hW⟩ rfl (by simpa using hn) hL.1 rfl (lv_room (by rw [zsum]; exact hrest)) hd ⟨b3, b4⟩
theorem zr_callI {a : Nat} (hl : Cond.methodLink J.1.cls idx J'.1 ∈ zWd) (hM : zMc J' n) (hF : zFits J J') (hd : decode J.2.1 pc = .ok (.invokespecial idx, 3)) (hn : as.length = n) (hrest : rest.length ≤ 8) (hc : zCa g J' (zr (some a) :: as) h r1 h1)
    (kk : zR g J h0 (pc + 3) L (r1.toList ++ rest) h1 r h') : zR g J h0 pc L (as.reverse ++ zr (some a) :: rest) h r h' := by
  refine zR.stepC hc.1 (fun {p l e R s m args below meth c H locs cells slots ls} X b1 b2 hT hL b3 b4 => ?_) kk
  obtain ⟨⟨m1, m3, m4⟩, m8, m9, m5, m6, m7⟩ := hM
  have hgood : GoodIn zWd (zWs J') := zgood (fun w hw => by
    simp only [zWs, List.mem_cons] at hw
    rcases hw with rfl | hw
    · exact m4
    · exact hw)
  rw [zstk []]
  exact va_runI (As := as.map (zv g)) (rest := rest.map (zv g)) (b := g.2.2.1 + a) ⟨X.1, X.2.1, X.2.2.1, X.2.2.2.1, X.2.2.2.2.1⟩ (hc.2 l) (cwI n X.2.2.2.2.1 hgood (ws' := zWd) (bytes := J'.2.1) (maxL := J'.2.2.1) (by rw [zWs, m9]) rfl rfl (X.2.2.2.2.1 _ m3) (X.2.2.2.2.1 _ hl) (X.2.2.2.2.1 _ m1) m8 ⟨m5, m6, m7⟩ ⟨Nat.le_trans hF.1 b1, Nat.le_trans hF.2 b2⟩) ⟨zblind g h _, fun U hU hW => zpre (as := zr (some a) :: as) X hT U hU hW⟩ rfl (by simpa using hn) hL.1 rfl (lv_room (by rw [zsum]; exact hrest)) hd ⟨b3, b4⟩
theorem zr_callIN {a : Nat} {host : String} (hl : Cond.methodLinkNest J.1.cls idx J'.1 host ∈ zNw) (hM : zMc J' n) (hF : zFits J J') (hd : decode J.2.1 pc = .ok (.invokespecial idx, 3)) (hn : as.length = n) (hrest : rest.length ≤ 8) (hc : zCa g J' (zr (some a) :: as) h r1 h1)
    (kk : zR g J h0 (pc + 3) L (r1.toList ++ rest) h1 r h') : zR g J h0 pc L (as.reverse ++ zr (some a) :: rest) h r h' := by
  refine zR.stepC hc.1 (fun {p l e R s m args below meth c H locs cells slots ls} X b1 b2 hT hL b3 b4 => ?_) kk
  obtain ⟨⟨m1, m3, m4⟩, m8, m9, m5, m6, m7⟩ := hM
  have hgood : GoodIn zWd (zWs J') := zgood (fun w hw => by
    simp only [zWs, List.mem_cons] at hw
    rcases hw with rfl | hw
    · exact m4
    · exact hw)
  rw [zstk []]
  exact va_runIN (host := host) (As := as.map (zv g)) (rest := rest.map (zv g)) (b := g.2.2.1 + a) ⟨X.1, X.2.1, X.2.2.1, X.2.2.2.1, X.2.2.2.2.1⟩ (hc.2 l) ⟨va_cnB n X.2.2.2.2.1 hgood (ws' := zWd) (bytes := J'.2.1) (maxL := J'.2.2.1) (by rw [zWs, m9]) rfl rfl (X.2.2.2.2.2.2.1.2.1 _ hl) (X.2.2.2.2.1 _ m3) ⟨m5, m6, m7⟩ ⟨Nat.le_trans hF.1 b1, Nat.le_trans hF.2 b2⟩, m8, X.2.2.2.2.1 _ m1⟩ ⟨zblind g h _, fun U hU hW => zpre (as := zr (some a) :: as) X hT U hU hW⟩ rfl (by simpa using hn) hL.1 rfl (lv_room (by rw [zsum]; exact hrest)) hd ⟨b3, b4⟩
theorem zr_callSN {host : String} (hl : Cond.methodLinkNest J.1.cls idx J'.1 host ∈ zNw) (hM : zMs J' n) (hF : zFits J J') (hd : decode J.2.1 pc = .ok (.invokestatic idx, 3)) (hn : as.length = n) (hrest : rest.length ≤ 8) (hc : zCa g J' as h r1 h1)
    (kk : zR g J h0 (pc + 3) L (r1.toList ++ rest) h1 r h') : zR g J h0 pc L (as.reverse ++ rest) h r h' := by
  refine zR.stepC hc.1 (fun {p l e R s m args below meth c H locs cells slots ls} X b1 b2 hT hL b3 b4 => ?_) kk
  obtain ⟨⟨m1, m3, m4⟩, m5, m6, m7⟩ := hM
  have hgood : GoodIn zWd (zWs J') := zgood (fun w hw => by
    simp only [zWs, List.mem_cons] at hw
    rcases hw with rfl | hw
    · exact m4
    · exact hw)
  rw [List.map_append, List.map_reverse]
  exact va_runSN (host := host) (As := as.map (zv g)) (rest := rest.map (zv g)) ⟨X.1, X.2.1, X.2.2.1, X.2.2.2.1, X.2.2.2.2.1⟩ (hc.2 l) ⟨va_cnB n X.2.2.2.2.1 hgood rfl rfl rfl (X.2.2.2.2.2.2.1.2.1 _ hl) (X.2.2.2.2.1 _ m3) ⟨m5, m6, m7⟩ ⟨Nat.le_trans hF.1 b1, Nat.le_trans hF.2 b2⟩, X.2.2.2.2.1 _ m1, trivial⟩ ⟨zblind g h _, fun U hU hW => zpre X hT U hU hW⟩ rfl (by simpa using hn) hL.1 rfl (lv_room (by rw [zsum]; exact hrest)) hd ⟨b3, b4⟩
theorem zr_objInit {a : Nat} (hl : Cond.methodLink J.1.cls idx objectInit ∈ zWd) (h1 : Cond.instanceMethod objectInit ∈ zWd) (h2 : Cond.code objectInit ⟨#[0xb1]⟩ 1 none ∈ zWd) (hf : 1 ≤ J.2.2.2.2.1 ∧ rest.length + 12 ≤ J.2.2.2.2.2) (hd : decode J.2.1 pc = .ok (.invokespecial idx, 3)) (kk : zR g J h0 (pc + 3) L rest h r h') : zR g J h0 pc L (zr (some a) :: rest) h r h' := by
  refine zR.step (fun {p l e R s m args below meth c Q H locs cells slots ls} X b1 b2 _ _ hT hL kk => ?_) kk
  exact W.objInit (a := g.2.2.1 + a) (rest := rest.map (zv g)) X.1 X.2.1 X.2.2.2.1 (X.2.2.2.2.1 _ hl) (X.2.2.2.2.1 _ h1) (X.2.2.2.2.1 _ h2) rfl (by rw [X.2.2.1]; exact hL.1) rfl hd (Nat.le_trans hf.1 b1) (by show 2 * 0 + _ + 12 ≤ _; rw [zsum]; have := hf.2; omega) (kk _ hL)
theorem zr_mmax {x y : Int32} (w1 : Cond.methodLink J.1.cls idx Lib.Math.max.name ∈ zWd) (w2 : Cond.static Lib.Math.max.name ∈ zWd) (w3 : Cond.initialized "java/lang/Math" ∈ zWd) (w4 : Cond.code Lib.Math.max.name Lib.Math.max.code 2 (some .int) ∈ zWd) (hf : 1 ≤ J.2.2.2.2.1 ∧ rest.length + 13 ≤ J.2.2.2.2.2) (hd : decode J.2.1 pc = .ok (.invokestatic idx, 3)) (kk : zR g J h0 (pc + 3) L (zi (if x < y then y else x) :: rest) h r h') : zR g J h0 pc L (zi y :: zi x :: rest) h r h' := by
  refine zR.step (fun {p l e R s m args below meth c Q H locs cells slots ls} X b1 b2 b3 b4 hT hL kk => ?_) kk
  exact va_mmax X.1 X.2.1 (by rw [X.2.2.1]; exact hL.1.symm) X.2.2.2.1 (X.2.2.2.2.1 _ w1) (X.2.2.2.2.1 _ w2) (X.2.2.2.2.1 _ w3) (X.2.2.2.2.1 _ w4) (Nat.le_trans hf.1 b1) (by rw [zsum]; have := hf.2; omega) b3 b4 hd (kk _ hL)
theorem zr_mmin {x y : Int32} (w1 : Cond.methodLink J.1.cls idx Lib.Math.min.name ∈ zWd) (w2 : Cond.static Lib.Math.min.name ∈ zWd) (w3 : Cond.initialized "java/lang/Math" ∈ zWd) (w4 : Cond.code Lib.Math.min.name Lib.Math.min.code 2 (some .int) ∈ zWd) (hf : 1 ≤ J.2.2.2.2.1 ∧ rest.length + 13 ≤ J.2.2.2.2.2) (hd : decode J.2.1 pc = .ok (.invokestatic idx, 3)) (kk : zR g J h0 (pc + 3) L (zi (if y < x then y else x) :: rest) h r h') : zR g J h0 pc L (zi y :: zi x :: rest) h r h' := by
  refine zR.step (fun {p l e R s m args below meth c Q H locs cells slots ls} X b1 b2 b3 b4 hT hL kk => ?_) kk
  exact va_mmin X.1 X.2.1 (by rw [X.2.2.1]; exact hL.1.symm) X.2.2.2.1 (X.2.2.2.2.1 _ w1) (X.2.2.2.2.1 _ w2) (X.2.2.2.2.1 _ w3) (X.2.2.2.2.1 _ w4) (Nat.le_trans hf.1 b1) (by rw [zsum]; have := hf.2; omega) b3 b4 hd (kk _ hL)
/-- clone of an array, and the cast behind it -/
def zMk (own : String) (idx : Nat) (ad : String) : Prop := Cond.methodLink own idx ⟨ad, "clone", "()Ljava/lang/Object;"⟩ ∈ zWd ∧ Cond.sameMethod ad "java/lang/Object" "clone" "()Ljava/lang/Object;" ∈ zWd ∧ Cond.native ⟨"java/lang/Object", "clone", "()Ljava/lang/Object;"⟩ ∈ zWd ∧ Cond.instanceMethod ⟨"java/lang/Object", "clone", "()Ljava/lang/Object;"⟩ ∈ zWd ∧ Cond.selects ad ⟨ad, "clone", "()Ljava/lang/Object;"⟩ ⟨"java/lang/Object", "clone", "()Ljava/lang/Object;"⟩ ∈ zWd ∧ Cond.castable ad "java/lang/Cloneable" ∈ zNw
theorem znm {s : State} {cA : ClassId} {ty : FieldType} {ad : String} (h : va_RA s cA ty) (he : "[" ++ ty.toString = ad) : s.vm.findClass ad = some cA := by
  subst he
  cases ty with
  | object C => exact h.choose_spec.choose_spec.2.2.2
  | _ => exact h
theorem zr_clone {a t nn : Nat} {ty : FieldType} {ad : String} {x : (Nat → Int32) ⊕ (Nat → Option Nat)} (hk : zMk J.1.cls idx ad) (ht : zty[t]? = some ty) (had : "[" ++ ty.toString = ad) (hx : match x with | .inl _ => ty = .int | .inr _ => ∃ C, ty = .object C) (hf : 1 ≤ J.2.2.2.2.1 ∧ rest.length + 14 ≤ J.2.2.2.2.2) (hd : decode J.2.1 pc = .ok (.invokevirtual idx, 3)) (ha : h[a]? = some (.inl (t, nn, x)))
    (kk : zR g J h0 (pc + 3) L (zr (some h.length) :: rest) (h ++ [.inl (t, nn, x)]) r h') : zR g J h0 pc L (zr (some a) :: rest) h r h' := by
  obtain ⟨w1, w2, w3, w4, w5, w6⟩ := hk
  refine zR.stepA (e1 := .inl (t, nn, x)) (fun {p l e R s m args below meth c Q H locs cells slots ls} X c1 c2 b1 b2 hT hL hb kk => ?_) kk
  have hK := X.2.2.2.2.2.2.1.1
  have hty := ztys X.2.2.2.2.2.2.2 ht
  have hl9 : ((rest.map (zv g)).map fun v => v.category).sum + 14 ≤ R.locals := by rw [zsum]; have := hf.2; omega
  rcases x with f | f
  · subst hx
    refine va_clone (D := g.1) X.1 X.2.1 (by rw [X.2.2.1]; exact hL.1.symm) X.2.2.2.1 (X.2.2.2.2.1 _ w1) (X.2.2.2.2.1 _ w2) (X.2.2.2.2.1 _ w3) (X.2.2.2.2.1 _ w4) (X.2.2.2.2.1 _ w5) (X.2.2.2.2.2.2.1.2.1 _ w6) hK hT.2.1 (zw_D g h) hT.2.2 (fun q hq => Nat.le_trans hb hq) a t (zw_get ha) hty (znm (hK.2 t _ hty).2 had) (fun i v hv => va_fit (cA := zca g t) (n := nn) (F := fun j => .int (f j)) (ty := .int) (fun _ _ => rfl) i v hv) (Nat.le_trans hf.1 c1) hl9 b1 b2 hd (fun q H1 hK1 hP hD hS => ?_)
    exact kk H1 locs q hP hD hS
  · obtain ⟨C, rfl⟩ := hx
    refine va_clone (D := g.1) X.1 X.2.1 (by rw [X.2.2.1]; exact hL.1.symm) X.2.2.2.1 (X.2.2.2.2.1 _ w1) (X.2.2.2.2.1 _ w2) (X.2.2.2.2.1 _ w3) (X.2.2.2.2.1 _ w4) (X.2.2.2.2.1 _ w5) (X.2.2.2.2.2.2.1.2.1 _ w6) hK hT.2.1 (zw_D g h) hT.2.2 (fun q hq => Nat.le_trans hb hq) a t (zw_get ha) hty (znm (hK.2 t _ hty).2 had) (fun i v hv => va_fit (cA := zca g t) (n := nn) (F := fun j => va_rf ((f j).map (fun a => g.2.2.1 + a))) (ty := .object C) (fun j _ => by cases f j <;> rfl) i v hv) (Nat.le_trans hf.1 c1) hl9 b1 b2 hd (fun q H1 hK1 hP hD hS => ?_)
    exact kk H1 locs q hP hD hS
theorem zr_castA {a t nn : Nat} {ty : FieldType} {ad : String} {x : (Nat → Int32) ⊕ (Nat → Option Nat)} (hl : Cond.classLink J.1.cls idx ad ∈ zWd) (ht : zty[t]? = some ty) (had : "[" ++ ty.toString = ad) (hd : decode J.2.1 pc = .ok (.checkcast idx, 3)) (ha : h[a]? = some (.inl (t, nn, x))) (kk : zR g J h0 (pc + 3) L (zr (some a) :: rest) h r h') : zR g J h0 pc L (zr (some a) :: rest) h r h' := by
  refine zR.step (fun {p l e R s m args below meth c Q H locs cells slots ls} X b1 b2 b3 b4 hT hL kk => ?_) kk
  have hK := X.2.2.2.2.2.2.1.1
  have hty := ztys X.2.2.2.2.2.2.2 ht
  rcases x with f | f
  · exact va_castA (D := g.1) X.1 X.2.1 X.2.2.2.1 (X.2.2.2.2.1 _ hl) hT.2.1 a (zw_get ha) (znm (hK.2 t _ hty).2 had) hd (kk _ hL)
  · exact va_castA (D := g.1) X.1 X.2.1 X.2.2.2.1 (X.2.2.2.2.1 _ hl) hT.2.1 a (zw_get ha) (znm (hK.2 t _ hty).2 had) hd (kk _ hL)
theorem zr_copyi {a0 a n0 n1 : Nat} {f f1 : Nat → Int32} {sp dp n : Int32} (w1 : Cond.methodLink J.1.cls idx arraycopyName ∈ zWd) (w2 : Cond.native arraycopyName ∈ zWd) (w3 : Cond.static arraycopyName ∈ zWd) (w4 : Cond.initialized "java/lang/System" ∈ zWd) (hf : 1 ≤ J.2.2.2.2.1 ∧ rest.length + (nativeFrameWords "java/lang/System" "arraycopy" 5 + 11) ≤ J.2.2.2.2.2) (hd : decode J.2.1 pc = .ok (.invokestatic idx, 3)) (ha0 : h[a0]? = some (.inl (0, n0, .inl f))) (ha : h[a]? = some (.inl (0, n1, .inl f1)))
    (h1 : ¬ sp < 0) (h2 : ¬ dp < 0) (h3 : ¬ n < 0) (h4 : sp.toNatClampNeg + n.toNatClampNeg ≤ n0) (h5 : dp.toNatClampNeg + n.toNatClampNeg ≤ n1)
    (kk : zR g J h0 (pc + 3) L rest (h.set a (.inl (0, n1, .inl (va_cpy f f1 sp.toNatClampNeg dp.toNatClampNeg n.toNatClampNeg)))) r h') : zR g J h0 pc L (zi n :: zi dp :: zr (some a) :: zi sp :: zr (some a0) :: rest) h r h' := by
  refine zR.stepS (List.length_set ..) (zsl_set h a _ _ ha (by rfl)) (fun {p l e R s m args below meth c Q H locs cells slots ls} X b1 b2 hT hL kk => ?_) kk
  have hl9 : ((rest.map (zv g)).map fun v => v.category).sum + (nativeFrameWords "java/lang/System" "arraycopy" 5 + 11) ≤ R.locals := by rw [zsum]; have := hf.2; omega
  refine va_copyi (D := g.1) X.1 X.2.1 (by rw [X.2.2.1]; exact hL.1.symm) X.2.2.2.1 (X.2.2.2.2.1 _ w1) (X.2.2.2.2.1 _ w2) (X.2.2.2.2.1 _ w3) (X.2.2.2.2.1 _ w4) X.2.2.2.2.2.2.1.1 hT.2.1 (zw_D g h) hT.2.2 a0 a 0 0 (zw_get ha0) (zw_get ha) (ztys X.2.2.2.2.2.2.2 rfl) (ztys X.2.2.2.2.2.2.2 rfl) rfl h1 h2 h3 h4 h5 (fun _ _ => rfl) (Nat.le_trans hf.1 b1) hl9 hd (fun H1 locs1 hP hD hS => ?_)
  exact kk H1 locs1 ls (by rw [← zw_set]; exact hP) hS hL
end zcalls
end
section
/-! ===== what the shadows read and write; lock-step rows ===== -/
theorem zbd {α β : Type} {x : Option α} {f : α → Option β} {r : β} (h : x.bind f = some r) : ∃ y, x = some y ∧ f y = some r := Option.bind_eq_some_iff.mp h
theorem zbi {α β : Type} {x : Option α} {f : α → Option β} {r : β} {P : Prop} (k : ∀ y, x = some y → f y = some r → P) : x.bind f = some r → P := fun h => by
  obtain ⟨y, a, b⟩ := zbd h
  exact k y a b
def zb2 {α β : Type} (x : Option (α × zH)) (k : α → zH → Option β) : Option β := x.bind fun q => k q.1 q.2
theorem zbi2 {α β : Type} {x : Option (α × zH)} {f : α → zH → Option β} {r : β} {P : Prop} (k : ∀ y h, x = some (y, h) → f y h = some r → P) : zb2 x f = some r → P := fun h => by
  obtain ⟨y, a, b⟩ := zbd h
  exact k y.1 y.2 a b
def zo (h : zH) (ci : Nat) (o : Option Nat) : Option (Nat × List zV) := match o with
  | none => none
  | some a => match h[a]? with
    | some (.inr (c, fs)) => if c = ci then some (a, fs) else none
    | _ => none
def zck (h : zH) (ci : Nat) (o : Option Nat) : Option Nat := (zo h ci o).map (fun q => q.1)
def zgI (h : zH) (ci : Nat) (o : Option Nat) (k : Nat) : Option Int32 := (zo h ci o).bind fun q => match q.2[k]? with
  | some (.inl x) => some x
  | _ => none
def zgR (h : zH) (ci : Nat) (o : Option Nat) (k : Nat) : Option (Option Nat) := (zo h ci o).bind fun q => match q.2[k]? with
  | some (.inr (.inl x)) => some x
  | _ => none
def zpu (h : zH) (ci : Nat) (o : Option Nat) (k : Nat) (v : zV) : Option zH := (zo h ci o).bind fun q => if k < q.2.length then some (h.set q.1 (.inr (ci, q.2.set k v))) else none
def zaI (h : zH) (t : Nat) (o : Option Nat) : Option (Nat × Nat × (Nat → Int32)) := match o with
  | none => none
  | some a => match h[a]? with
    | some (.inl (t', n, .inl f)) => if t' = t then some (a, n, f) else none
    | _ => none
def zaR (h : zH) (t : Nat) (o : Option Nat) : Option (Nat × Nat × (Nat → Option Nat)) := match o with
  | none => none
  | some a => match h[a]? with
    | some (.inl (t', n, .inr f)) => if t' = t then some (a, n, f) else none
    | _ => none
def zlen (h : zH) (o : Option Nat) : Option Int32 := match o with
  | none => none
  | some a => match h[a]? with
    | some (.inl (t, n, _)) => if t < 6 then some (nI n) else none
    | _ => none
def zld (h : zH) (t : Nat) (o : Option Nat) (i : Int32) : Option Int32 := (zaI h t o).bind fun q => if i < 0 ∨ q.2.1 ≤ i.toNatClampNeg then none else some (q.2.2 i.toNatClampNeg)
def zst (h : zH) (t : Nat) (o : Option Nat) (i x : Int32) : Option zH := (zaI h t o).bind fun q => if i < 0 ∨ q.2.1 ≤ i.toNatClampNeg then none else some (h.set q.1 (.inl (t, q.2.1, .inl (upd q.2.2 i.toNatClampNeg x))))
def zldR (h : zH) (t : Nat) (o : Option Nat) (i : Int32) : Option (Option Nat) := (zaR h t o).bind fun q => if i < 0 ∨ q.2.1 ≤ i.toNatClampNeg then none else some (q.2.2 i.toNatClampNeg)
def zstR (h : zH) (t ci : Nat) (o : Option Nat) (i : Int32) (v : Option Nat) : Option zH := (zaR h t o).bind fun q => if i < 0 ∨ q.2.1 ≤ i.toNatClampNeg then none else if v ≠ none ∧ zck h ci v = none then none else some (h.set q.1 (.inl (t, q.2.1, .inr (va_up q.2.2 i.toNatClampNeg v))))
def znw {α : Type} (h : zH) (e : zE) (k : Nat → zH → Option α) : Option α := k h.length (h ++ [e])
def zna {α : Type} (h : zH) (t : Nat) (n : Int32) (k : Nat → zH → Option α) : Option α := if n < 0 ∨ 16777216 < n.toNatClampNeg then none else k h.length (h ++ [.inl (t, n.toNatClampNeg, .inl (fun _ => 0))])
def znq {α : Type} (h : zH) (t : Nat) (n : Int32) (k : Nat → zH → Option α) : Option α := if n < 0 ∨ 16777216 < n.toNatClampNeg then none else k h.length (h ++ [.inl (t, n.toNatClampNeg, .inr (fun _ => none))])
def zcl {α : Type} (h : zH) (t : Nat) (o : Option Nat) (k : Nat → zH → Option α) : Option α := match o with
  | none => none
  | some a => match h[a]? with
    | some (.inl (t', n, .inl f)) => if t' = t ∧ t = 0 then k h.length (h ++ [.inl (t, n, .inl f)]) else none
    | some (.inl (t', n, .inr f)) => if t' = t ∧ t = 4 then k h.length (h ++ [.inl (t, n, .inr f)]) else none
    | _ => none
def zcp (h : zH) (o0 : Option Nat) (sp : Int32) (o : Option Nat) (dp n : Int32) : Option zH := (zaI h 0 o0).bind fun q0 => (zaI h 0 o).bind fun q => if sp < 0 ∨ dp < 0 ∨ n < 0 ∨ q0.2.1 < sp.toNatClampNeg + n.toNatClampNeg ∨ q.2.1 < dp.toNatClampNeg + n.toNatClampNeg then none else some (h.set q.1 (.inl (0, q.2.1, .inl (va_cpy q0.2.2 q.2.2 sp.toNatClampNeg dp.toNatClampNeg n.toNatClampNeg))))
theorem zo_spec {h : zH} {ci : Nat} {o : Option Nat} {q : Nat × List zV} (e : zo h ci o = some q) : o = some q.1 ∧ h[q.1]? = some (.inr (ci, q.2)) := by
  unfold zo at e
  split at e
  · cases e
  · split at e
    · split at e
      · next a c fs h1 h2 => cases e; subst h2; exact ⟨rfl, h1⟩
      · cases e
    · cases e
theorem zaI_spec {h : zH} {t : Nat} {o : Option Nat} {q : Nat × Nat × (Nat → Int32)} (e : zaI h t o = some q) : o = some q.1 ∧ h[q.1]? = some (.inl (t, q.2.1, .inl q.2.2)) := by
  unfold zaI at e
  split at e
  · cases e
  · split at e
    · split at e
      · next a c fs f h1 h2 => cases e; subst h2; exact ⟨rfl, h1⟩
      · cases e
    · cases e
theorem zaR_spec {h : zH} {t : Nat} {o : Option Nat} {q : Nat × Nat × (Nat → Option Nat)} (e : zaR h t o = some q) : o = some q.1 ∧ h[q.1]? = some (.inl (t, q.2.1, .inr q.2.2)) := by
  unfold zaR at e
  split at e
  · cases e
  · split at e
    · split at e
      · next a c fs f h1 h2 => cases e; subst h2; exact ⟨rfl, h1⟩
      · cases e
    · cases e
theorem zck_spec {h : zH} {ci : Nat} {o : Option Nat} {a : Nat} (e : zck h ci o = some a) : o = some a ∧ ∃ fs, h[a]? = some (.inr (ci, fs)) := by
  unfold zck at e
  rw [Option.map_eq_some_iff] at e
  obtain ⟨q, h1, h2⟩ := e
  obtain ⟨h3, h4⟩ := zo_spec h1
  subst h2
  exact ⟨h3, _, h4⟩
section zlock
variable {g : zG} {J J' : zJ} {h0 : zH} {pc idx n : Nat} {L L' : List (Option zV)} {st rest as : List zV} {h h1 : zH} {r r1 : Option zV} {h' : zH}
theorem zr_forget (i : Nat) (hL : L.set i none = L') (k : zR g J h0 pc L' st h r h') : zR g J h0 pc L st h r h' := by
  subst hL
  refine zR.step (fun X _ _ _ _ hT hL kk => kk _ ⟨hL.1, hL.2.1, fun q hq => hL.2.2 q ?_⟩) k
  obtain ⟨j, v, h1, h2⟩ := zas_mem.mp hq
  refine zas_mem.mpr ⟨j, v, ?_, h2⟩
  by_cases hij : i = j
  · subst hij
    by_cases hl : i < L.length
    · rw [List.getElem?_set_self hl] at h1
      cases h1
    · rw [List.getElem?_eq_none (by simpa using hl)] at h1
      cases h1
  · rwa [List.getElem?_set_ne hij] at h1
theorem zq_istore_n {k : Fin 4} {i : Nat} {x : Int32} (hd : decode J.2.1 pc = .ok (.istore_n k, 1)) (hi : (k : Nat) = i) (hn : i < J.2.2.1) (hL : L.set i (some (zi x)) = L') (kk : zR g J h0 (pc + 1) L' st h r h') : zR g J h0 pc L (zi x :: st) h r h' := zr_istore_n hd hi hn (hL ▸ kk)
theorem zq_istore {i : Nat} {x : Int32} (hd : decode J.2.1 pc = .ok (.istore i, 2)) (hn : i < J.2.2.1) (hL : L.set i (some (zi x)) = L') (kk : zR g J h0 (pc + 2) L' st h r h') : zR g J h0 pc L (zi x :: st) h r h' := zr_istore hd hn (hL ▸ kk)
theorem zq_astore_n {k : Fin 4} {i : Nat} {v : Option Nat ⊕ Nat} (hd : decode J.2.1 pc = .ok (.astore_n k, 1)) (hi : (k : Nat) = i) (hn : i < J.2.2.1) (hL : L.set i (some (.inr v)) = L') (kk : zR g J h0 (pc + 1) L' st h r h') : zR g J h0 pc L (.inr v :: st) h r h' := zr_astore_n hd hi hn (hL ▸ kk)
theorem zq_astore {i : Nat} {v : Option Nat ⊕ Nat} (hd : decode J.2.1 pc = .ok (.astore i, 2)) (hn : i < J.2.2.1) (hL : L.set i (some (.inr v)) = L') (kk : zR g J h0 (pc + 2) L' st h r h') : zR g J h0 pc L (.inr v :: st) h r h' := zr_astore hd hn (hL ▸ kk)
theorem zq_iinc {i : Nat} {n : Int} {x y : Int32} (hd : decode J.2.1 pc = .ok (.iinc i n, 3)) (hl : L[i]? = some (some (zi x))) (hy : Int32.ofInt n = y) (hn : i < J.2.2.1) (hL : L.set i (some (zi (x + y))) = L') (kk : zR g J h0 (pc + 3) L' st h r h') : zR g J h0 pc L st h r h' := zr_iinc hd hl hy hn (hL ▸ kk)
theorem zq_getI {ci k : Nat} {o : Option Nat} {x : Int32} (hf : zFg J.1.cls idx ci k) (hd : decode J.2.1 pc = .ok (.getfield idx, 3)) (hx : zgI h ci o k = some x) (kk : zR g J h0 (pc + 3) L (zi x :: st) h r h') : zR g J h0 pc L (zr o :: st) h r h' := by
  obtain ⟨q, h1, h2⟩ := zbd hx
  obtain ⟨rfl, h4⟩ := zo_spec h1
  split at h2
  · next x' h5 => cases h2; exact zr_get hf hd h4 h5 kk
  · cases h2
theorem zq_getR {ci k : Nat} {o x : Option Nat} (hf : zFg J.1.cls idx ci k) (hd : decode J.2.1 pc = .ok (.getfield idx, 3)) (hx : zgR h ci o k = some x) (kk : zR g J h0 (pc + 3) L (zr x :: st) h r h') : zR g J h0 pc L (zr o :: st) h r h' := by
  obtain ⟨q, h1, h2⟩ := zbd hx
  obtain ⟨rfl, h4⟩ := zo_spec h1
  split at h2
  · next x' h5 => cases h2; exact zr_get hf hd h4 h5 kk
  · cases h2
theorem zq_put {ci k : Nat} {ty : FieldType} {o : Option Nat} {v : zV} (hf : zFp J.1.cls J.1.name idx ci k ty) (hd : decode J.2.1 pc = .ok (.putfield idx, 3)) (hn : ∀ g : zG, narrow ty (zv g v) = zv g v ∧ fits ty (zv g v) = true) (hx : zpu h ci o k v = some h1) (kk : zR g J h0 (pc + 3) L st h1 r h') : zR g J h0 pc L (v :: zr o :: st) h r h' := by
  obtain ⟨q, e1, e2⟩ := zbd hx
  obtain ⟨rfl, h4⟩ := zo_spec e1
  split at e2
  · next h5 => cases e2; exact zr_put hf hd h4 h5 hn kk
  · cases e2
theorem zq_alen {o : Option Nat} {x : Int32} (hd : decode J.2.1 pc = .ok (.arraylength, 1)) (hx : zlen h o = some x) (kk : zR g J h0 (pc + 1) L (zi x :: st) h r h') : zR g J h0 pc L (zr o :: st) h r h' := by
  unfold zlen at hx
  split at hx
  · cases hx
  · split at hx
    · split at hx
      · next a t nn y e1 e2 =>
        cases hx
        have ht : ∃ ty, zty[t]? = some ty := by
          have : t < zty.length := e2
          exact ⟨zty[t], List.getElem?_eq_getElem this⟩
        obtain ⟨ty, ht⟩ := ht
        exact zr_alen ht hd e1 kk
      · cases hx
    · cases hx
theorem zld_spec {t : Nat} {o : Option Nat} {i x : Int32} (hx : zld h t o i = some x) : ∃ a nn f, o = some a ∧ h[a]? = some (.inl (t, nn, .inl f)) ∧ vp_in i nn ∧ x = f i.toNatClampNeg := by
  obtain ⟨q, e1, e2⟩ := zbd hx
  obtain ⟨e3, e4⟩ := zaI_spec e1
  split at e2
  · cases e2
  · next hc => cases e2; exact ⟨_, _, _, e3, e4, hc, rfl⟩
theorem zst_spec {t : Nat} {o : Option Nat} {i x : Int32} (hx : zst h t o i x = some h1) : ∃ a nn f, o = some a ∧ h[a]? = some (.inl (t, nn, .inl f)) ∧ vp_in i nn ∧ h1 = h.set a (.inl (t, nn, .inl (upd f i.toNatClampNeg x))) := by
  obtain ⟨q, e1, e2⟩ := zbd hx
  obtain ⟨e3, e4⟩ := zaI_spec e1
  split at e2
  · cases e2
  · next hc => cases e2; exact ⟨_, _, _, e3, e4, hc, rfl⟩
theorem zq_iald {o : Option Nat} {i x : Int32} (hd : decode J.2.1 pc = .ok (.iaload, 1)) (hx : zld h 0 o i = some x) (kk : zR g J h0 (pc + 1) L (zi x :: st) h r h') : zR g J h0 pc L (zi i :: zr o :: st) h r h' := by
  obtain ⟨a, nn, f, rfl, e1, e2, rfl⟩ := zld_spec hx
  exact zr_iald hd e1 e2 kk
theorem zq_bald {o : Option Nat} {i x : Int32} (hd : decode J.2.1 pc = .ok (.baload, 1)) (hx : zld h 1 o i = some x) (kk : zR g J h0 (pc + 1) L (zi x :: st) h r h') : zR g J h0 pc L (zi i :: zr o :: st) h r h' := by
  obtain ⟨a, nn, f, rfl, e1, e2, rfl⟩ := zld_spec hx
  exact zr_bald hd e1 e2 kk
theorem zq_cald {o : Option Nat} {i x : Int32} (hd : decode J.2.1 pc = .ok (.caload, 1)) (hx : zld h 2 o i = some x) (kk : zR g J h0 (pc + 1) L (zi x :: st) h r h') : zR g J h0 pc L (zi i :: zr o :: st) h r h' := by
  obtain ⟨a, nn, f, rfl, e1, e2, rfl⟩ := zld_spec hx
  exact zr_cald hd e1 e2 kk
theorem zq_zald {o : Option Nat} {i x : Int32} (hd : decode J.2.1 pc = .ok (.baload, 1)) (hx : zld h 3 o i = some x) (kk : zR g J h0 (pc + 1) L (zi x :: st) h r h') : zR g J h0 pc L (zi i :: zr o :: st) h r h' := by
  obtain ⟨a, nn, f, rfl, e1, e2, rfl⟩ := zld_spec hx
  exact zr_zald hd e1 e2 kk
theorem zq_iast {o : Option Nat} {i x : Int32} (hd : decode J.2.1 pc = .ok (.iastore, 1)) (hx : zst h 0 o i x = some h1) (kk : zR g J h0 (pc + 1) L st h1 r h') : zR g J h0 pc L (zi x :: zi i :: zr o :: st) h r h' := by
  obtain ⟨a, nn, f, rfl, e1, e2, rfl⟩ := zst_spec hx
  exact zr_iast hd e1 e2 kk
theorem zq_bast {o : Option Nat} {i x : Int32} (hd : decode J.2.1 pc = .ok (.bastore, 1)) (hx : zst h 1 o i (vp_nar .byte x) = some h1) (kk : zR g J h0 (pc + 1) L st h1 r h') : zR g J h0 pc L (zi x :: zi i :: zr o :: st) h r h' := by
  obtain ⟨a, nn, f, rfl, e1, e2, rfl⟩ := zst_spec hx
  exact zr_bast hd e1 e2 kk
theorem zq_cast {o : Option Nat} {i x : Int32} (hd : decode J.2.1 pc = .ok (.castore, 1)) (hx : zst h 2 o i (vp_nar .char x) = some h1) (kk : zR g J h0 (pc + 1) L st h1 r h') : zR g J h0 pc L (zi x :: zi i :: zr o :: st) h r h' := by
  obtain ⟨a, nn, f, rfl, e1, e2, rfl⟩ := zst_spec hx
  exact zr_cast hd e1 e2 kk
theorem zq_zast {o : Option Nat} {i x : Int32} (hd : decode J.2.1 pc = .ok (.bastore, 1)) (hx : zst h 3 o i (vp_nar .boolean x) = some h1) (kk : zR g J h0 (pc + 1) L st h1 r h') : zR g J h0 pc L (zi x :: zi i :: zr o :: st) h r h' := by
  obtain ⟨a, nn, f, rfl, e1, e2, rfl⟩ := zst_spec hx
  exact zr_zast hd e1 e2 kk
theorem zq_aald {t : Nat} {C : String} {o x : Option Nat} {i : Int32} (ht : zty[t]? = some (.object C)) (hd : decode J.2.1 pc = .ok (.aaload, 1)) (hx : zldR h t o i = some x) (kk : zR g J h0 (pc + 1) L (zr x :: st) h r h') : zR g J h0 pc L (zi i :: zr o :: st) h r h' := by
  obtain ⟨q, e1, e2⟩ := zbd hx
  obtain ⟨rfl, e4⟩ := zaR_spec e1
  split at e2
  · cases e2
  · next hc => cases e2; exact zr_aald ht hd e4 hc kk
theorem zq_aast {t ci : Nat} {rr : vw_C} {o v : Option Nat} {i : Int32} (ht : zty[t]? = some (.object rr.1)) (hc : vwCl[ci]? = some rr) (hd : decode J.2.1 pc = .ok (.aastore, 1)) (hx : zstR h t ci o i v = some h1) (kk : zR g J h0 (pc + 1) L st h1 r h') : zR g J h0 pc L (zr v :: zi i :: zr o :: st) h r h' := by
  obtain ⟨q, e1, e2⟩ := zbd hx
  obtain ⟨rfl, e4⟩ := zaR_spec e1
  split at e2
  · cases e2
  · next hc2 =>
    split at e2
    · cases e2
    · next hc3 =>
      cases e2
      refine zr_aast ht hc hd e4 (fun w hw => ?_) hc2 kk
      subst hw
      cases hk : zck h ci (some w) with
      | none => exact absurd ⟨by simp, hk⟩ hc3
      | some a =>
        obtain ⟨e5, fs, e6⟩ := zck_spec hk
        cases e5
        exact ⟨fs, e6⟩
theorem zq_new {ci a : Nat} {fs : List zV} (hf : zFn J.1.cls idx ci fs) (hd : decode J.2.1 pc = .ok (.new idx, 3)) (ha : a = h.length) (hh : h1 = h ++ [.inr (ci, fs)]) (kk : zR g J h0 (pc + 3) L (zr (some a) :: st) h1 r h') : zR g J h0 pc L st h r h' := by
  subst ha; subst hh
  exact zr_new hf hd kk
theorem znw_spec {α : Type} {e : zE} {k : Nat → zH → Option α} {x : α} (e1 : znw h e k = some x) : ∃ a h1, a = h.length ∧ h1 = h ++ [e] ∧ k a h1 = some x := ⟨_, _, rfl, rfl, e1⟩
theorem zna_spec {α : Type} {t : Nat} {nn : Int32} {k : Nat → zH → Option α} {x : α} (e1 : zna h t nn k = some x) : ∃ a h1, (a = h.length ∧ ¬ nn < 0 ∧ nn.toNatClampNeg ≤ 16777216 ∧ h1 = h ++ [.inl (t, nn.toNatClampNeg, .inl (fun _ => 0))]) ∧ k a h1 = some x := by
  unfold zna at e1
  split at e1
  · cases e1
  · next hc => exact ⟨_, _, ⟨rfl, fun q => hc (Or.inl q), Nat.not_lt.mp fun q => hc (Or.inr q), rfl⟩, e1⟩
theorem znq_spec {α : Type} {t : Nat} {nn : Int32} {k : Nat → zH → Option α} {x : α} (e1 : znq h t nn k = some x) : ∃ a h1, (a = h.length ∧ ¬ nn < 0 ∧ nn.toNatClampNeg ≤ 16777216 ∧ h1 = h ++ [.inl (t, nn.toNatClampNeg, .inr (fun _ => none))]) ∧ k a h1 = some x := by
  unfold znq at e1
  split at e1
  · cases e1
  · next hc => exact ⟨_, _, ⟨rfl, fun q => hc (Or.inl q), Nat.not_lt.mp fun q => hc (Or.inr q), rfl⟩, e1⟩
theorem zcl_spec {α : Type} {t : Nat} {o : Option Nat} {k : Nat → zH → Option α} {x : α} (e1 : zcl h t o k = some x) : ∃ a h1, (∃ b nn y, a = h.length ∧ o = some b ∧ h[b]? = some (.inl (t, nn, y)) ∧ (match y with | .inl _ => t = 0 | .inr _ => t = 4) ∧ h1 = h ++ [.inl (t, nn, y)]) ∧ k a h1 = some x := by
  unfold zcl at e1
  split at e1
  · cases e1
  · split at e1
    · split at e1
      · next b x9 t' nn f h2 hc =>
        obtain ⟨rfl, hc⟩ := hc
        exact ⟨_, _, ⟨b, nn, .inl f, rfl, rfl, h2, hc, rfl⟩, e1⟩
      · cases e1
    · split at e1
      · next b x9 t' nn f h2 hc =>
        obtain ⟨rfl, hc⟩ := hc
        exact ⟨_, _, ⟨b, nn, .inr f, rfl, rfl, h2, hc, rfl⟩, e1⟩
      · cases e1
    · cases e1
theorem zq_newa {atype : ArrayType} {t a : Nat} {nn : Int32} (hw : Cond.arrayClass (newarray.typeOf atype) ∈ zWd) (ht : zty[t]? = some (newarray.typeOf atype)) (hz : ∀ (cA : ClassId) (N : Nat), vp_cell cA (N, .inl (fun _ => 0)) = arrV cA N (fun _ => defaultValue (newarray.typeOf atype))) (hb : componentBytes (newarray.typeOf atype) ≤ 32) (hd : decode J.2.1 pc = .ok (.newarray atype, 2))
    (ha : a = h.length ∧ ¬ nn < 0 ∧ nn.toNatClampNeg ≤ 16777216 ∧ h1 = h ++ [.inl (t, nn.toNatClampNeg, .inl (fun _ => 0))]) (kk : zR g J h0 (pc + 2) L (zr (some a) :: st) h1 r h') : zR g J h0 pc L (zi nn :: st) h r h' := by
  obtain ⟨rfl, e1, e2, rfl⟩ := ha
  exact zr_newa hw ht hz hd e1 (Nat.le_trans (Nat.mul_le_mul e2 hb) (by decide)) kk
theorem zq_newq {t a : Nat} {C : String} {nn : Int32} (hw : Cond.classLink J.1.cls idx C ∈ zWd) (ho : C = RX0 ∨ C = RX9) (ht : zty[t]? = some (.object C)) (hd : decode J.2.1 pc = .ok (.anewarray idx, 3)) (ha : a = h.length ∧ ¬ nn < 0 ∧ nn.toNatClampNeg ≤ 16777216 ∧ h1 = h ++ [.inl (t, nn.toNatClampNeg, .inr (fun _ => none))])
    (kk : zR g J h0 (pc + 3) L (zr (some a) :: st) h1 r h') : zR g J h0 pc L (zi nn :: st) h r h' := by
  obtain ⟨rfl, e1, e2, rfl⟩ := ha
  exact zr_newq hw ho ht hd e1 (Nat.le_trans (Nat.mul_le_mul_right 4 e2) (by decide)) kk
theorem zq_clone {a t : Nat} {ty : FieldType} {ad : String} {o : Option Nat} (hk : zMk J.1.cls idx ad) (ht : zty[t]? = some ty) (had : "[" ++ ty.toString = ad) (hty : (t = 0 ∧ ty = .int) ∨ (t = 4 ∧ ∃ C, ty = .object C)) (hf : 1 ≤ J.2.2.2.2.1 ∧ rest.length + 14 ≤ J.2.2.2.2.2) (hd : decode J.2.1 pc = .ok (.invokevirtual idx, 3))
    (hx : ∃ b nn y, a = h.length ∧ o = some b ∧ h[b]? = some (.inl (t, nn, y)) ∧ (match y with | .inl _ => t = 0 | .inr _ => t = 4) ∧ h1 = h ++ [.inl (t, nn, y)]) (kk : zR g J h0 (pc + 3) L (zr (some a) :: rest) h1 r h') : zR g J h0 pc L (zr o :: rest) h r h' := by
  obtain ⟨b, nn, y, rfl, rfl, e1, e2, rfl⟩ := hx
  refine zr_clone hk ht had ?_ hf hd e1 kk
  rcases y with f | f
  · have e2 : t = 0 := e2
    rcases hty with ⟨-, h2⟩ | ⟨h2, -⟩
    · exact h2
    · omega
  · have e2 : t = 4 := e2
    rcases hty with ⟨h2, -⟩ | ⟨-, h2⟩
    · omega
    · exact h2
theorem zq_castA {t : Nat} {ty : FieldType} {ad : String} {o : Option Nat} {x : Option Int32} (hl : Cond.classLink J.1.cls idx ad ∈ zWd) (ht : zty[t]? = some ty) (had : "[" ++ ty.toString = ad) (hd : decode J.2.1 pc = .ok (.checkcast idx, 3)) (hx : ∃ a nn y, o = some a ∧ h[a]? = some (.inl (t, nn, y))) (kk : zR g J h0 (pc + 3) L (zr o :: rest) h r h') : zR g J h0 pc L (zr o :: rest) h r h' := by
  obtain ⟨a, nn, y, rfl, e1⟩ := hx
  exact zr_castA hl ht had hd e1 kk
theorem zq_copyi {o0 o : Option Nat} {sp dp nn : Int32} (w1 : Cond.methodLink J.1.cls idx arraycopyName ∈ zWd) (w2 : Cond.native arraycopyName ∈ zWd) (w3 : Cond.static arraycopyName ∈ zWd) (w4 : Cond.initialized "java/lang/System" ∈ zWd) (hf : 1 ≤ J.2.2.2.2.1 ∧ rest.length + (nativeFrameWords "java/lang/System" "arraycopy" 5 + 11) ≤ J.2.2.2.2.2) (hd : decode J.2.1 pc = .ok (.invokestatic idx, 3))
    (hx : zcp h o0 sp o dp nn = some h1) (kk : zR g J h0 (pc + 3) L rest h1 r h') : zR g J h0 pc L (zi nn :: zi dp :: zr o :: zi sp :: zr o0 :: rest) h r h' := by
  obtain ⟨q0, e1, e2⟩ := zbd hx
  obtain ⟨q, e3, e4⟩ := zbd e2
  obtain ⟨rfl, e5⟩ := zaI_spec e1
  obtain ⟨rfl, e6⟩ := zaI_spec e3
  split at e4
  · cases e4
  · next hc =>
    cases e4
    exact zr_copyi w1 w2 w3 w4 hf hd e5 e6 (fun q => hc (Or.inl q)) (fun q => hc (Or.inr (Or.inl q))) (fun q => hc (Or.inr (Or.inr (Or.inl q)))) (Nat.not_lt.mp fun q => hc (Or.inr (Or.inr (Or.inr (Or.inl q))))) (Nat.not_lt.mp fun q => hc (Or.inr (Or.inr (Or.inr (Or.inr q))))) kk
theorem zq_callV {a ci : Nat} {q : vw_C} {o : Option Nat} (hl : Cond.methodLink J.1.cls idx J'.1 ∈ zWd) (hM : zMv J' n) (hF : zFits J J') (hd : decode J.2.1 pc = .ok (.invokevirtual idx, 3)) (hn : as.length = n) (hrest : rest.length ≤ 8) (hq : vwCl[ci]? = some q) (hq1 : q.1 = J'.1.cls) (ho : zck h ci o = some a) (hst : as.reverse ++ zr o :: rest = st) (hc : zCa g J' (zr (some a) :: as) h r1 h1)
    (kk : zR g J h0 (pc + 3) L (r1.toList ++ rest) h1 r h') : zR g J h0 pc L st h r h' := by
  obtain ⟨rfl, fs, ha⟩ := zck_spec ho
  subst hst
  exact zr_callV hl hM hF hd hn hrest hq hq1 ha hc kk
theorem zq_callS (hl : Cond.methodLink J.1.cls idx J'.1 ∈ zWd) (hM : zMs J' n) (hF : zFits J J') (hd : decode J.2.1 pc = .ok (.invokestatic idx, 3)) (hn : as.length = n) (hrest : rest.length ≤ 8) (hst : as.reverse ++ rest = st) (hc : zCa g J' as h r1 h1) (kk : zR g J h0 (pc + 3) L (r1.toList ++ rest) h1 r h') : zR g J h0 pc L st h r h' := by
  subst hst
  exact zr_callS hl hM hF hd hn hrest hc kk
theorem zq_callSN {host : String} (hl : Cond.methodLinkNest J.1.cls idx J'.1 host ∈ zNw) (hM : zMs J' n) (hF : zFits J J') (hd : decode J.2.1 pc = .ok (.invokestatic idx, 3)) (hn : as.length = n) (hrest : rest.length ≤ 8) (hst : as.reverse ++ rest = st) (hc : zCa g J' as h r1 h1) (kk : zR g J h0 (pc + 3) L (r1.toList ++ rest) h1 r h') : zR g J h0 pc L st h r h' := by
  subst hst
  exact zr_callSN hl hM hF hd hn hrest hc kk
theorem zq_callI {a : Nat} (hl : Cond.methodLink J.1.cls idx J'.1 ∈ zWd) (hM : zMc J' n) (hF : zFits J J') (hd : decode J.2.1 pc = .ok (.invokespecial idx, 3)) (hn : as.length = n) (hrest : rest.length ≤ 8) (hst : as.reverse ++ zr (some a) :: rest = st) (hc : zCa g J' (zr (some a) :: as) h r1 h1) (kk : zR g J h0 (pc + 3) L (r1.toList ++ rest) h1 r h') : zR g J h0 pc L st h r h' := by
  subst hst
  exact zr_callI hl hM hF hd hn hrest hc kk
theorem zq_callIN {a : Nat} {host : String} (hl : Cond.methodLinkNest J.1.cls idx J'.1 host ∈ zNw) (hM : zMc J' n) (hF : zFits J J') (hd : decode J.2.1 pc = .ok (.invokespecial idx, 3)) (hn : as.length = n) (hrest : rest.length ≤ 8) (hst : as.reverse ++ zr (some a) :: rest = st) (hc : zCa g J' (zr (some a) :: as) h r1 h1) (kk : zR g J h0 (pc + 3) L (r1.toList ++ rest) h1 r h') : zR g J h0 pc L st h r h' := by
  subst hst
  exact zr_callIN hl hM hF hd hn hrest hc kk
def zsc (n : Nat) (xs : Nat → Int32) (i : Int32) : Option Int32 := if i < 0 ∨ n ≤ i.toNatClampNeg then none else some (xs i.toNatClampNeg)
theorem zq_sld {i x : Int32} {nS : Nat} {xS : Nat → Int32} (hS1 : g.2.2.2.2.2.1 = nS) (hS2 : g.2.2.2.2.2.2 = xS) (hd : decode J.2.1 pc = .ok (.iaload, 1)) (hx : zsc nS xS i = some x) (kk : zR g J h0 (pc + 1) L (zi x :: st) h r h') : zR g J h0 pc L (zi i :: zs 8 :: st) h r h' := by
  subst hS1; subst hS2
  unfold zsc at hx
  split at hx
  · cases hx
  · next hc =>
    cases hx
    refine zR.step (fun X _ _ _ _ hT hL kk => ?_) kk
    obtain ⟨-, -, -, -, -, -, -, hX, hA, -⟩ := X.2.2.2.2.2.2.1
    obtain ⟨scr, e1, -⟩ := id hX
    exact va_sld X.1 X.2.1 hX (Array.getElem?_eq_some_iff.mp e1).1 hA hT.2.2 hc hd (kk _ hL)
theorem zq_slen {nS : Nat} (hS1 : g.2.2.2.2.2.1 = nS) (hd : decode J.2.1 pc = .ok (.arraylength, 1)) (kk : zR g J h0 (pc + 1) L (zi (nI nS) :: st) h r h') : zR g J h0 pc L (zs 8 :: st) h r h' := by
  subst hS1
  refine zR.step (fun X _ _ _ _ hT hL kk => ?_) kk
  obtain ⟨-, -, -, -, -, -, -, hX, hA, -⟩ := X.2.2.2.2.2.2.1
  obtain ⟨scr, e1, -⟩ := id hX
  exact va_slen X.1 X.2.1 hX (Array.getElem?_eq_some_iff.mp e1).1 hA hT.2.2 hd (kk _ hL)
theorem zok_b {x : Int32} (h : x = 0 ∨ x = 1) : zok (some .boolean) (some (zi x)) := by
  rcases h with rfl | rfl <;> rfl
theorem zne {x k : Int32} {n : Int} (h : ¬ x = k) (hk : k.toInt = n) : x.toInt ≠ n := by
  intro e
  exact h (Int32.toInt_inj.mp (e.trans hk.symm))
end zlock
end
section
/-! ===== strings: the eight constants ===== -/
def zstl (k : Nat) : Option Int32 := if k < 8 then some (nI (zSl.getD k 0)) else none
def zstc (k : Nat) (i : Int32) : Option Int32 := if k < 8 ∧ ¬ (i < 0 ∨ zSl.getD k 0 ≤ i.toNatClampNeg) then some ((zSb.getD k []).getD i.toNatClampNeg 0) else none
theorem zcl_got {h h1 : zH} {t a : Nat} {o : Option Nat} (hx : ∃ b nn y, a = h.length ∧ o = some b ∧ h[b]? = some (.inl (t, nn, y)) ∧ (match y with | .inl _ => t = 0 | .inr _ => t = 4) ∧ h1 = h ++ [.inl (t, nn, y)]) : ∃ a' nn y, some a = some a' ∧ h1[a']? = some (.inl (t, nn, y)) := by
  obtain ⟨b, nn, y, rfl, -, -, -, rfl⟩ := hx
  exact ⟨_, nn, y, rfl, by simp⟩
end
section
theorem zm0 {w : Cond} (h : w ∈ k2_sels lw_privs) : w ∈ lw_tbl := List.mem_append_left _ h
theorem zm1 {w : Cond} (h : w ∈ tables_1_1) : w ∈ lw_tbl := List.mem_append_right _ (List.mem_append_left _ h)
theorem zm2 {w : Cond} (h : w ∈ tables_1_2) : w ∈ lw_tbl := List.mem_append_right _ (List.mem_append_right _ (List.mem_append_left _ h))
theorem zm3 {w : Cond} (h : w ∈ tables_1_3) : w ∈ lw_tbl := List.mem_append_right _ (List.mem_append_right _ (List.mem_append_right _ (List.mem_append_left _ h)))
theorem zm4 {w : Cond} (h : w ∈ tables_1_4) : w ∈ lw_tbl := List.mem_append_right _ (List.mem_append_right _ (List.mem_append_right _ (List.mem_append_right _ (List.mem_append_left _ h))))
theorem zm5 {w : Cond} (h : w ∈ tables_1_5) : w ∈ lw_tbl := List.mem_append_right _ (List.mem_append_right _ (List.mem_append_right _ (List.mem_append_right _ (List.mem_append_right _ (List.mem_append_left _ h)))))
theorem zm6 {w : Cond} (h : w ∈ tables_1_6) : w ∈ lw_tbl := List.mem_append_right _ (List.mem_append_right _ (List.mem_append_right _ (List.mem_append_right _ (List.mem_append_right _ (List.mem_append_right _ (h))))))
abbrev jX0_init : zJ := (yX0_init, cX0_init, 4, none, 1, 20)
abbrev jX0_with : zJ := (yX0_with, cX0_with, 2, (some (.object "ArcheryField$Archer")), 2, 43)
abbrev jX0_with_ : zJ := (yX0_with_, cX0_with_, 2, (some (.object "ArcheryField$Archer")), 2, 43)
abbrev jX1_init_ : zJ := (yX1_init_, cX1_init_, 2, none, 1, 20)
abbrev jX1_init : zJ := (yX1_init, cX1_init, 1, none, 2, 41)
abbrev jX1_count : zJ := (yX1_count, cX1_count, 1, (some .int), 0, 0)
abbrev jX1_canAdd : zJ := (yX1_canAdd, cX1_canAdd, 4, (some .boolean), 1, 20)
abbrev jJ7_copyOf_59c91 : zJ := (yJ7_copyOf_59c91, cJ7_copyOf_59c91, 3, (some (.array .int)), 1, 26)
abbrev jX1_with : zJ := (yX1_with, cX1_with, 5, (some (.object "ArcheryField$Laws")), 2, 48)
abbrev jX7_count : zJ := (yX7_count, cX7_count, 1, (some .int), 0, 0)
abbrev jX7_standsFor : zJ := (yX7_standsFor, cX7_standsFor, 6, (some .boolean), 0, 0)
abbrev jX7_countFor : zJ := (yX7_countFor, cX7_countFor, 6, (some .int), 1, 25)
abbrev jX1_classOf : zJ := (yX1_classOf, cX1_classOf, 6, (some .int), 2, 50)
abbrev jX2_init_ : zJ := (yX2_init_, cX2_init_, 4, none, 1, 20)
abbrev jX2_init : zJ := (yX2_init, cX2_init, 1, none, 2, 43)
abbrev jX2_countLanes : zJ := (yX2_countLanes, cX2_countLanes, 1, (some .int), 0, 0)
abbrev jX2_countPlaces : zJ := (yX2_countPlaces, cX2_countPlaces, 1, (some .int), 0, 0)
abbrev jX2_canAdd : zJ := (yX2_canAdd, cX2_canAdd, 2, (some .boolean), 1, 20)
abbrev jJ7_fill_53178 : zJ := (yJ7_fill_53178, cJ7_fill_53178, 4, none, 0, 0)
abbrev jX2_withBay : zJ := (yX2_withBay, cX2_withBay, 7, (some (.object "ArcheryField$Line")), 2, 48)
abbrev jX2_withSeats : zJ := (yX2_withSeats, cX2_withSeats, 2, (some (.object "ArcheryField$Line")), 2, 43)
abbrev jX2_placeOf : zJ := (yX2_placeOf, cX2_placeOf, 3, (some .int), 0, 0)
abbrev jX2_without : zJ := (yX2_without, cX2_without, 4, (some (.object "ArcheryField$Line")), 2, 43)
abbrev jX2_seatedOn : zJ := (yX2_seatedOn, cX2_seatedOn, 2, (some .int), 0, 0)
abbrev jX2_stateOf : zJ := (yX2_stateOf, cX2_stateOf, 2, (some .int), 0, 0)
abbrev jX2_isAnyOfBay : zJ := (yX2_isAnyOfBay, cX2_isAnyOfBay, 4, (some .boolean), 0, 0)
abbrev jX2_mayBecome : zJ := (yX2_mayBecome, cX2_mayBecome, 3, (some .boolean), 1, 23)
abbrev jX2_withState : zJ := (yX2_withState, cX2_withState, 4, (some (.object "ArcheryField$Line")), 2, 43)
abbrev jX9_find : zJ := (yX9_find, cX9_find, 2, (some (.object "ArcheryField$Archer")), 0, 0)
abbrev jX3_init : zJ := (yX3_init, cX3_init, 5, none, 1, 23)
abbrev jX3_clubOn : zJ := (yX3_clubOn, cX3_clubOn, 2, (some .int), 0, 0)
abbrev jX3_isParted : zJ := (yX3_isParted, cX3_isParted, 3, (some .boolean), 1, 21)
abbrev jX3_nextPlace : zJ := (yX3_nextPlace, cX3_nextPlace, 4, (some .int), 2, 43)
abbrev jX3_put : zJ := (yX3_put, cX3_put, 3, none, 0, 0)
abbrev jX3_lift : zJ := (yX3_lift, cX3_lift, 2, none, 0, 0)
abbrev jX3_search : zJ := (yX3_search, cX3_search, 5, (some .int), 3, 66)
abbrev jX4_init : zJ := (yX4_init, cX4_init, 1, none, 1, 20)
abbrev jX11_isOnField : zJ := (yX11_isOnField, cX11_isOnField, 2, (some .boolean), 0, 0)
abbrev jX4_canBe : zJ := (yX4_canBe, cX4_canBe, 3, (some .boolean), 1, 21)
abbrev jX4_add : zJ := (yX4_add, cX4_add, 4, (some .boolean), 2, 43)
abbrev jX4_empty : zJ := (yX4_empty, cX4_empty, 2, (some .int), 0, 0)
abbrev jX6_isSet : zJ := (yX6_isSet, cX6_isSet, 2, (some .boolean), 0, 0)
abbrev jX6_setting : zJ := (yX6_setting, cX6_setting, 2, (some .int), 1, 21)
abbrev jX6_valueAt : zJ := (yX6_valueAt, cX6_valueAt, 9, (some .int), 2, 42)
abbrev jX4_judgeIn : zJ := (yX4_judgeIn, cX4_judgeIn, 3, (some .int), 0, 0)
abbrev jX4_judgeOne : zJ := (yX4_judgeOne, cX4_judgeOne, 4, (some .int), 3, 70)
abbrev jX4_judge : zJ := (yX4_judge, cX4_judge, 7, (some .int), 4, 93)
abbrev jX10_init : zJ := (yX10_init, cX10_init, 1, none, 1, 20)
abbrev jX6_init : zJ := (yX6_init, cX6_init, 1, none, 1, 20)
abbrev jX5_init : zJ := (yX5_init, cX5_init, 1, none, 2, 40)
abbrev jX10_signAt : zJ := (yX10_signAt, cX10_signAt, 2, (some .int), 0, 0)
abbrev jX5_isBlank : zJ := (yX5_isBlank, cX5_isBlank, 1, (some .boolean), 0, 0)
abbrev jX5_skipBlanks : zJ := (yX5_skipBlanks, cX5_skipBlanks, 1, none, 1, 21)
abbrev jX5_isLetter : zJ := (yX5_isLetter, cX5_isLetter, 1, (some .boolean), 0, 0)
abbrev jX5_skipLetters : zJ := (yX5_skipLetters, cX5_skipLetters, 1, none, 1, 21)
abbrev jX5_isSpelt : zJ := (yX5_isSpelt, cX5_isSpelt, 4, (some .boolean), 5, 106)
abbrev jX6_addFace : zJ := (yX6_addFace, cX6_addFace, 1, (some .boolean), 0, 0)
abbrev jX5_refuse : zJ := (yX5_refuse, cX5_refuse, 3, (some .boolean), 0, 0)
abbrev jX5_isDigit : zJ := (yX5_isDigit, cX5_isDigit, 1, (some .boolean), 0, 0)
abbrev jX5_isDigitNext : zJ := (yX5_isDigitNext, cX5_isDigitNext, 1, (some .boolean), 2, 41)
abbrev jX5_readNumber : zJ := (yX5_readNumber, cX5_readNumber, 3, (some .boolean), 2, 41)
abbrev jX5_readSign : zJ := (yX5_readSign, cX5_readSign, 2, (some .boolean), 2, 41)
abbrev jX6_addLine : zJ := (yX6_addLine, cX6_addLine, 5, none, 0, 0)
abbrev jX5_readFace : zJ := (yX5_readFace, cX5_readFace, 5, (some .boolean), 3, 63)
abbrev jX6_addLeg : zJ := (yX6_addLeg, cX6_addLeg, 4, (some .boolean), 0, 0)
abbrev jX5_readLeg : zJ := (yX5_readLeg, cX5_readLeg, 4, (some .boolean), 3, 63)
abbrev jX6_canTie : zJ := (yX6_canTie, cX6_canTie, 1, (some .boolean), 0, 0)
abbrev jX5_mayTie : zJ := (yX5_mayTie, cX5_mayTie, 2, (some .boolean), 1, 22)
abbrev jX6_addTie : zJ := (yX6_addTie, cX6_addTie, 2, (some .boolean), 1, 20)
abbrev jX6_set : zJ := (yX6_set, cX6_set, 3, (some .boolean), 0, 0)
abbrev jX5_readOnce : zJ := (yX5_readOnce, cX5_readOnce, 4, (some .boolean), 3, 63)
abbrev jX5_readStatement : zJ := (yX5_readStatement, cX5_readStatement, 2, (some .boolean), 6, 129)
abbrev jX5_read : zJ := (yX5_read, cX5_read, 2, (some (.object "ArcheryField$Round")), 7, 150)
abbrev jX6_countEnds : zJ := (yX6_countEnds, cX6_countEnds, 3, (some .int), 0, 0)
abbrev jX6_countArrows : zJ := (yX6_countArrows, cX6_countArrows, 3, (some .int), 0, 0)
abbrev jX6_tell : zJ := (yX6_tell, cX6_tell, 2, (some .int), 2, 42)
abbrev jX6_legOf : zJ := (yX6_legOf, cX6_legOf, 4, (some .int), 0, 0)
abbrev jX6_arrowsOf : zJ := (yX6_arrowsOf, cX6_arrowsOf, 2, (some .int), 0, 0)
abbrev jX8_total : zJ := (yX8_total, cX8_total, 6, (some .int), 0, 0)
abbrev jJ6_compare_7cf53 : zJ := (yJ6_compare_7cf53, cJ6_compare_7cf53, 2, (some .int), 0, 0)
abbrev jX8_lastSum : zJ := (yX8_lastSum, cX8_lastSum, 1, (some .int), 0, 0)
abbrev jX8_squareOf : zJ := (yX8_squareOf, cX8_squareOf, 2, (some .int), 0, 0)
abbrev jX6_compareOffs : zJ := (yX6_compareOffs, cX6_compareOffs, 3, (some .int), 1, 21)
abbrev jX8_countOf : zJ := (yX8_countOf, cX8_countOf, 7, (some .int), 0, 0)
abbrev jX6_compareBy : zJ := (yX6_compareBy, cX6_compareBy, 3, (some .int), 2, 43)
abbrev jX6_compare : zJ := (yX6_compare, cX6_compare, 5, (some .int), 3, 65)
abbrev jX7_init_ : zJ := (yX7_init_, cX7_init_, 2, none, 1, 20)
abbrev jX7_init : zJ := (yX7_init, cX7_init, 1, none, 2, 41)
abbrev jX7_with : zJ := (yX7_with, cX7_with, 5, (some (.object "ArcheryField$Scores")), 2, 48)
abbrev jX7_canStrike : zJ := (yX7_canStrike, cX7_canStrike, 2, (some .boolean), 1, 20)
abbrev jX7_withStruck : zJ := (yX7_withStruck, cX7_withStruck, 4, (some (.object "ArcheryField$Scores")), 2, 41)
abbrev jX8_init_ : zJ := (yX8_init_, cX8_init_, 4, none, 1, 20)
abbrev jX8_init : zJ := (yX8_init, cX8_init, 1, none, 2, 43)
abbrev jX8_countEnds : zJ := (yX8_countEnds, cX8_countEnds, 1, (some .int), 0, 0)
abbrev jX8_countOffs : zJ := (yX8_countOffs, cX8_countOffs, 1, (some .int), 0, 0)
abbrev jX8_counted : zJ := (yX8_counted, cX8_counted, 2, (some .int), 0, 0)
abbrev jX8_joined : zJ := (yX8_joined, cX8_joined, 3, (some (.array .int)), 2, 48)
abbrev jX8_withEnd : zJ := (yX8_withEnd, cX8_withEnd, 6, (some (.object "ArcheryField$Shots")), 3, 70)
abbrev jX8_withoutLast : zJ := (yX8_withoutLast, cX8_withoutLast, 4, (some (.object "ArcheryField$Shots")), 2, 48)
abbrev jX8_withOff : zJ := (yX8_withOff, cX8_withOff, 2, (some (.object "ArcheryField$Shots")), 3, 70)
abbrev jX9_init : zJ := (yX9_init, cX9_init, 1, none, 3, 63)
abbrev jX9_init_ : zJ := (yX9_init_, cX9_init_, 2, none, 1, 22)
abbrev jX9_put : zJ := (yX9_put, cX9_put, 3, none, 0, 0)
abbrev jX9_freeNumber : zJ := (yX9_freeNumber, cX9_freeNumber, 2, (some .int), 0, 0)
abbrev jX9_forgetShots : zJ := (yX9_forgetShots, cX9_forgetShots, 3, none, 3, 64)
abbrev jX10_append : zJ := (yX10_append, cX10_append, 3, none, 0, 0)
abbrev jX11_init : zJ := (yX11_init, cX11_init, 1, none, 4, 83)
abbrev jX11_feed : zJ := (yX11_feed, cX11_feed, 6, (some .int), 1, 22)
abbrev jX11_end : zJ := (yX11_end, cX11_end, 2, (some .boolean), 0, 0)
abbrev jX11_change : zJ := (yX11_change, cX11_change, 2, (some (.object "ArcheryField$State")), 2, 43)
abbrev jX11_round : zJ := (yX11_round, cX11_round, 3, (some .int), 8, 171)
abbrev jX11_fault : zJ := (yX11_fault, cX11_fault, 2, (some .int), 0, 0)
abbrev jX11_of : zJ := (yX11_of, cX11_of, 2, (some .int), 3, 63)
abbrev jX11_archer : zJ := (yX11_archer, cX11_archer, 3, (some .int), 3, 64)
abbrev jX11_leave : zJ := (yX11_leave, cX11_leave, 3, (some .boolean), 3, 66)
abbrev jX11_told : zJ := (yX11_told, cX11_told, 4, (some .int), 1, 25)
abbrev jX11_arrow : zJ := (yX11_arrow, cX11_arrow, 4, (some .int), 3, 66)
abbrev jX11_shoot : zJ := (yX11_shoot, cX11_shoot, 6, (some .int), 5, 119)
abbrev jX11_value : zJ := (yX11_value, cX11_value, 4, (some .int), 1, 21)
abbrev jX11_take : zJ := (yX11_take, cX11_take, 5, (some .int), 3, 71)
abbrev jX11_off : zJ := (yX11_off, cX11_off, 8, (some .int), 4, 91)
abbrev jX11_ahead : zJ := (yX11_ahead, cX11_ahead, 5, (some .int), 4, 89)
abbrev jX11_rank : zJ := (yX11_rank, cX11_rank, 6, (some .int), 4, 89)
abbrev jX11_isDay : zJ := (yX11_isDay, cX11_isDay, 1, (some .boolean), 0, 0)
abbrev jX11_today : zJ := (yX11_today, cX11_today, 2, (some .boolean), 3, 64)
abbrev jX11_isScore : zJ := (yX11_isScore, cX11_isScore, 1, (some .boolean), 0, 0)
abbrev jX11_score : zJ := (yX11_score, cX11_score, 5, (some .int), 3, 72)
abbrev jX11_strike : zJ := (yX11_strike, cX11_strike, 4, (some .boolean), 3, 64)
abbrev jX11_law : zJ := (yX11_law, cX11_law, 5, (some .int), 3, 72)
abbrev jX11_kind : zJ := (yX11_kind, cX11_kind, 5, (some .int), 3, 75)
abbrev jX11_bay : zJ := (yX11_bay, cX11_bay, 3, (some .int), 3, 74)
abbrev jX11_layout : zJ := (yX11_layout, cX11_layout, 5, (some .int), 4, 90)
abbrev jX11_on : zJ := (yX11_on, cX11_on, 2, (some .int), 1, 21)
abbrev jX11_lane : zJ := (yX11_lane, cX11_lane, 5, (some .int), 3, 66)
abbrev jX11_state : zJ := (yX11_state, cX11_state, 2, (some .int), 1, 21)
abbrev jX11_undo : zJ := (yX11_undo, cX11_undo, 1, (some .int), 0, 0)
abbrev jX12_init : zJ := (yX12_init, cX12_init, 2, none, 1, 20)
abbrev jX12_keeps : zJ := (yX12_keeps, cX12_keeps, 2, none, 0, 0)
abbrev jX12_undo : zJ := (yX12_undo, cX12_undo, 2, (some .int), 0, 0)
abbrev jX12_feed : zJ := (yX12_feed, cX12_feed, 8, (some .int), 0, 0)
abbrev jX12_end : zJ := (yX12_end, cX12_end, 2, (some .boolean), 0, 0)
abbrev jX12_fail : zJ := (yX12_fail, cX12_fail, 3, none, 0, 0)
abbrev jX12_isLetter : zJ := (yX12_isLetter, cX12_isLetter, 1, (some .boolean), 0, 0)
abbrev jX12_isDigit : zJ := (yX12_isDigit, cX12_isDigit, 1, (some .boolean), 0, 0)
abbrev jX12_next : zJ := (yX12_next, cX12_next, 1, none, 1, 20)
abbrev jX12_isWord : zJ := (yX12_isWord, cX12_isWord, 3, (some .boolean), 0, 0)
abbrev jX12_numberOf : zJ := (yX12_numberOf, cX12_numberOf, 3, (some .int), 2, 40)
abbrev jX12_sign : zJ := (yX12_sign, cX12_sign, 2, none, 2, 40)
abbrev jX12_face : zJ := (yX12_face, cX12_face, 4, none, 3, 62)
abbrev jX12_leg : zJ := (yX12_leg, cX12_leg, 4, none, 3, 62)
abbrev jX12_tie : zJ := (yX12_tie, cX12_tie, 3, none, 3, 62)
abbrev jX12_once : zJ := (yX12_once, cX12_once, 4, none, 3, 62)
abbrev jX12_statement : zJ := (yX12_statement, cX12_statement, 1, none, 4, 85)
abbrev jX12_of : zJ := (yX12_of, cX12_of, 5, (some .int), 0, 0)
abbrev jX12_round : zJ := (yX12_round, cX12_round, 2, (some .int), 5, 105)
abbrev jX12_fault : zJ := (yX12_fault, cX12_fault, 2, (some .int), 0, 0)
abbrev jX12_isArcher : zJ := (yX12_isArcher, cX12_isArcher, 2, (some .boolean), 0, 0)
abbrev jX12_archer : zJ := (yX12_archer, cX12_archer, 3, (some .int), 1, 21)
abbrev jX12_leave : zJ := (yX12_leave, cX12_leave, 2, (some .boolean), 1, 21)
abbrev jX12_legOf : zJ := (yX12_legOf, cX12_legOf, 4, (some .int), 0, 0)
abbrev jX12_arrowsOf : zJ := (yX12_arrowsOf, cX12_arrowsOf, 4, (some .int), 1, 23)
abbrev jX12_sum : zJ := (yX12_sum, cX12_sum, 6, (some .int), 0, 0)
abbrev jX12_lastEnd : zJ := (yX12_lastEnd, cX12_lastEnd, 3, (some .int), 2, 46)
abbrev jX12_total : zJ := (yX12_total, cX12_total, 2, (some .int), 2, 46)
abbrev jX12_told : zJ := (yX12_told, cX12_told, 3, (some .int), 3, 68)
abbrev jX12_isFar : zJ := (yX12_isFar, cX12_isFar, 1, (some .boolean), 0, 0)
abbrev jX12_arrow : zJ := (yX12_arrow, cX12_arrow, 4, (some .int), 1, 20)
abbrev jX12_hit : zJ := (yX12_hit, cX12_hit, 7, (some .int), 0, 0)
abbrev jX12_shoot : zJ := (yX12_shoot, cX12_shoot, 7, (some .int), 2, 46)
abbrev jX12_value : zJ := (yX12_value, cX12_value, 3, (some .int), 2, 46)
abbrev jX12_take : zJ := (yX12_take, cX12_take, 2, (some .int), 1, 21)
abbrev jX12_off : zJ := (yX12_off, cX12_off, 5, (some .int), 1, 24)
abbrev jX12_most : zJ := (yX12_most, cX12_most, 5, (some .int), 2, 46)
abbrev jX12_square : zJ := (yX12_square, cX12_square, 3, (some .int), 0, 0)
abbrev jX12_signOf : zJ := (yX12_signOf, cX12_signOf, 1, (some .int), 0, 0)
abbrev jX12_ahead : zJ := (yX12_ahead, cX12_ahead, 7, (some .int), 3, 70)
abbrev jX12_rank : zJ := (yX12_rank, cX12_rank, 4, (some .int), 4, 96)
abbrev jX12_isDay : zJ := (yX12_isDay, cX12_isDay, 1, (some .boolean), 0, 0)
abbrev jX12_today : zJ := (yX12_today, cX12_today, 2, (some .boolean), 1, 21)
abbrev jX12_score : zJ := (yX12_score, cX12_score, 5, (some .int), 1, 21)
abbrev jX12_strike : zJ := (yX12_strike, cX12_strike, 3, (some .boolean), 1, 21)
abbrev jX12_law : zJ := (yX12_law, cX12_law, 4, (some .int), 1, 21)
abbrev jX12_kind : zJ := (yX12_kind, cX12_kind, 9, (some .int), 1, 21)
abbrev jX12_bay : zJ := (yX12_bay, cX12_bay, 4, (some .int), 1, 21)
abbrev jX12_isParted : zJ := (yX12_isParted, cX12_isParted, 4, (some .boolean), 0, 0)
abbrev jX12_isFree : zJ := (yX12_isFree, cX12_isFree, 3, (some .boolean), 0, 0)
abbrev jX12_layout : zJ := (yX12_layout, cX12_layout, 4, (some .int), 1, 23)
abbrev jX12_on : zJ := (yX12_on, cX12_on, 3, (some .int), 1, 21)
abbrev jX12_lane : zJ := (yX12_lane, cX12_lane, 5, (some .int), 1, 21)
abbrev jX12_state : zJ := (yX12_state, cX12_state, 2, (some .int), 0, 0)
abbrev jL_law : zJ := (yL_law, cL_law, 4, some .boolean, 9, 193)
abbrev jJ0_charAt_5068e : zJ := (yJ0_charAt_5068e, cJ0_charAt_5068e, 2, (some .char), 4, 85)
abbrev jJ0_length_8abf5 : zJ := (yJ0_length_8abf5, cJ0_length_8abf5, 1, (some .int), 1, 20)
theorem gwX0 : ∀ w ∈ wsX00, goodWord w = true := by decide +kernel
theorem inzX0 : ∀ w ∈ u_ws RX0 TX0 3, w ∈ zWd := fun w h => zWd_mem (inX0 w h) (gwX0 w h)
theorem gwX1 : ∀ w ∈ wsX10, goodWord w = true := by decide +kernel
theorem inzX1 : ∀ w ∈ u_ws RX1 TX1 1, w ∈ zWd := fun w h => zWd_mem (inX1 w h) (gwX1 w h)
theorem gwX2 : ∀ w ∈ wsX20, goodWord w = true := by decide +kernel
theorem inzX2 : ∀ w ∈ u_ws RX2 TX2 3, w ∈ zWd := fun w h => zWd_mem (inX2 w h) (gwX2 w h)
theorem gwX3 : ∀ w ∈ wsX30, goodWord w = true := by decide +kernel
theorem inzX3 : ∀ w ∈ u_ws RX3 TX3 7, w ∈ zWd := fun w h => zWd_mem (inX3 w h) (gwX3 w h)
theorem gwX4 : ∀ w ∈ wsX40, goodWord w = true := by decide +kernel
theorem inzX4 : ∀ w ∈ u_ws RX4 TX4 5, w ∈ zWd := fun w h => zWd_mem (inX4 w h) (gwX4 w h)
theorem gwX5 : ∀ w ∈ wsX50, goodWord w = true := by decide +kernel
theorem inzX5 : ∀ w ∈ u_ws RX5 TX5 7, w ∈ zWd := fun w h => zWd_mem (inX5 w h) (gwX5 w h)
theorem gwX6 : ∀ w ∈ wsX60, goodWord w = true := by decide +kernel
theorem inzX6 : ∀ w ∈ u_ws RX6 TX6 11, w ∈ zWd := fun w h => zWd_mem (inX6 w h) (gwX6 w h)
theorem gwX7 : ∀ w ∈ wsX70, goodWord w = true := by decide +kernel
theorem inzX7 : ∀ w ∈ u_ws RX7 TX7 1, w ∈ zWd := fun w h => zWd_mem (inX7 w h) (gwX7 w h)
theorem gwX8 : ∀ w ∈ wsX80, goodWord w = true := by decide +kernel
theorem inzX8 : ∀ w ∈ u_ws RX8 TX8 3, w ∈ zWd := fun w h => zWd_mem (inX8 w h) (gwX8 w h)
theorem gwX9 : ∀ w ∈ wsX90, goodWord w = true := by decide +kernel
theorem inzX9 : ∀ w ∈ u_ws RX9 TX9 5, w ∈ zWd := fun w h => zWd_mem (inX9 w h) (gwX9 w h)
theorem gwX10 : ∀ w ∈ wsX100, goodWord w = true := by decide +kernel
theorem inzX10 : ∀ w ∈ u_ws RX10 TX10 2, w ∈ zWd := fun w h => zWd_mem (inX10 w h) (gwX10 w h)
theorem gwX11 : ∀ w ∈ wsX110, goodWord w = true := by decide +kernel
theorem inzX11 : ∀ w ∈ u_ws RX11 TX11 6, w ∈ zWd := fun w h => zWd_mem (inX11 w h) (gwX11 w h)
theorem gwX12 : ∀ w ∈ wsX120, goodWord w = true := by decide +kernel
theorem inzX12 : ∀ w ∈ u_ws RX12 TX12 31, w ∈ zWd := fun w h => zWd_mem (inX12 w h) (gwX12 w h)
theorem kw_0 : Cond.methodLink "ArcheryField$Archer" 1 ⟨"java/lang/Object", "<init>", "()V"⟩ ∈ zWd := zWd_mem (zm2 (List.mem_of_getElem? (i := 196) rfl)) (by decide +kernel)
theorem kw_1 : Cond.instanceMethod ⟨"java/lang/Object", "<init>", "()V"⟩ ∈ zWd := zWd_mem (zm1 (List.mem_of_getElem? (i := 28) rfl)) (by decide +kernel)
theorem kw_2 : Cond.code objectInit ⟨#[0xb1]⟩ 1 none ∈ zWd := zWd_mem (zm1 (List.mem_of_getElem? (i := 29) rfl)) (by decide +kernel)
theorem kw_3 : Cond.fieldLink "ArcheryField$Archer" 7 "ArcheryField$Archer" "club" "I" ∈ zWd := zWd_mem (zm2 (List.mem_of_getElem? (i := 197) rfl)) (by decide +kernel)
theorem kw_4 : Cond.fieldLink "ArcheryField$Archer" 13 "ArcheryField$Archer" "shots" "LArcheryField$Shots;" ∈ zWd := zWd_mem (zm2 (List.mem_of_getElem? (i := 200) rfl)) (by decide +kernel)
theorem kw_5 : Cond.fieldLink "ArcheryField$Archer" 17 "ArcheryField$Archer" "scores" "LArcheryField$Scores;" ∈ zWd := zWd_mem (zm2 (List.mem_of_getElem? (i := 202) rfl)) (by decide +kernel)
theorem kw_6 : Cond.classLink "ArcheryField$Archer" 8 "ArcheryField$Archer" ∈ zWd := zWd_mem (zm2 (List.mem_of_getElem? (i := 191) rfl)) (by decide +kernel)
theorem kw_7 : Cond.instantiable "ArcheryField$Archer" 3 ∈ zWd := zWd_mem (zm2 (List.mem_of_getElem? (i := 192) rfl)) (by decide +kernel)
theorem kw_8 : Cond.initialized "ArcheryField$Archer" ∈ zWd := zWd_mem (zm1 (List.mem_of_getElem? (i := 15) rfl)) (by decide +kernel)
theorem kw_9 : Cond.methodLink "ArcheryField$Archer" 21 ⟨"ArcheryField$Archer", "<init>", "(ILArcheryField$Shots;LArcheryField$Scores;)V"⟩ ∈ zWd := zWd_mem (zm2 (List.mem_of_getElem? (i := 193) rfl)) (by decide +kernel)
theorem kw_10 : Cond.code yX0_init cX0_init 4 none ∈ zWd := zWd_mem (zm2 (List.mem_of_getElem? (i := 195) rfl)) (by decide +kernel)
theorem kw_11 : Cond.instanceMethod ⟨"ArcheryField$Archer", "<init>", "(ILArcheryField$Shots;LArcheryField$Scores;)V"⟩ ∈ zWd := zWd_mem (zm2 (List.mem_of_getElem? (i := 194) rfl)) (by decide +kernel)
theorem kw_12 : Cond.methodLink "ArcheryField$Laws" 7 ⟨"java/lang/Object", "<init>", "()V"⟩ ∈ zWd := zWd_mem (zm1 (List.mem_of_getElem? (i := 160) rfl)) (by decide +kernel)
theorem kw_13 : Cond.fieldLink "ArcheryField$Laws" 12 "ArcheryField$Laws" "rows" "[I" ∈ zWd := zWd_mem (zm1 (List.mem_of_getElem? (i := 161) rfl)) (by decide +kernel)
theorem kw_14 : Cond.arrayClass Jvm.ClassFile.FieldType.int ∈ zWd := zWd_mem (zm1 (List.mem_of_getElem? (i := 93) rfl)) (by decide +kernel)
theorem kw_15 : Cond.methodLink "ArcheryField$Laws" 1 ⟨"ArcheryField$Laws", "<init>", "([I)V"⟩ ∈ zWd := zWd_mem (zm1 (List.mem_of_getElem? (i := 157) rfl)) (by decide +kernel)
theorem kw_16 : Cond.code yX1_init_ cX1_init_ 2 none ∈ zWd := zWd_mem (zm1 (List.mem_of_getElem? (i := 159) rfl)) (by decide +kernel)
theorem kw_17 : Cond.instanceMethod ⟨"ArcheryField$Laws", "<init>", "([I)V"⟩ ∈ zWd := zWd_mem (zm1 (List.mem_of_getElem? (i := 158) rfl)) (by decide +kernel)
theorem kw_18 : Cond.initialized "ArcheryField$Laws" ∈ zWd := zWd_mem (zm1 (List.mem_of_getElem? (i := 7) rfl)) (by decide +kernel)
theorem kw_19 : Cond.methodLink "ArcheryField$Laws" 16 ⟨"ArcheryField$Laws", "count", "()I"⟩ ∈ zWd := zWd_mem (zm4 (List.mem_of_getElem? (i := 9) rfl)) (by decide +kernel)
theorem kw_20 : Cond.code yX1_count cX1_count 1 (some .int) ∈ zWd := zWd_mem (zm4 (List.mem_of_getElem? (i := 12) rfl)) (by decide +kernel)
theorem kw_21 : Cond.instanceMethod ⟨"ArcheryField$Laws", "count", "()I"⟩ ∈ zWd := zWd_mem (zm4 (List.mem_of_getElem? (i := 10) rfl)) (by decide +kernel)
theorem kw_22 : Cond.selects "ArcheryField$Laws" ⟨"ArcheryField$Laws", "count", "()I"⟩ ⟨"ArcheryField$Laws", "count", "()I"⟩ ∈ zWd := zWd_mem (zm4 (List.mem_of_getElem? (i := 11) rfl)) (by decide +kernel)
theorem kw_23 : Cond.methodLink "java/util/Arrays" 304 ⟨"java/lang/Math", "min", "(II)I"⟩ ∈ zWd := zWd_mem (zm3 (List.mem_of_getElem? (i := 132) rfl)) (by decide +kernel)
theorem kw_24 : Cond.static ⟨"java/lang/Math", "min", "(II)I"⟩ ∈ zWd := zWd_mem (zm3 (List.mem_of_getElem? (i := 133) rfl)) (by decide +kernel)
theorem kw_25 : Cond.initialized "java/lang/Math" ∈ zWd := zWd_mem (zm1 (List.mem_of_getElem? (i := 17) rfl)) (by decide +kernel)
theorem kw_26 : Cond.code Lib.Math.min.name Lib.Math.min.code 2 (some .int) ∈ zWd := zWd_mem (zm3 (List.mem_of_getElem? (i := 134) rfl)) (by decide +kernel)
theorem kw_27 : Cond.methodLink "java/util/Arrays" 150 ⟨"java/lang/System", "arraycopy", "(Ljava/lang/Object;ILjava/lang/Object;II)V"⟩ ∈ zWd := zWd_mem (zm3 (List.mem_of_getElem? (i := 135) rfl)) (by decide +kernel)
theorem kw_28 : Cond.native ⟨"java/lang/System", "arraycopy", "(Ljava/lang/Object;ILjava/lang/Object;II)V"⟩ ∈ zWd := zWd_mem (zm3 (List.mem_of_getElem? (i := 137) rfl)) (by decide +kernel)
theorem kw_29 : Cond.static ⟨"java/lang/System", "arraycopy", "(Ljava/lang/Object;ILjava/lang/Object;II)V"⟩ ∈ zWd := zWd_mem (zm3 (List.mem_of_getElem? (i := 136) rfl)) (by decide +kernel)
theorem kw_30 : Cond.initialized "java/lang/System" ∈ zWd := zWd_mem (zm1 (List.mem_of_getElem? (i := 19) rfl)) (by decide +kernel)
theorem kw_31 : Cond.methodLink "java/util/Arrays" 316 ⟨"[I", "clone", "()Ljava/lang/Object;"⟩ ∈ zWd := zWd_mem (zm3 (List.mem_of_getElem? (i := 130) rfl)) (by decide +kernel)
theorem kw_32 : Cond.sameMethod "[I" "java/lang/Object" "clone" "()Ljava/lang/Object;" ∈ zWd := zWd_mem (zm3 (List.mem_of_getElem? (i := 43) rfl)) (by decide +kernel)
theorem kw_33 : Cond.native ⟨"java/lang/Object", "clone", "()Ljava/lang/Object;"⟩ ∈ zWd := zWd_mem (zm2 (List.mem_of_getElem? (i := 159) rfl)) (by decide +kernel)
theorem kw_34 : Cond.instanceMethod ⟨"java/lang/Object", "clone", "()Ljava/lang/Object;"⟩ ∈ zWd := zWd_mem (zm2 (List.mem_of_getElem? (i := 160) rfl)) (by decide +kernel)
theorem kw_35 : Cond.selects "[I" ⟨"[I", "clone", "()Ljava/lang/Object;"⟩ ⟨"java/lang/Object", "clone", "()Ljava/lang/Object;"⟩ ∈ zWd := zWd_mem (zm3 (List.mem_of_getElem? (i := 44) rfl)) (by decide +kernel)
theorem kw_36 : Cond.castable "[I" "java/lang/Cloneable" ∈ zNw := zNw_mem (zm3 (List.mem_of_getElem? (i := 45) rfl)) rfl
theorem kw_37 : Cond.classLink "java/util/Arrays" 317 "[I" ∈ zWd := zWd_mem (zm3 (List.mem_of_getElem? (i := 131) rfl)) (by decide +kernel)
theorem kw_38 : Cond.methodLink "ArcheryField$Laws" 20 ⟨"java/util/Arrays", "copyOf", "([II)[I"⟩ ∈ zWd := zWd_mem (zm4 (List.mem_of_getElem? (i := 17) rfl)) (by decide +kernel)
theorem kw_39 : Cond.code yJ7_copyOf_59c91 cJ7_copyOf_59c91 3 (some (.array .int)) ∈ zWd := zWd_mem (zm3 (List.mem_of_getElem? (i := 129) rfl)) (by decide +kernel)
theorem kw_40 : Cond.static ⟨"java/util/Arrays", "copyOf", "([II)[I"⟩ ∈ zWd := zWd_mem (zm3 (List.mem_of_getElem? (i := 128) rfl)) (by decide +kernel)
theorem kw_41 : Cond.initialized "java/util/Arrays" ∈ zWd := zWd_mem (zm1 (List.mem_of_getElem? (i := 18) rfl)) (by decide +kernel)
theorem kw_42 : Cond.classLink "ArcheryField$Laws" 2 "ArcheryField$Laws" ∈ zWd := zWd_mem (zm4 (List.mem_of_getElem? (i := 18) rfl)) (by decide +kernel)
theorem kw_43 : Cond.instantiable "ArcheryField$Laws" 1 ∈ zWd := zWd_mem (zm1 (List.mem_of_getElem? (i := 153) rfl)) (by decide +kernel)
theorem kw_44 : Cond.fieldLink "ArcheryField$Scores" 14 "ArcheryField$Scores" "rows" "[I" ∈ zWd := zWd_mem (zm3 (List.mem_of_getElem? (i := 17) rfl)) (by decide +kernel)
theorem kw_45 : Cond.methodLink "ArcheryField$Scores" 24 ⟨"ArcheryField$Scores", "count", "()I"⟩ ∈ zWd := zWd_mem (zm3 (List.mem_of_getElem? (i := 234) rfl)) (by decide +kernel)
theorem kw_46 : Cond.code yX7_count cX7_count 1 (some .int) ∈ zWd := zWd_mem (zm3 (List.mem_of_getElem? (i := 71) rfl)) (by decide +kernel)
theorem kw_47 : Cond.instanceMethod ⟨"ArcheryField$Scores", "count", "()I"⟩ ∈ zWd := zWd_mem (zm3 (List.mem_of_getElem? (i := 69) rfl)) (by decide +kernel)
theorem kw_48 : Cond.selects "ArcheryField$Scores" ⟨"ArcheryField$Scores", "count", "()I"⟩ ⟨"ArcheryField$Scores", "count", "()I"⟩ ∈ zWd := zWd_mem (zm3 (List.mem_of_getElem? (i := 70) rfl)) (by decide +kernel)
theorem kw_49 : Cond.initialized "ArcheryField$Scores" ∈ zWd := zWd_mem (zm1 (List.mem_of_getElem? (i := 16) rfl)) (by decide +kernel)
theorem kw_50 : Cond.methodLink "ArcheryField$Scores" 33 ⟨"ArcheryField$Scores", "standsFor", "(III)Z"⟩ ∈ zWd := zWd_mem (zm4 (List.mem_of_getElem? (i := 32) rfl)) (by decide +kernel)
theorem kw_51 : Cond.code yX7_standsFor cX7_standsFor 6 (some .boolean) ∈ zWd := zWd_mem (zm4 (List.mem_of_getElem? (i := 35) rfl)) (by decide +kernel)
theorem kw_52 : Cond.instanceMethod ⟨"ArcheryField$Scores", "standsFor", "(III)Z"⟩ ∈ zWd := zWd_mem (zm4 (List.mem_of_getElem? (i := 34) rfl)) (by decide +kernel)
theorem kw_53 : Cond.selects "ArcheryField$Scores" ⟨"ArcheryField$Scores", "standsFor", "(III)Z"⟩ ⟨"ArcheryField$Scores", "standsFor", "(III)Z"⟩ ∈ zWd := zWd_mem (zm0 (List.mem_of_getElem? (i := 15) rfl)) (by decide +kernel)
theorem kw_54 : Cond.methodLink "ArcheryField$Laws" 26 ⟨"ArcheryField$Scores", "countFor", "(III)I"⟩ ∈ zWd := zWd_mem (zm4 (List.mem_of_getElem? (i := 28) rfl)) (by decide +kernel)
theorem kw_55 : Cond.code yX7_countFor cX7_countFor 6 (some .int) ∈ zWd := zWd_mem (zm4 (List.mem_of_getElem? (i := 31) rfl)) (by decide +kernel)
theorem kw_56 : Cond.instanceMethod ⟨"ArcheryField$Scores", "countFor", "(III)I"⟩ ∈ zWd := zWd_mem (zm4 (List.mem_of_getElem? (i := 29) rfl)) (by decide +kernel)
theorem kw_57 : Cond.selects "ArcheryField$Scores" ⟨"ArcheryField$Scores", "countFor", "(III)I"⟩ ⟨"ArcheryField$Scores", "countFor", "(III)I"⟩ ∈ zWd := zWd_mem (zm4 (List.mem_of_getElem? (i := 30) rfl)) (by decide +kernel)
theorem kw_58 : Cond.methodLink "ArcheryField$Line" 9 ⟨"java/lang/Object", "<init>", "()V"⟩ ∈ zWd := zWd_mem (zm1 (List.mem_of_getElem? (i := 173) rfl)) (by decide +kernel)
theorem kw_59 : Cond.fieldLink "ArcheryField$Line" 14 "ArcheryField$Line" "bays" "[I" ∈ zWd := zWd_mem (zm1 (List.mem_of_getElem? (i := 174) rfl)) (by decide +kernel)
theorem kw_60 : Cond.fieldLink "ArcheryField$Line" 18 "ArcheryField$Line" "states" "[I" ∈ zWd := zWd_mem (zm1 (List.mem_of_getElem? (i := 175) rfl)) (by decide +kernel)
theorem kw_61 : Cond.fieldLink "ArcheryField$Line" 21 "ArcheryField$Line" "seats" "[I" ∈ zWd := zWd_mem (zm1 (List.mem_of_getElem? (i := 176) rfl)) (by decide +kernel)
theorem kw_62 : Cond.methodLink "ArcheryField$Line" 3 ⟨"ArcheryField$Line", "<init>", "([I[I[I)V"⟩ ∈ zWd := zWd_mem (zm1 (List.mem_of_getElem? (i := 170) rfl)) (by decide +kernel)
theorem kw_63 : Cond.code yX2_init_ cX2_init_ 4 none ∈ zWd := zWd_mem (zm1 (List.mem_of_getElem? (i := 172) rfl)) (by decide +kernel)
theorem kw_64 : Cond.instanceMethod ⟨"ArcheryField$Line", "<init>", "([I[I[I)V"⟩ ∈ zWd := zWd_mem (zm1 (List.mem_of_getElem? (i := 171) rfl)) (by decide +kernel)
theorem kw_65 : Cond.initialized "ArcheryField$Line" ∈ zWd := zWd_mem (zm1 (List.mem_of_getElem? (i := 8) rfl)) (by decide +kernel)
theorem kw_66 : Cond.methodLink "ArcheryField$Line" 24 ⟨"ArcheryField$Line", "countLanes", "()I"⟩ ∈ zWd := zWd_mem (zm4 (List.mem_of_getElem? (i := 44) rfl)) (by decide +kernel)
theorem kw_67 : Cond.code yX2_countLanes cX2_countLanes 1 (some .int) ∈ zWd := zWd_mem (zm4 (List.mem_of_getElem? (i := 47) rfl)) (by decide +kernel)
theorem kw_68 : Cond.instanceMethod ⟨"ArcheryField$Line", "countLanes", "()I"⟩ ∈ zWd := zWd_mem (zm4 (List.mem_of_getElem? (i := 45) rfl)) (by decide +kernel)
theorem kw_69 : Cond.selects "ArcheryField$Line" ⟨"ArcheryField$Line", "countLanes", "()I"⟩ ⟨"ArcheryField$Line", "countLanes", "()I"⟩ ∈ zWd := zWd_mem (zm4 (List.mem_of_getElem? (i := 46) rfl)) (by decide +kernel)
theorem kw_70 : Cond.methodLink "ArcheryField$Line" 38 ⟨"java/util/Arrays", "fill", "([II)V"⟩ ∈ zWd := zWd_mem (zm4 (List.mem_of_getElem? (i := 54) rfl)) (by decide +kernel)
theorem kw_71 : Cond.code yJ7_fill_53178 cJ7_fill_53178 4 none ∈ zWd := zWd_mem (zm4 (List.mem_of_getElem? (i := 56) rfl)) (by decide +kernel)
theorem kw_72 : Cond.static ⟨"java/util/Arrays", "fill", "([II)V"⟩ ∈ zWd := zWd_mem (zm4 (List.mem_of_getElem? (i := 55) rfl)) (by decide +kernel)
theorem kw_73 : Cond.classLink "ArcheryField$Line" 4 "ArcheryField$Line" ∈ zWd := zWd_mem (zm3 (List.mem_of_getElem? (i := 47) rfl)) (by decide +kernel)
theorem kw_74 : Cond.instantiable "ArcheryField$Line" 3 ∈ zWd := zWd_mem (zm1 (List.mem_of_getElem? (i := 166) rfl)) (by decide +kernel)
theorem kw_75 : Cond.methodLink "ArcheryField$Line" 32 ⟨"java/util/Arrays", "copyOf", "([II)[I"⟩ ∈ zWd := zWd_mem (zm4 (List.mem_of_getElem? (i := 53) rfl)) (by decide +kernel)
theorem kw_76 : Cond.methodLink "ArcheryField$Line" 28 ⟨"ArcheryField$Line", "canAdd", "(I)Z"⟩ ∈ zWd := zWd_mem (zm4 (List.mem_of_getElem? (i := 52) rfl)) (by decide +kernel)
theorem kw_77 : Cond.code yX2_canAdd cX2_canAdd 2 (some .boolean) ∈ zWd := zWd_mem (zm4 (List.mem_of_getElem? (i := 43) rfl)) (by decide +kernel)
theorem kw_78 : Cond.instanceMethod ⟨"ArcheryField$Line", "canAdd", "(I)Z"⟩ ∈ zWd := zWd_mem (zm4 (List.mem_of_getElem? (i := 41) rfl)) (by decide +kernel)
theorem kw_79 : Cond.selects "ArcheryField$Line" ⟨"ArcheryField$Line", "canAdd", "(I)Z"⟩ ⟨"ArcheryField$Line", "canAdd", "(I)Z"⟩ ∈ zWd := zWd_mem (zm4 (List.mem_of_getElem? (i := 42) rfl)) (by decide +kernel)
theorem kw_80 : Cond.methodLink "ArcheryField$Line" 42 ⟨"ArcheryField$Line", "placeOf", "(I)I"⟩ ∈ zWd := zWd_mem (zm3 (List.mem_of_getElem? (i := 38) rfl)) (by decide +kernel)
theorem kw_81 : Cond.code yX2_placeOf cX2_placeOf 3 (some .int) ∈ zWd := zWd_mem (zm3 (List.mem_of_getElem? (i := 41) rfl)) (by decide +kernel)
theorem kw_82 : Cond.instanceMethod ⟨"ArcheryField$Line", "placeOf", "(I)I"⟩ ∈ zWd := zWd_mem (zm3 (List.mem_of_getElem? (i := 39) rfl)) (by decide +kernel)
theorem kw_83 : Cond.selects "ArcheryField$Line" ⟨"ArcheryField$Line", "placeOf", "(I)I"⟩ ⟨"ArcheryField$Line", "placeOf", "(I)I"⟩ ∈ zWd := zWd_mem (zm3 (List.mem_of_getElem? (i := 40) rfl)) (by decide +kernel)
theorem kw_84 : Cond.methodLink "ArcheryField$Line" 46 ⟨"[I", "clone", "()Ljava/lang/Object;"⟩ ∈ zWd := zWd_mem (zm3 (List.mem_of_getElem? (i := 42) rfl)) (by decide +kernel)
theorem kw_85 : Cond.classLink "ArcheryField$Line" 47 "[I" ∈ zWd := zWd_mem (zm3 (List.mem_of_getElem? (i := 46) rfl)) (by decide +kernel)
theorem kw_86 : Cond.methodLink "ArcheryField$Line" 54 ⟨"ArcheryField$Line", "isAnyOfBay", "(II)Z"⟩ ∈ zWd := zWd_mem (zm4 (List.mem_of_getElem? (i := 147) rfl)) (by decide +kernel)
theorem kw_87 : Cond.code yX2_isAnyOfBay cX2_isAnyOfBay 4 (some .boolean) ∈ zWd := zWd_mem (zm4 (List.mem_of_getElem? (i := 150) rfl)) (by decide +kernel)
theorem kw_88 : Cond.instanceMethod ⟨"ArcheryField$Line", "isAnyOfBay", "(II)Z"⟩ ∈ zWd := zWd_mem (zm4 (List.mem_of_getElem? (i := 149) rfl)) (by decide +kernel)
theorem kw_89 : Cond.selects "ArcheryField$Line" ⟨"ArcheryField$Line", "isAnyOfBay", "(II)Z"⟩ ⟨"ArcheryField$Line", "isAnyOfBay", "(II)Z"⟩ ∈ zWd := zWd_mem (zm0 (List.mem_of_getElem? (i := 21) rfl)) (by decide +kernel)
theorem kw_90 : Cond.methodLink "ArcheryField$Line" 51 ⟨"ArcheryField$Line", "stateOf", "(I)I"⟩ ∈ zWd := zWd_mem (zm4 (List.mem_of_getElem? (i := 143) rfl)) (by decide +kernel)
theorem kw_91 : Cond.code yX2_stateOf cX2_stateOf 2 (some .int) ∈ zWd := zWd_mem (zm4 (List.mem_of_getElem? (i := 146) rfl)) (by decide +kernel)
theorem kw_92 : Cond.instanceMethod ⟨"ArcheryField$Line", "stateOf", "(I)I"⟩ ∈ zWd := zWd_mem (zm4 (List.mem_of_getElem? (i := 144) rfl)) (by decide +kernel)
theorem kw_93 : Cond.selects "ArcheryField$Line" ⟨"ArcheryField$Line", "stateOf", "(I)I"⟩ ⟨"ArcheryField$Line", "stateOf", "(I)I"⟩ ∈ zWd := zWd_mem (zm4 (List.mem_of_getElem? (i := 145) rfl)) (by decide +kernel)
theorem kw_94 : Cond.fieldLink "ArcheryField$State" 17 "ArcheryField$State" "archers" "[LArcheryField$Archer;" ∈ zWd := zWd_mem (zm1 (List.mem_of_getElem? (i := 186) rfl)) (by decide +kernel)
theorem kw_95 : Cond.methodLink "ArcheryField$Planner" 46 ⟨"ArcheryField$State", "find", "(I)LArcheryField$Archer;"⟩ ∈ zWd := zWd_mem (zm4 (List.mem_of_getElem? (i := 74) rfl)) (by decide +kernel)
theorem kw_96 : Cond.code yX9_find cX9_find 2 (some (.object "ArcheryField$Archer")) ∈ zWd := zWd_mem (zm3 (List.mem_of_getElem? (i := 33) rfl)) (by decide +kernel)
theorem kw_97 : Cond.instanceMethod ⟨"ArcheryField$State", "find", "(I)LArcheryField$Archer;"⟩ ∈ zWd := zWd_mem (zm3 (List.mem_of_getElem? (i := 31) rfl)) (by decide +kernel)
theorem kw_98 : Cond.selects "ArcheryField$State" ⟨"ArcheryField$State", "find", "(I)LArcheryField$Archer;"⟩ ⟨"ArcheryField$State", "find", "(I)LArcheryField$Archer;"⟩ ∈ zWd := zWd_mem (zm3 (List.mem_of_getElem? (i := 32) rfl)) (by decide +kernel)
theorem kw_99 : Cond.initialized "ArcheryField$State" ∈ zWd := zWd_mem (zm1 (List.mem_of_getElem? (i := 6) rfl)) (by decide +kernel)
theorem kw_100 : Cond.fieldLink "ArcheryField$Planner" 9 "ArcheryField$Planner" "numbers" "[I" ∈ zWd := zWd_mem (zm4 (List.mem_of_getElem? (i := 75) rfl)) (by decide +kernel)
theorem kw_101 : Cond.fieldLink "ArcheryField$Planner" 21 "ArcheryField$Planner" "archers" "I" ∈ zWd := zWd_mem (zm4 (List.mem_of_getElem? (i := 78) rfl)) (by decide +kernel)
theorem kw_102 : Cond.fieldLink "ArcheryField$Planner" 15 "ArcheryField$Planner" "clubs" "[I" ∈ zWd := zWd_mem (zm4 (List.mem_of_getElem? (i := 76) rfl)) (by decide +kernel)
theorem kw_103 : Cond.fieldLinkNest "ArcheryField$Planner" 52 "ArcheryField$Archer" "club" "I" "ArcheryField" ∈ zNw := zNw_mem (zm2 (List.mem_of_getElem? (i := 198) rfl)) rfl
theorem kw_104 : Cond.methodLink "ArcheryField$Planner" 3 ⟨"java/lang/Object", "<init>", "()V"⟩ ∈ zWd := zWd_mem (zm4 (List.mem_of_getElem? (i := 71) rfl)) (by decide +kernel)
theorem kw_105 : Cond.fieldLink "ArcheryField$Planner" 18 "ArcheryField$Planner" "placed" "[I" ∈ zWd := zWd_mem (zm4 (List.mem_of_getElem? (i := 77) rfl)) (by decide +kernel)
theorem kw_106 : Cond.fieldLink "ArcheryField$Planner" 25 "ArcheryField$Planner" "tries" "I" ∈ zWd := zWd_mem (zm4 (List.mem_of_getElem? (i := 82) rfl)) (by decide +kernel)
theorem kw_107 : Cond.methodLink "ArcheryField$Planner" 28 ⟨"java/lang/Math", "max", "(II)I"⟩ ∈ zWd := zWd_mem (zm4 (List.mem_of_getElem? (i := 72) rfl)) (by decide +kernel)
theorem kw_108 : Cond.static ⟨"java/lang/Math", "max", "(II)I"⟩ ∈ zWd := zWd_mem (zm3 (List.mem_of_getElem? (i := 125) rfl)) (by decide +kernel)
theorem kw_109 : Cond.code Lib.Math.max.name Lib.Math.max.code 2 (some .int) ∈ zWd := zWd_mem (zm3 (List.mem_of_getElem? (i := 126) rfl)) (by decide +kernel)
theorem kw_110 : Cond.fieldLink "ArcheryField$Planner" 34 "ArcheryField$Planner" "seats" "[I" ∈ zWd := zWd_mem (zm4 (List.mem_of_getElem? (i := 79) rfl)) (by decide +kernel)
theorem kw_111 : Cond.fieldLink "ArcheryField$Planner" 37 "ArcheryField$Planner" "seatClubs" "[I" ∈ zWd := zWd_mem (zm4 (List.mem_of_getElem? (i := 81) rfl)) (by decide +kernel)
theorem kw_112 : Cond.methodLink "ArcheryField$Planner" 40 ⟨"java/util/Arrays", "fill", "([II)V"⟩ ∈ zWd := zWd_mem (zm4 (List.mem_of_getElem? (i := 73) rfl)) (by decide +kernel)
theorem kw_113 : Cond.methodLink "ArcheryField$Planner" 73 ⟨"ArcheryField$Planner", "clubOn", "(I)I"⟩ ∈ zWd := zWd_mem (zm4 (List.mem_of_getElem? (i := 111) rfl)) (by decide +kernel)
theorem kw_114 : Cond.code yX3_clubOn cX3_clubOn 2 (some .int) ∈ zWd := zWd_mem (zm4 (List.mem_of_getElem? (i := 114) rfl)) (by decide +kernel)
theorem kw_115 : Cond.instanceMethod ⟨"ArcheryField$Planner", "clubOn", "(I)I"⟩ ∈ zWd := zWd_mem (zm4 (List.mem_of_getElem? (i := 113) rfl)) (by decide +kernel)
theorem kw_116 : Cond.selects "ArcheryField$Planner" ⟨"ArcheryField$Planner", "clubOn", "(I)I"⟩ ⟨"ArcheryField$Planner", "clubOn", "(I)I"⟩ ∈ zWd := zWd_mem (zm0 (List.mem_of_getElem? (i := 18) rfl)) (by decide +kernel)
theorem kw_117 : Cond.initialized "ArcheryField$Planner" ∈ zWd := zWd_mem (zm1 (List.mem_of_getElem? (i := 21) rfl)) (by decide +kernel)
theorem kw_118 : Cond.methodLink "ArcheryField$Planner" 69 ⟨"ArcheryField$Planner", "isParted", "(II)Z"⟩ ∈ zWd := zWd_mem (zm4 (List.mem_of_getElem? (i := 107) rfl)) (by decide +kernel)
theorem kw_119 : Cond.code yX3_isParted cX3_isParted 3 (some .boolean) ∈ zWd := zWd_mem (zm4 (List.mem_of_getElem? (i := 110) rfl)) (by decide +kernel)
theorem kw_120 : Cond.instanceMethod ⟨"ArcheryField$Planner", "isParted", "(II)Z"⟩ ∈ zWd := zWd_mem (zm4 (List.mem_of_getElem? (i := 109) rfl)) (by decide +kernel)
theorem kw_121 : Cond.selects "ArcheryField$Planner" ⟨"ArcheryField$Planner", "isParted", "(II)Z"⟩ ⟨"ArcheryField$Planner", "isParted", "(II)Z"⟩ ∈ zWd := zWd_mem (zm0 (List.mem_of_getElem? (i := 17) rfl)) (by decide +kernel)
theorem kw_122 : Cond.constant "ArcheryField$Planner" 57 1000000 ∈ zWd := zWd_mem (zm4 (List.mem_of_getElem? (i := 102) rfl)) (by decide +kernel)
theorem kw_123 : Cond.methodLink "ArcheryField$Planner" 58 ⟨"ArcheryField$Planner", "nextPlace", "(II)I"⟩ ∈ zWd := zWd_mem (zm4 (List.mem_of_getElem? (i := 103) rfl)) (by decide +kernel)
theorem kw_124 : Cond.code yX3_nextPlace cX3_nextPlace 4 (some .int) ∈ zWd := zWd_mem (zm4 (List.mem_of_getElem? (i := 106) rfl)) (by decide +kernel)
theorem kw_125 : Cond.instanceMethod ⟨"ArcheryField$Planner", "nextPlace", "(II)I"⟩ ∈ zWd := zWd_mem (zm4 (List.mem_of_getElem? (i := 105) rfl)) (by decide +kernel)
theorem kw_126 : Cond.selects "ArcheryField$Planner" ⟨"ArcheryField$Planner", "nextPlace", "(II)I"⟩ ⟨"ArcheryField$Planner", "nextPlace", "(II)I"⟩ ∈ zWd := zWd_mem (zm0 (List.mem_of_getElem? (i := 16) rfl)) (by decide +kernel)
theorem kw_127 : Cond.methodLink "ArcheryField$Planner" 65 ⟨"ArcheryField$Planner", "lift", "(I)V"⟩ ∈ zWd := zWd_mem (zm4 (List.mem_of_getElem? (i := 119) rfl)) (by decide +kernel)
theorem kw_128 : Cond.code yX3_lift cX3_lift 2 none ∈ zWd := zWd_mem (zm4 (List.mem_of_getElem? (i := 122) rfl)) (by decide +kernel)
theorem kw_129 : Cond.instanceMethod ⟨"ArcheryField$Planner", "lift", "(I)V"⟩ ∈ zWd := zWd_mem (zm4 (List.mem_of_getElem? (i := 121) rfl)) (by decide +kernel)
theorem kw_130 : Cond.selects "ArcheryField$Planner" ⟨"ArcheryField$Planner", "lift", "(I)V"⟩ ⟨"ArcheryField$Planner", "lift", "(I)V"⟩ ∈ zWd := zWd_mem (zm0 (List.mem_of_getElem? (i := 20) rfl)) (by decide +kernel)
theorem kw_131 : Cond.methodLink "ArcheryField$Planner" 61 ⟨"ArcheryField$Planner", "put", "(II)V"⟩ ∈ zWd := zWd_mem (zm4 (List.mem_of_getElem? (i := 115) rfl)) (by decide +kernel)
theorem kw_132 : Cond.code yX3_put cX3_put 3 none ∈ zWd := zWd_mem (zm4 (List.mem_of_getElem? (i := 118) rfl)) (by decide +kernel)
theorem kw_133 : Cond.instanceMethod ⟨"ArcheryField$Planner", "put", "(II)V"⟩ ∈ zWd := zWd_mem (zm4 (List.mem_of_getElem? (i := 117) rfl)) (by decide +kernel)
theorem kw_134 : Cond.selects "ArcheryField$Planner" ⟨"ArcheryField$Planner", "put", "(II)V"⟩ ⟨"ArcheryField$Planner", "put", "(II)V"⟩ ∈ zWd := zWd_mem (zm0 (List.mem_of_getElem? (i := 19) rfl)) (by decide +kernel)
theorem kw_135 : Cond.methodLink "ArcheryField$Quiver" 3 ⟨"java/lang/Object", "<init>", "()V"⟩ ∈ zWd := zWd_mem (zm1 (List.mem_of_getElem? (i := 124) rfl)) (by decide +kernel)
theorem kw_136 : Cond.fieldLink "ArcheryField$Quiver" 11 "ArcheryField$Quiver" "kinds" "[I" ∈ zWd := zWd_mem (zm1 (List.mem_of_getElem? (i := 125) rfl)) (by decide +kernel)
theorem kw_137 : Cond.fieldLink "ArcheryField$Quiver" 15 "ArcheryField$Quiver" "xs" "[I" ∈ zWd := zWd_mem (zm1 (List.mem_of_getElem? (i := 126) rfl)) (by decide +kernel)
theorem kw_138 : Cond.fieldLink "ArcheryField$Quiver" 18 "ArcheryField$Quiver" "ys" "[I" ∈ zWd := zWd_mem (zm1 (List.mem_of_getElem? (i := 127) rfl)) (by decide +kernel)
theorem kw_139 : Cond.fieldLink "ArcheryField$Quiver" 21 "ArcheryField$Quiver" "count" "I" ∈ zWd := zWd_mem (zm1 (List.mem_of_getElem? (i := 128) rfl)) (by decide +kernel)
theorem kw_140 : Cond.fieldLink "ArcheryField$Quiver" 25 "ArcheryField$Quiver" "judged" "[I" ∈ zWd := zWd_mem (zm1 (List.mem_of_getElem? (i := 130) rfl)) (by decide +kernel)
theorem kw_141 : Cond.methodLinkNest "ArcheryField$Quiver" 32 ⟨"ArcheryField", "isOnField", "(II)Z"⟩ "ArcheryField" ∈ zNw := zNw_mem (zm3 (List.mem_of_getElem? (i := 84) rfl)) rfl
theorem kw_142 : Cond.code yX11_isOnField cX11_isOnField 2 (some .boolean) ∈ zWd := zWd_mem (zm3 (List.mem_of_getElem? (i := 86) rfl)) (by decide +kernel)
theorem kw_143 : Cond.static ⟨"ArcheryField", "isOnField", "(II)Z"⟩ ∈ zWd := zWd_mem (zm3 (List.mem_of_getElem? (i := 85) rfl)) (by decide +kernel)
theorem kw_144 : Cond.initialized "ArcheryField" ∈ zWd := zWd_mem (zm1 (List.mem_of_getElem? (i := 1) rfl)) (by decide +kernel)
theorem kw_145 : Cond.methodLink "ArcheryField$Quiver" 28 ⟨"ArcheryField$Quiver", "canBe", "(III)Z"⟩ ∈ zWd := zWd_mem (zm3 (List.mem_of_getElem? (i := 81) rfl)) (by decide +kernel)
theorem kw_146 : Cond.code yX4_canBe cX4_canBe 3 (some .boolean) ∈ zWd := zWd_mem (zm3 (List.mem_of_getElem? (i := 83) rfl)) (by decide +kernel)
theorem kw_147 : Cond.static ⟨"ArcheryField$Quiver", "canBe", "(III)Z"⟩ ∈ zWd := zWd_mem (zm3 (List.mem_of_getElem? (i := 82) rfl)) (by decide +kernel)
theorem kw_148 : Cond.initialized "ArcheryField$Quiver" ∈ zWd := zWd_mem (zm1 (List.mem_of_getElem? (i := 5) rfl)) (by decide +kernel)
theorem kw_149 : Cond.fieldLink "ArcheryField$Round" 43 "ArcheryField$Round" "settings" "[I" ∈ zWd := zWd_mem (zm1 (List.mem_of_getElem? (i := 69) rfl)) (by decide +kernel)
theorem kw_150 : Cond.methodLink "ArcheryField$Round" 50 ⟨"ArcheryField$Round", "isSet", "(I)Z"⟩ ∈ zWd := zWd_mem (zm2 (List.mem_of_getElem? (i := 236) rfl)) (by decide +kernel)
theorem kw_151 : Cond.code yX6_isSet cX6_isSet 2 (some .boolean) ∈ zWd := zWd_mem (zm2 (List.mem_of_getElem? (i := 143) rfl)) (by decide +kernel)
theorem kw_152 : Cond.instanceMethod ⟨"ArcheryField$Round", "isSet", "(I)Z"⟩ ∈ zWd := zWd_mem (zm2 (List.mem_of_getElem? (i := 141) rfl)) (by decide +kernel)
theorem kw_153 : Cond.selects "ArcheryField$Round" ⟨"ArcheryField$Round", "isSet", "(I)Z"⟩ ⟨"ArcheryField$Round", "isSet", "(I)Z"⟩ ∈ zWd := zWd_mem (zm2 (List.mem_of_getElem? (i := 142) rfl)) (by decide +kernel)
theorem kw_154 : Cond.initialized "ArcheryField$Round" ∈ zWd := zWd_mem (zm1 (List.mem_of_getElem? (i := 4) rfl)) (by decide +kernel)
theorem kw_155 : Cond.fieldLink "ArcheryField$Round" 15 "ArcheryField$Round" "lines" "[I" ∈ zWd := zWd_mem (zm1 (List.mem_of_getElem? (i := 59) rfl)) (by decide +kernel)
theorem kw_156 : Cond.fieldLink "ArcheryField$Round" 19 "ArcheryField$Round" "radii" "[I" ∈ zWd := zWd_mem (zm1 (List.mem_of_getElem? (i := 60) rfl)) (by decide +kernel)
theorem kw_157 : Cond.methodLink "ArcheryField$Round" 61 ⟨"ArcheryField$Round", "setting", "(I)I"⟩ ∈ zWd := zWd_mem (zm2 (List.mem_of_getElem? (i := 232) rfl)) (by decide +kernel)
theorem kw_158 : Cond.code yX6_setting cX6_setting 2 (some .int) ∈ zWd := zWd_mem (zm2 (List.mem_of_getElem? (i := 235) rfl)) (by decide +kernel)
theorem kw_159 : Cond.instanceMethod ⟨"ArcheryField$Round", "setting", "(I)I"⟩ ∈ zWd := zWd_mem (zm2 (List.mem_of_getElem? (i := 233) rfl)) (by decide +kernel)
theorem kw_160 : Cond.selects "ArcheryField$Round" ⟨"ArcheryField$Round", "setting", "(I)I"⟩ ⟨"ArcheryField$Round", "setting", "(I)I"⟩ ∈ zWd := zWd_mem (zm2 (List.mem_of_getElem? (i := 234) rfl)) (by decide +kernel)
theorem kw_161 : Cond.fieldLink "ArcheryField$Round" 22 "ArcheryField$Round" "values" "[I" ∈ zWd := zWd_mem (zm1 (List.mem_of_getElem? (i := 61) rfl)) (by decide +kernel)
theorem kw_162 : Cond.fieldLink "ArcheryField$Round" 9 "ArcheryField$Round" "faces" "I" ∈ zWd := zWd_mem (zm1 (List.mem_of_getElem? (i := 58) rfl)) (by decide +kernel)
theorem kw_163 : Cond.fieldLink "ArcheryField$Round" 25 "ArcheryField$Round" "legs" "I" ∈ zWd := zWd_mem (zm1 (List.mem_of_getElem? (i := 62) rfl)) (by decide +kernel)
theorem kw_164 : Cond.fieldLink "ArcheryField$Round" 34 "ArcheryField$Round" "legFaces" "[I" ∈ zWd := zWd_mem (zm1 (List.mem_of_getElem? (i := 66) rfl)) (by decide +kernel)
theorem kw_165 : Cond.methodLink "ArcheryField$Quiver" 40 ⟨"ArcheryField$Round", "valueAt", "(III)I"⟩ ∈ zWd := zWd_mem (zm3 (List.mem_of_getElem? (i := 111) rfl)) (by decide +kernel)
theorem kw_166 : Cond.code yX6_valueAt cX6_valueAt 9 (some .int) ∈ zWd := zWd_mem (zm3 (List.mem_of_getElem? (i := 114) rfl)) (by decide +kernel)
theorem kw_167 : Cond.instanceMethod ⟨"ArcheryField$Round", "valueAt", "(III)I"⟩ ∈ zWd := zWd_mem (zm3 (List.mem_of_getElem? (i := 112) rfl)) (by decide +kernel)
theorem kw_168 : Cond.selects "ArcheryField$Round" ⟨"ArcheryField$Round", "valueAt", "(III)I"⟩ ⟨"ArcheryField$Round", "valueAt", "(III)I"⟩ ∈ zWd := zWd_mem (zm3 (List.mem_of_getElem? (i := 113) rfl)) (by decide +kernel)
theorem kw_169 : Cond.methodLink "ArcheryField$Quiver" 46 ⟨"ArcheryField$Round", "setting", "(I)I"⟩ ∈ zWd := zWd_mem (zm3 (List.mem_of_getElem? (i := 115) rfl)) (by decide +kernel)
theorem kw_170 : Cond.methodLink "ArcheryField$Quiver" 50 ⟨"ArcheryField$Quiver", "judgeIn", "(II)I"⟩ ∈ zWd := zWd_mem (zm3 (List.mem_of_getElem? (i := 116) rfl)) (by decide +kernel)
theorem kw_171 : Cond.code yX4_judgeIn cX4_judgeIn 3 (some .int) ∈ zWd := zWd_mem (zm3 (List.mem_of_getElem? (i := 119) rfl)) (by decide +kernel)
theorem kw_172 : Cond.instanceMethod ⟨"ArcheryField$Quiver", "judgeIn", "(II)I"⟩ ∈ zWd := zWd_mem (zm3 (List.mem_of_getElem? (i := 118) rfl)) (by decide +kernel)
theorem kw_173 : Cond.selects "ArcheryField$Quiver" ⟨"ArcheryField$Quiver", "judgeIn", "(II)I"⟩ ⟨"ArcheryField$Quiver", "judgeIn", "(II)I"⟩ ∈ zWd := zWd_mem (zm0 (List.mem_of_getElem? (i := 14) rfl)) (by decide +kernel)
theorem kw_174 : Cond.methodLink "ArcheryField$Quiver" 36 ⟨"ArcheryField$Quiver", "judgeOne", "(LArcheryField$Round;II)I"⟩ ∈ zWd := zWd_mem (zm3 (List.mem_of_getElem? (i := 107) rfl)) (by decide +kernel)
theorem kw_175 : Cond.code yX4_judgeOne cX4_judgeOne 4 (some .int) ∈ zWd := zWd_mem (zm3 (List.mem_of_getElem? (i := 110) rfl)) (by decide +kernel)
theorem kw_176 : Cond.instanceMethod ⟨"ArcheryField$Quiver", "judgeOne", "(LArcheryField$Round;II)I"⟩ ∈ zWd := zWd_mem (zm3 (List.mem_of_getElem? (i := 109) rfl)) (by decide +kernel)
theorem kw_177 : Cond.selects "ArcheryField$Quiver" ⟨"ArcheryField$Quiver", "judgeOne", "(LArcheryField$Round;II)I"⟩ ⟨"ArcheryField$Quiver", "judgeOne", "(LArcheryField$Round;II)I"⟩ ∈ zWd := zWd_mem (zm0 (List.mem_of_getElem? (i := 13) rfl)) (by decide +kernel)
theorem kw_178 : Cond.methodLink "ArcheryField$Tape" 3 ⟨"java/lang/Object", "<init>", "()V"⟩ ∈ zWd := zWd_mem (zm1 (List.mem_of_getElem? (i := 41) rfl)) (by decide +kernel)
theorem kw_179 : Cond.arrayClass Jvm.ClassFile.FieldType.byte ∈ zWd := zWd_mem (zm1 (List.mem_of_getElem? (i := 51) rfl)) (by decide +kernel)
theorem kw_180 : Cond.fieldLink "ArcheryField$Tape" 11 "ArcheryField$Tape" "bytes" "[B" ∈ zWd := zWd_mem (zm1 (List.mem_of_getElem? (i := 42) rfl)) (by decide +kernel)
theorem kw_181 : Cond.fieldLink "ArcheryField$Tape" 15 "ArcheryField$Tape" "length" "I" ∈ zWd := zWd_mem (zm1 (List.mem_of_getElem? (i := 43) rfl)) (by decide +kernel)
theorem kw_182 : Cond.methodLink "ArcheryField$Round" 3 ⟨"java/lang/Object", "<init>", "()V"⟩ ∈ zWd := zWd_mem (zm1 (List.mem_of_getElem? (i := 57) rfl)) (by decide +kernel)
theorem kw_183 : Cond.fieldLink "ArcheryField$Round" 28 "ArcheryField$Round" "legEnds" "[I" ∈ zWd := zWd_mem (zm1 (List.mem_of_getElem? (i := 64) rfl)) (by decide +kernel)
theorem kw_184 : Cond.fieldLink "ArcheryField$Round" 31 "ArcheryField$Round" "legArrows" "[I" ∈ zWd := zWd_mem (zm1 (List.mem_of_getElem? (i := 65) rfl)) (by decide +kernel)
theorem kw_185 : Cond.fieldLink "ArcheryField$Round" 37 "ArcheryField$Round" "ties" "I" ∈ zWd := zWd_mem (zm1 (List.mem_of_getElem? (i := 67) rfl)) (by decide +kernel)
theorem kw_186 : Cond.fieldLink "ArcheryField$Round" 40 "ArcheryField$Round" "tieKinds" "[I" ∈ zWd := zWd_mem (zm1 (List.mem_of_getElem? (i := 68) rfl)) (by decide +kernel)
theorem kw_187 : Cond.methodLink "ArcheryField$Reader" 3 ⟨"java/lang/Object", "<init>", "()V"⟩ ∈ zWd := zWd_mem (zm1 (List.mem_of_getElem? (i := 35) rfl)) (by decide +kernel)
theorem kw_188 : Cond.classLink "ArcheryField$Reader" 9 "ArcheryField$Tape" ∈ zWd := zWd_mem (zm1 (List.mem_of_getElem? (i := 36) rfl)) (by decide +kernel)
theorem kw_189 : Cond.instantiable "ArcheryField$Tape" 2 ∈ zWd := zWd_mem (zm1 (List.mem_of_getElem? (i := 37) rfl)) (by decide +kernel)
theorem kw_190 : Cond.initialized "ArcheryField$Tape" ∈ zWd := zWd_mem (zm1 (List.mem_of_getElem? (i := 3) rfl)) (by decide +kernel)
theorem kw_191 : Cond.methodLinkNest "ArcheryField$Reader" 11 ⟨"ArcheryField$Tape", "<init>", "()V"⟩ "ArcheryField" ∈ zNw := zNw_mem (zm1 (List.mem_of_getElem? (i := 38) rfl)) rfl
theorem kw_192 : Cond.code yX10_init cX10_init 1 none ∈ zWd := zWd_mem (zm1 (List.mem_of_getElem? (i := 40) rfl)) (by decide +kernel)
theorem kw_193 : Cond.instanceMethod ⟨"ArcheryField$Tape", "<init>", "()V"⟩ ∈ zWd := zWd_mem (zm1 (List.mem_of_getElem? (i := 39) rfl)) (by decide +kernel)
theorem kw_194 : Cond.fieldLink "ArcheryField$Reader" 12 "ArcheryField$Reader" "tape" "LArcheryField$Tape;" ∈ zWd := zWd_mem (zm1 (List.mem_of_getElem? (i := 94) rfl)) (by decide +kernel)
theorem kw_195 : Cond.classLink "ArcheryField$Reader" 18 "ArcheryField$Round" ∈ zWd := zWd_mem (zm1 (List.mem_of_getElem? (i := 52) rfl)) (by decide +kernel)
theorem kw_196 : Cond.instantiable "ArcheryField$Round" 11 ∈ zWd := zWd_mem (zm1 (List.mem_of_getElem? (i := 53) rfl)) (by decide +kernel)
theorem kw_197 : Cond.methodLinkNest "ArcheryField$Reader" 20 ⟨"ArcheryField$Round", "<init>", "()V"⟩ "ArcheryField" ∈ zNw := zNw_mem (zm1 (List.mem_of_getElem? (i := 54) rfl)) rfl
theorem kw_198 : Cond.code yX6_init cX6_init 1 none ∈ zWd := zWd_mem (zm1 (List.mem_of_getElem? (i := 56) rfl)) (by decide +kernel)
theorem kw_199 : Cond.instanceMethod ⟨"ArcheryField$Round", "<init>", "()V"⟩ ∈ zWd := zWd_mem (zm1 (List.mem_of_getElem? (i := 55) rfl)) (by decide +kernel)
theorem kw_200 : Cond.fieldLink "ArcheryField$Reader" 21 "ArcheryField$Reader" "draft" "LArcheryField$Round;" ∈ zWd := zWd_mem (zm1 (List.mem_of_getElem? (i := 96) rfl)) (by decide +kernel)
theorem kw_201 : Cond.fieldLink "ArcheryField$Reader" 25 "ArcheryField$Reader" "at" "I" ∈ zWd := zWd_mem (zm1 (List.mem_of_getElem? (i := 97) rfl)) (by decide +kernel)
theorem kw_202 : Cond.fieldLink "ArcheryField$Reader" 29 "ArcheryField$Reader" "number" "I" ∈ zWd := zWd_mem (zm1 (List.mem_of_getElem? (i := 98) rfl)) (by decide +kernel)
theorem kw_203 : Cond.fieldLink "ArcheryField$Reader" 32 "ArcheryField$Reader" "numberPlace" "I" ∈ zWd := zWd_mem (zm1 (List.mem_of_getElem? (i := 99) rfl)) (by decide +kernel)
theorem kw_204 : Cond.fieldLink "ArcheryField$Reader" 35 "ArcheryField$Reader" "fault" "I" ∈ zWd := zWd_mem (zm1 (List.mem_of_getElem? (i := 100) rfl)) (by decide +kernel)
theorem kw_205 : Cond.fieldLink "ArcheryField$Reader" 38 "ArcheryField$Reader" "place" "I" ∈ zWd := zWd_mem (zm1 (List.mem_of_getElem? (i := 102) rfl)) (by decide +kernel)
theorem kw_206 : Cond.fieldLink "ArcheryField$Reader" 44 "ArcheryField$Tape" "length" "I" ∈ zWd := zWd_mem (zm1 (List.mem_of_getElem? (i := 45) rfl)) (by decide +kernel)
theorem kw_207 : Cond.methodLink "ArcheryField$Reader" 130 ⟨"ArcheryField$Tape", "signAt", "(I)I"⟩ ∈ zWd := zWd_mem (zm2 (List.mem_of_getElem? (i := 7) rfl)) (by decide +kernel)
theorem kw_208 : Cond.code yX10_signAt cX10_signAt 2 (some .int) ∈ zWd := zWd_mem (zm2 (List.mem_of_getElem? (i := 10) rfl)) (by decide +kernel)
theorem kw_209 : Cond.instanceMethod ⟨"ArcheryField$Tape", "signAt", "(I)I"⟩ ∈ zWd := zWd_mem (zm2 (List.mem_of_getElem? (i := 8) rfl)) (by decide +kernel)
theorem kw_210 : Cond.selects "ArcheryField$Tape" ⟨"ArcheryField$Tape", "signAt", "(I)I"⟩ ⟨"ArcheryField$Tape", "signAt", "(I)I"⟩ ∈ zWd := zWd_mem (zm2 (List.mem_of_getElem? (i := 9) rfl)) (by decide +kernel)
theorem kw_211 : Cond.methodLink "ArcheryField$Reader" 137 ⟨"ArcheryField$Reader", "isBlank", "(I)Z"⟩ ∈ zWd := zWd_mem (zm2 (List.mem_of_getElem? (i := 11) rfl)) (by decide +kernel)
theorem kw_212 : Cond.code yX5_isBlank cX5_isBlank 1 (some .boolean) ∈ zWd := zWd_mem (zm2 (List.mem_of_getElem? (i := 13) rfl)) (by decide +kernel)
theorem kw_213 : Cond.static ⟨"ArcheryField$Reader", "isBlank", "(I)Z"⟩ ∈ zWd := zWd_mem (zm2 (List.mem_of_getElem? (i := 12) rfl)) (by decide +kernel)
theorem kw_214 : Cond.initialized "ArcheryField$Reader" ∈ zWd := zWd_mem (zm1 (List.mem_of_getElem? (i := 2) rfl)) (by decide +kernel)
theorem kw_215 : Cond.methodLink "ArcheryField$Reader" 140 ⟨"ArcheryField$Reader", "isLetter", "(I)Z"⟩ ∈ zWd := zWd_mem (zm2 (List.mem_of_getElem? (i := 22) rfl)) (by decide +kernel)
theorem kw_216 : Cond.code yX5_isLetter cX5_isLetter 1 (some .boolean) ∈ zWd := zWd_mem (zm2 (List.mem_of_getElem? (i := 24) rfl)) (by decide +kernel)
theorem kw_217 : Cond.static ⟨"ArcheryField$Reader", "isLetter", "(I)Z"⟩ ∈ zWd := zWd_mem (zm2 (List.mem_of_getElem? (i := 23) rfl)) (by decide +kernel)
theorem kw_218 : Cond.methodLink "ArcheryField$Reader" 143 ⟨"java/lang/String", "length", "()I"⟩ ∈ zWd := zWd_mem (zm2 (List.mem_of_getElem? (i := 30) rfl)) (by decide +kernel)
theorem kw_219 : Cond.methodLink "ArcheryField$Reader" 148 ⟨"java/lang/String", "charAt", "(I)C"⟩ ∈ zWd := zWd_mem (zm2 (List.mem_of_getElem? (i := 40) rfl)) (by decide +kernel)
theorem kw_220 : Cond.methodLink "ArcheryField$Reader" 41 ⟨"ArcheryField$Reader", "skipBlanks", "()V"⟩ ∈ zWd := zWd_mem (zm2 (List.mem_of_getElem? (i := 3) rfl)) (by decide +kernel)
theorem kw_221 : Cond.code yX5_skipBlanks cX5_skipBlanks 1 none ∈ zWd := zWd_mem (zm2 (List.mem_of_getElem? (i := 6) rfl)) (by decide +kernel)
theorem kw_222 : Cond.instanceMethod ⟨"ArcheryField$Reader", "skipBlanks", "()V"⟩ ∈ zWd := zWd_mem (zm2 (List.mem_of_getElem? (i := 5) rfl)) (by decide +kernel)
theorem kw_223 : Cond.selects "ArcheryField$Reader" ⟨"ArcheryField$Reader", "skipBlanks", "()V"⟩ ⟨"ArcheryField$Reader", "skipBlanks", "()V"⟩ ∈ zWd := zWd_mem (zm0 (List.mem_of_getElem? (i := 0) rfl)) (by decide +kernel)
theorem kw_224 : Cond.methodLink "ArcheryField$Reader" 134 ⟨"ArcheryField$Reader", "isDigit", "(I)Z"⟩ ∈ zWd := zWd_mem (zm2 (List.mem_of_getElem? (i := 94) rfl)) (by decide +kernel)
theorem kw_225 : Cond.code yX5_isDigit cX5_isDigit 1 (some .boolean) ∈ zWd := zWd_mem (zm2 (List.mem_of_getElem? (i := 96) rfl)) (by decide +kernel)
theorem kw_226 : Cond.static ⟨"ArcheryField$Reader", "isDigit", "(I)Z"⟩ ∈ zWd := zWd_mem (zm2 (List.mem_of_getElem? (i := 95) rfl)) (by decide +kernel)
theorem kw_227 : Cond.methodLink "ArcheryField$Reader" 58 ⟨"ArcheryField$Reader", "refuse", "(II)Z"⟩ ∈ zWd := zWd_mem (zm2 (List.mem_of_getElem? (i := 86) rfl)) (by decide +kernel)
theorem kw_228 : Cond.code yX5_refuse cX5_refuse 3 (some .boolean) ∈ zWd := zWd_mem (zm2 (List.mem_of_getElem? (i := 89) rfl)) (by decide +kernel)
theorem kw_229 : Cond.instanceMethod ⟨"ArcheryField$Reader", "refuse", "(II)Z"⟩ ∈ zWd := zWd_mem (zm2 (List.mem_of_getElem? (i := 88) rfl)) (by decide +kernel)
theorem kw_230 : Cond.selects "ArcheryField$Reader" ⟨"ArcheryField$Reader", "refuse", "(II)Z"⟩ ⟨"ArcheryField$Reader", "refuse", "(II)Z"⟩ ∈ zWd := zWd_mem (zm0 (List.mem_of_getElem? (i := 5) rfl)) (by decide +kernel)
theorem kw_231 : Cond.methodLink "ArcheryField$Reader" 85 ⟨"ArcheryField$Reader", "readNumber", "(II)Z"⟩ ∈ zWd := zWd_mem (zm2 (List.mem_of_getElem? (i := 97) rfl)) (by decide +kernel)
theorem kw_232 : Cond.code yX5_readNumber cX5_readNumber 3 (some .boolean) ∈ zWd := zWd_mem (zm2 (List.mem_of_getElem? (i := 100) rfl)) (by decide +kernel)
theorem kw_233 : Cond.instanceMethod ⟨"ArcheryField$Reader", "readNumber", "(II)Z"⟩ ∈ zWd := zWd_mem (zm2 (List.mem_of_getElem? (i := 99) rfl)) (by decide +kernel)
theorem kw_234 : Cond.selects "ArcheryField$Reader" ⟨"ArcheryField$Reader", "readNumber", "(II)Z"⟩ ⟨"ArcheryField$Reader", "readNumber", "(II)Z"⟩ ∈ zWd := zWd_mem (zm0 (List.mem_of_getElem? (i := 7) rfl)) (by decide +kernel)
theorem kw_235 : Cond.methodLink "ArcheryField$Reader" 51 ⟨"ArcheryField$Reader", "readSign", "(C)Z"⟩ ∈ zWd := zWd_mem (zm2 (List.mem_of_getElem? (i := 101) rfl)) (by decide +kernel)
theorem kw_236 : Cond.code yX5_readSign cX5_readSign 2 (some .boolean) ∈ zWd := zWd_mem (zm2 (List.mem_of_getElem? (i := 104) rfl)) (by decide +kernel)
theorem kw_237 : Cond.instanceMethod ⟨"ArcheryField$Reader", "readSign", "(C)Z"⟩ ∈ zWd := zWd_mem (zm2 (List.mem_of_getElem? (i := 103) rfl)) (by decide +kernel)
theorem kw_238 : Cond.selects "ArcheryField$Reader" ⟨"ArcheryField$Reader", "readSign", "(C)Z"⟩ ⟨"ArcheryField$Reader", "readSign", "(C)Z"⟩ ∈ zWd := zWd_mem (zm0 (List.mem_of_getElem? (i := 8) rfl)) (by decide +kernel)
theorem kw_239 : Cond.methodLink "ArcheryField$Reader" 111 ⟨"ArcheryField$Round", "addLine", "(II)V"⟩ ∈ zWd := zWd_mem (zm2 (List.mem_of_getElem? (i := 105) rfl)) (by decide +kernel)
theorem kw_240 : Cond.code yX6_addLine cX6_addLine 5 none ∈ zWd := zWd_mem (zm2 (List.mem_of_getElem? (i := 108) rfl)) (by decide +kernel)
theorem kw_241 : Cond.instanceMethod ⟨"ArcheryField$Round", "addLine", "(II)V"⟩ ∈ zWd := zWd_mem (zm2 (List.mem_of_getElem? (i := 106) rfl)) (by decide +kernel)
theorem kw_242 : Cond.selects "ArcheryField$Round" ⟨"ArcheryField$Round", "addLine", "(II)V"⟩ ⟨"ArcheryField$Round", "addLine", "(II)V"⟩ ∈ zWd := zWd_mem (zm2 (List.mem_of_getElem? (i := 107) rfl)) (by decide +kernel)
theorem kw_243 : Cond.methodLink "ArcheryField$Reader" 108 ⟨"ArcheryField$Reader", "isDigitNext", "()Z"⟩ ∈ zWd := zWd_mem (zm2 (List.mem_of_getElem? (i := 90) rfl)) (by decide +kernel)
theorem kw_244 : Cond.code yX5_isDigitNext cX5_isDigitNext 1 (some .boolean) ∈ zWd := zWd_mem (zm2 (List.mem_of_getElem? (i := 93) rfl)) (by decide +kernel)
theorem kw_245 : Cond.instanceMethod ⟨"ArcheryField$Reader", "isDigitNext", "()Z"⟩ ∈ zWd := zWd_mem (zm2 (List.mem_of_getElem? (i := 92) rfl)) (by decide +kernel)
theorem kw_246 : Cond.selects "ArcheryField$Reader" ⟨"ArcheryField$Reader", "isDigitNext", "()Z"⟩ ⟨"ArcheryField$Reader", "isDigitNext", "()Z"⟩ ∈ zWd := zWd_mem (zm0 (List.mem_of_getElem? (i := 6) rfl)) (by decide +kernel)
theorem kw_247 : Cond.methodLink "ArcheryField$Reader" 105 ⟨"ArcheryField$Round", "addFace", "()Z"⟩ ∈ zWd := zWd_mem (zm2 (List.mem_of_getElem? (i := 82) rfl)) (by decide +kernel)
theorem kw_248 : Cond.code yX6_addFace cX6_addFace 1 (some .boolean) ∈ zWd := zWd_mem (zm2 (List.mem_of_getElem? (i := 85) rfl)) (by decide +kernel)
theorem kw_249 : Cond.instanceMethod ⟨"ArcheryField$Round", "addFace", "()Z"⟩ ∈ zWd := zWd_mem (zm2 (List.mem_of_getElem? (i := 83) rfl)) (by decide +kernel)
theorem kw_250 : Cond.selects "ArcheryField$Round" ⟨"ArcheryField$Round", "addFace", "()Z"⟩ ⟨"ArcheryField$Round", "addFace", "()Z"⟩ ∈ zWd := zWd_mem (zm2 (List.mem_of_getElem? (i := 84) rfl)) (by decide +kernel)
theorem kw_251 : Cond.fieldLinkNest "ArcheryField$Reader" 55 "ArcheryField$Round" "legs" "I" "ArcheryField" ∈ zNw := zNw_mem (zm1 (List.mem_of_getElem? (i := 63) rfl)) rfl
theorem kw_252 : Cond.constant "ArcheryField$Reader" 117 999999 ∈ zWd := zWd_mem (zm2 (List.mem_of_getElem? (i := 114) rfl)) (by decide +kernel)
theorem kw_253 : Cond.methodLink "ArcheryField$Reader" 118 ⟨"ArcheryField$Round", "addLeg", "(III)Z"⟩ ∈ zWd := zWd_mem (zm2 (List.mem_of_getElem? (i := 115) rfl)) (by decide +kernel)
theorem kw_254 : Cond.code yX6_addLeg cX6_addLeg 4 (some .boolean) ∈ zWd := zWd_mem (zm2 (List.mem_of_getElem? (i := 118) rfl)) (by decide +kernel)
theorem kw_255 : Cond.instanceMethod ⟨"ArcheryField$Round", "addLeg", "(III)Z"⟩ ∈ zWd := zWd_mem (zm2 (List.mem_of_getElem? (i := 116) rfl)) (by decide +kernel)
theorem kw_256 : Cond.selects "ArcheryField$Round" ⟨"ArcheryField$Round", "addLeg", "(III)Z"⟩ ⟨"ArcheryField$Round", "addLeg", "(III)Z"⟩ ∈ zWd := zWd_mem (zm2 (List.mem_of_getElem? (i := 117) rfl)) (by decide +kernel)
theorem kw_257 : Cond.methodLink "ArcheryField$Reader" 121 ⟨"ArcheryField$Round", "canTie", "()Z"⟩ ∈ zWd := zWd_mem (zm2 (List.mem_of_getElem? (i := 124) rfl)) (by decide +kernel)
theorem kw_258 : Cond.code yX6_canTie cX6_canTie 1 (some .boolean) ∈ zWd := zWd_mem (zm2 (List.mem_of_getElem? (i := 127) rfl)) (by decide +kernel)
theorem kw_259 : Cond.instanceMethod ⟨"ArcheryField$Round", "canTie", "()Z"⟩ ∈ zWd := zWd_mem (zm2 (List.mem_of_getElem? (i := 125) rfl)) (by decide +kernel)
theorem kw_260 : Cond.selects "ArcheryField$Round" ⟨"ArcheryField$Round", "canTie", "()Z"⟩ ⟨"ArcheryField$Round", "canTie", "()Z"⟩ ∈ zWd := zWd_mem (zm2 (List.mem_of_getElem? (i := 126) rfl)) (by decide +kernel)
theorem kw_261 : Cond.methodLink "ArcheryField$Round" 46 ⟨"ArcheryField$Round", "canTie", "()Z"⟩ ∈ zWd := zWd_mem (zm2 (List.mem_of_getElem? (i := 132) rfl)) (by decide +kernel)
theorem kw_262 : Cond.methodLink "ArcheryField$Reader" 124 ⟨"ArcheryField$Round", "isSet", "(I)Z"⟩ ∈ zWd := zWd_mem (zm2 (List.mem_of_getElem? (i := 140) rfl)) (by decide +kernel)
theorem kw_263 : Cond.methodLink "ArcheryField$Reader" 127 ⟨"ArcheryField$Round", "set", "(II)Z"⟩ ∈ zWd := zWd_mem (zm2 (List.mem_of_getElem? (i := 144) rfl)) (by decide +kernel)
theorem kw_264 : Cond.code yX6_set cX6_set 3 (some .boolean) ∈ zWd := zWd_mem (zm2 (List.mem_of_getElem? (i := 147) rfl)) (by decide +kernel)
theorem kw_265 : Cond.instanceMethod ⟨"ArcheryField$Round", "set", "(II)Z"⟩ ∈ zWd := zWd_mem (zm2 (List.mem_of_getElem? (i := 145) rfl)) (by decide +kernel)
theorem kw_266 : Cond.selects "ArcheryField$Round" ⟨"ArcheryField$Round", "set", "(II)Z"⟩ ⟨"ArcheryField$Round", "set", "(II)Z"⟩ ∈ zWd := zWd_mem (zm2 (List.mem_of_getElem? (i := 146) rfl)) (by decide +kernel)
theorem kw_267 : Cond.methodLink "ArcheryField$Reader" 62 ⟨"ArcheryField$Reader", "skipLetters", "()V"⟩ ∈ zWd := zWd_mem (zm2 (List.mem_of_getElem? (i := 18) rfl)) (by decide +kernel)
theorem kw_268 : Cond.code yX5_skipLetters cX5_skipLetters 1 none ∈ zWd := zWd_mem (zm2 (List.mem_of_getElem? (i := 21) rfl)) (by decide +kernel)
theorem kw_269 : Cond.instanceMethod ⟨"ArcheryField$Reader", "skipLetters", "()V"⟩ ∈ zWd := zWd_mem (zm2 (List.mem_of_getElem? (i := 20) rfl)) (by decide +kernel)
theorem kw_270 : Cond.selects "ArcheryField$Reader" ⟨"ArcheryField$Reader", "skipLetters", "()V"⟩ ⟨"ArcheryField$Reader", "skipLetters", "()V"⟩ ∈ zWd := zWd_mem (zm0 (List.mem_of_getElem? (i := 2) rfl)) (by decide +kernel)
theorem kw_271 : Cond.methodLink "ArcheryField$Reader" 67 ⟨"ArcheryField$Reader", "isSpelt", "(ILjava/lang/String;)Z"⟩ ∈ zWd := zWd_mem (zm2 (List.mem_of_getElem? (i := 26) rfl)) (by decide +kernel)
theorem kw_272 : Cond.code yX5_isSpelt cX5_isSpelt 4 (some .boolean) ∈ zWd := zWd_mem (zm2 (List.mem_of_getElem? (i := 29) rfl)) (by decide +kernel)
theorem kw_273 : Cond.instanceMethod ⟨"ArcheryField$Reader", "isSpelt", "(ILjava/lang/String;)Z"⟩ ∈ zWd := zWd_mem (zm2 (List.mem_of_getElem? (i := 28) rfl)) (by decide +kernel)
theorem kw_274 : Cond.selects "ArcheryField$Reader" ⟨"ArcheryField$Reader", "isSpelt", "(ILjava/lang/String;)Z"⟩ ⟨"ArcheryField$Reader", "isSpelt", "(ILjava/lang/String;)Z"⟩ ∈ zWd := zWd_mem (zm0 (List.mem_of_getElem? (i := 3) rfl)) (by decide +kernel)
theorem kw_275 : Cond.methodLink "ArcheryField$Reader" 97 ⟨"ArcheryField$Reader", "readOnce", "(III)Z"⟩ ∈ zWd := zWd_mem (zm2 (List.mem_of_getElem? (i := 136) rfl)) (by decide +kernel)
theorem kw_276 : Cond.code yX5_readOnce cX5_readOnce 4 (some .boolean) ∈ zWd := zWd_mem (zm2 (List.mem_of_getElem? (i := 139) rfl)) (by decide +kernel)
theorem kw_277 : Cond.instanceMethod ⟨"ArcheryField$Reader", "readOnce", "(III)Z"⟩ ∈ zWd := zWd_mem (zm2 (List.mem_of_getElem? (i := 138) rfl)) (by decide +kernel)
theorem kw_278 : Cond.selects "ArcheryField$Reader" ⟨"ArcheryField$Reader", "readOnce", "(III)Z"⟩ ⟨"ArcheryField$Reader", "readOnce", "(III)Z"⟩ ∈ zWd := zWd_mem (zm0 (List.mem_of_getElem? (i := 11) rfl)) (by decide +kernel)
theorem kw_279 : Cond.methodLink "ArcheryField$Reader" 82 ⟨"ArcheryField$Reader", "mayTie", "(I)Z"⟩ ∈ zWd := zWd_mem (zm2 (List.mem_of_getElem? (i := 120) rfl)) (by decide +kernel)
theorem kw_280 : Cond.code yX5_mayTie cX5_mayTie 2 (some .boolean) ∈ zWd := zWd_mem (zm2 (List.mem_of_getElem? (i := 123) rfl)) (by decide +kernel)
theorem kw_281 : Cond.instanceMethod ⟨"ArcheryField$Reader", "mayTie", "(I)Z"⟩ ∈ zWd := zWd_mem (zm2 (List.mem_of_getElem? (i := 122) rfl)) (by decide +kernel)
theorem kw_282 : Cond.selects "ArcheryField$Reader" ⟨"ArcheryField$Reader", "mayTie", "(I)Z"⟩ ⟨"ArcheryField$Reader", "mayTie", "(I)Z"⟩ ∈ zWd := zWd_mem (zm0 (List.mem_of_getElem? (i := 10) rfl)) (by decide +kernel)
theorem kw_283 : Cond.methodLink "ArcheryField$Reader" 88 ⟨"ArcheryField$Round", "addTie", "(I)Z"⟩ ∈ zWd := zWd_mem (zm2 (List.mem_of_getElem? (i := 128) rfl)) (by decide +kernel)
theorem kw_284 : Cond.code yX6_addTie cX6_addTie 2 (some .boolean) ∈ zWd := zWd_mem (zm2 (List.mem_of_getElem? (i := 131) rfl)) (by decide +kernel)
theorem kw_285 : Cond.instanceMethod ⟨"ArcheryField$Round", "addTie", "(I)Z"⟩ ∈ zWd := zWd_mem (zm2 (List.mem_of_getElem? (i := 129) rfl)) (by decide +kernel)
theorem kw_286 : Cond.selects "ArcheryField$Round" ⟨"ArcheryField$Round", "addTie", "(I)Z"⟩ ⟨"ArcheryField$Round", "addTie", "(I)Z"⟩ ∈ zWd := zWd_mem (zm2 (List.mem_of_getElem? (i := 130) rfl)) (by decide +kernel)
theorem kw_287 : Cond.methodLink "ArcheryField$Reader" 77 ⟨"ArcheryField$Reader", "readLeg", "(I)Z"⟩ ∈ zWd := zWd_mem (zm2 (List.mem_of_getElem? (i := 110) rfl)) (by decide +kernel)
theorem kw_288 : Cond.code yX5_readLeg cX5_readLeg 4 (some .boolean) ∈ zWd := zWd_mem (zm2 (List.mem_of_getElem? (i := 113) rfl)) (by decide +kernel)
theorem kw_289 : Cond.instanceMethod ⟨"ArcheryField$Reader", "readLeg", "(I)Z"⟩ ∈ zWd := zWd_mem (zm2 (List.mem_of_getElem? (i := 112) rfl)) (by decide +kernel)
theorem kw_290 : Cond.selects "ArcheryField$Reader" ⟨"ArcheryField$Reader", "readLeg", "(I)Z"⟩ ⟨"ArcheryField$Reader", "readLeg", "(I)Z"⟩ ∈ zWd := zWd_mem (zm0 (List.mem_of_getElem? (i := 9) rfl)) (by decide +kernel)
theorem kw_291 : Cond.methodLink "ArcheryField$Reader" 71 ⟨"ArcheryField$Reader", "readFace", "(I)Z"⟩ ∈ zWd := zWd_mem (zm2 (List.mem_of_getElem? (i := 78) rfl)) (by decide +kernel)
theorem kw_292 : Cond.code yX5_readFace cX5_readFace 5 (some .boolean) ∈ zWd := zWd_mem (zm2 (List.mem_of_getElem? (i := 81) rfl)) (by decide +kernel)
theorem kw_293 : Cond.instanceMethod ⟨"ArcheryField$Reader", "readFace", "(I)Z"⟩ ∈ zWd := zWd_mem (zm2 (List.mem_of_getElem? (i := 80) rfl)) (by decide +kernel)
theorem kw_294 : Cond.selects "ArcheryField$Reader" ⟨"ArcheryField$Reader", "readFace", "(I)Z"⟩ ⟨"ArcheryField$Reader", "readFace", "(I)Z"⟩ ∈ zWd := zWd_mem (zm0 (List.mem_of_getElem? (i := 4) rfl)) (by decide +kernel)
theorem kw_295 : Cond.methodLink "ArcheryField$Reader" 47 ⟨"ArcheryField$Reader", "readStatement", "()Z"⟩ ∈ zWd := zWd_mem (zm2 (List.mem_of_getElem? (i := 14) rfl)) (by decide +kernel)
theorem kw_296 : Cond.code yX5_readStatement cX5_readStatement 2 (some .boolean) ∈ zWd := zWd_mem (zm2 (List.mem_of_getElem? (i := 17) rfl)) (by decide +kernel)
theorem kw_297 : Cond.instanceMethod ⟨"ArcheryField$Reader", "readStatement", "()Z"⟩ ∈ zWd := zWd_mem (zm2 (List.mem_of_getElem? (i := 16) rfl)) (by decide +kernel)
theorem kw_298 : Cond.selects "ArcheryField$Reader" ⟨"ArcheryField$Reader", "readStatement", "()Z"⟩ ⟨"ArcheryField$Reader", "readStatement", "()Z"⟩ ∈ zWd := zWd_mem (zm0 (List.mem_of_getElem? (i := 1) rfl)) (by decide +kernel)
theorem kw_299 : Cond.methodLink "ArcheryField$Round" 54 ⟨"ArcheryField$Round", "countEnds", "()I"⟩ ∈ zWd := zWd_mem (zm2 (List.mem_of_getElem? (i := 227) rfl)) (by decide +kernel)
theorem kw_300 : Cond.code yX6_countEnds cX6_countEnds 3 (some .int) ∈ zWd := zWd_mem (zm2 (List.mem_of_getElem? (i := 214) rfl)) (by decide +kernel)
theorem kw_301 : Cond.instanceMethod ⟨"ArcheryField$Round", "countEnds", "()I"⟩ ∈ zWd := zWd_mem (zm2 (List.mem_of_getElem? (i := 212) rfl)) (by decide +kernel)
theorem kw_302 : Cond.selects "ArcheryField$Round" ⟨"ArcheryField$Round", "countEnds", "()I"⟩ ⟨"ArcheryField$Round", "countEnds", "()I"⟩ ∈ zWd := zWd_mem (zm2 (List.mem_of_getElem? (i := 213) rfl)) (by decide +kernel)
theorem kw_303 : Cond.methodLink "ArcheryField$Round" 58 ⟨"ArcheryField$Round", "countArrows", "()I"⟩ ∈ zWd := zWd_mem (zm2 (List.mem_of_getElem? (i := 228) rfl)) (by decide +kernel)
theorem kw_304 : Cond.code yX6_countArrows cX6_countArrows 3 (some .int) ∈ zWd := zWd_mem (zm2 (List.mem_of_getElem? (i := 231) rfl)) (by decide +kernel)
theorem kw_305 : Cond.instanceMethod ⟨"ArcheryField$Round", "countArrows", "()I"⟩ ∈ zWd := zWd_mem (zm2 (List.mem_of_getElem? (i := 229) rfl)) (by decide +kernel)
theorem kw_306 : Cond.selects "ArcheryField$Round" ⟨"ArcheryField$Round", "countArrows", "()I"⟩ ⟨"ArcheryField$Round", "countArrows", "()I"⟩ ∈ zWd := zWd_mem (zm2 (List.mem_of_getElem? (i := 230) rfl)) (by decide +kernel)
theorem kw_307 : Cond.fieldLink "ArcheryField$Shots" 14 "ArcheryField$Shots" "sums" "[I" ∈ zWd := zWd_mem (zm2 (List.mem_of_getElem? (i := 177) rfl)) (by decide +kernel)
theorem kw_308 : Cond.constant "ArcheryField$Shots" 24 1000000000 ∈ zWd := zWd_mem (zm3 (List.mem_of_getElem? (i := 192) rfl)) (by decide +kernel)
theorem kw_309 : Cond.fieldLink "ArcheryField$Shots" 21 "ArcheryField$Shots" "squares" "[I" ∈ zWd := zWd_mem (zm2 (List.mem_of_getElem? (i := 179) rfl)) (by decide +kernel)
theorem kw_310 : Cond.methodLink "ArcheryField$Round" 90 ⟨"ArcheryField$Shots", "squareOf", "(I)I"⟩ ∈ zWd := zWd_mem (zm3 (List.mem_of_getElem? (i := 188) rfl)) (by decide +kernel)
theorem kw_311 : Cond.code yX8_squareOf cX8_squareOf 2 (some .int) ∈ zWd := zWd_mem (zm3 (List.mem_of_getElem? (i := 191) rfl)) (by decide +kernel)
theorem kw_312 : Cond.instanceMethod ⟨"ArcheryField$Shots", "squareOf", "(I)I"⟩ ∈ zWd := zWd_mem (zm3 (List.mem_of_getElem? (i := 189) rfl)) (by decide +kernel)
theorem kw_313 : Cond.selects "ArcheryField$Shots" ⟨"ArcheryField$Shots", "squareOf", "(I)I"⟩ ⟨"ArcheryField$Shots", "squareOf", "(I)I"⟩ ∈ zWd := zWd_mem (zm3 (List.mem_of_getElem? (i := 190) rfl)) (by decide +kernel)
theorem kw_314 : Cond.initialized "ArcheryField$Shots" ∈ zWd := zWd_mem (zm1 (List.mem_of_getElem? (i := 14) rfl)) (by decide +kernel)
theorem kw_315 : Cond.fieldLink "ArcheryField$Shots" 18 "ArcheryField$Shots" "counts" "[I" ∈ zWd := zWd_mem (zm2 (List.mem_of_getElem? (i := 178) rfl)) (by decide +kernel)
theorem kw_316 : Cond.methodLink "ArcheryField$Round" 80 ⟨"ArcheryField$Shots", "lastSum", "()I"⟩ ∈ zWd := zWd_mem (zm3 (List.mem_of_getElem? (i := 184) rfl)) (by decide +kernel)
theorem kw_317 : Cond.code yX8_lastSum cX8_lastSum 1 (some .int) ∈ zWd := zWd_mem (zm3 (List.mem_of_getElem? (i := 63) rfl)) (by decide +kernel)
theorem kw_318 : Cond.instanceMethod ⟨"ArcheryField$Shots", "lastSum", "()I"⟩ ∈ zWd := zWd_mem (zm3 (List.mem_of_getElem? (i := 61) rfl)) (by decide +kernel)
theorem kw_319 : Cond.selects "ArcheryField$Shots" ⟨"ArcheryField$Shots", "lastSum", "()I"⟩ ⟨"ArcheryField$Shots", "lastSum", "()I"⟩ ∈ zWd := zWd_mem (zm3 (List.mem_of_getElem? (i := 62) rfl)) (by decide +kernel)
theorem kw_320 : Cond.methodLink "ArcheryField$Round" 70 ⟨"java/lang/Integer", "compare", "(II)I"⟩ ∈ zWd := zWd_mem (zm3 (List.mem_of_getElem? (i := 178) rfl)) (by decide +kernel)
theorem kw_321 : Cond.code yJ6_compare_7cf53 cJ6_compare_7cf53 2 (some .int) ∈ zWd := zWd_mem (zm3 (List.mem_of_getElem? (i := 180) rfl)) (by decide +kernel)
theorem kw_322 : Cond.static ⟨"java/lang/Integer", "compare", "(II)I"⟩ ∈ zWd := zWd_mem (zm3 (List.mem_of_getElem? (i := 179) rfl)) (by decide +kernel)
theorem kw_323 : Cond.initialized "java/lang/Integer" ∈ zWd := zWd_mem (zm1 (List.mem_of_getElem? (i := 20) rfl)) (by decide +kernel)
theorem kw_324 : Cond.methodLink "ArcheryField$Round" 83 ⟨"ArcheryField$Round", "compareOffs", "(LArcheryField$Shots;LArcheryField$Shots;)I"⟩ ∈ zWd := zWd_mem (zm3 (List.mem_of_getElem? (i := 185) rfl)) (by decide +kernel)
theorem kw_325 : Cond.code yX6_compareOffs cX6_compareOffs 3 (some .int) ∈ zWd := zWd_mem (zm3 (List.mem_of_getElem? (i := 187) rfl)) (by decide +kernel)
theorem kw_326 : Cond.static ⟨"ArcheryField$Round", "compareOffs", "(LArcheryField$Shots;LArcheryField$Shots;)I"⟩ ∈ zWd := zWd_mem (zm3 (List.mem_of_getElem? (i := 186) rfl)) (by decide +kernel)
theorem kw_327 : Cond.methodLink "ArcheryField$Round" 87 ⟨"ArcheryField$Shots", "countOf", "(I)I"⟩ ∈ zWd := zWd_mem (zm3 (List.mem_of_getElem? (i := 193) rfl)) (by decide +kernel)
theorem kw_328 : Cond.code yX8_countOf cX8_countOf 7 (some .int) ∈ zWd := zWd_mem (zm3 (List.mem_of_getElem? (i := 196) rfl)) (by decide +kernel)
theorem kw_329 : Cond.instanceMethod ⟨"ArcheryField$Shots", "countOf", "(I)I"⟩ ∈ zWd := zWd_mem (zm3 (List.mem_of_getElem? (i := 194) rfl)) (by decide +kernel)
theorem kw_330 : Cond.selects "ArcheryField$Shots" ⟨"ArcheryField$Shots", "countOf", "(I)I"⟩ ⟨"ArcheryField$Shots", "countOf", "(I)I"⟩ ∈ zWd := zWd_mem (zm3 (List.mem_of_getElem? (i := 195) rfl)) (by decide +kernel)
theorem kw_331 : Cond.methodLink "ArcheryField$Round" 76 ⟨"ArcheryField$Round", "compareBy", "(ILArcheryField$Shots;LArcheryField$Shots;)I"⟩ ∈ zWd := zWd_mem (zm3 (List.mem_of_getElem? (i := 181) rfl)) (by decide +kernel)
theorem kw_332 : Cond.code yX6_compareBy cX6_compareBy 3 (some .int) ∈ zWd := zWd_mem (zm3 (List.mem_of_getElem? (i := 183) rfl)) (by decide +kernel)
theorem kw_333 : Cond.static ⟨"ArcheryField$Round", "compareBy", "(ILArcheryField$Shots;LArcheryField$Shots;)I"⟩ ∈ zWd := zWd_mem (zm3 (List.mem_of_getElem? (i := 182) rfl)) (by decide +kernel)
theorem kw_334 : Cond.methodLink "ArcheryField$Round" 65 ⟨"ArcheryField$Shots", "total", "()I"⟩ ∈ zWd := zWd_mem (zm3 (List.mem_of_getElem? (i := 177) rfl)) (by decide +kernel)
theorem kw_335 : Cond.code yX8_total cX8_total 6 (some .int) ∈ zWd := zWd_mem (zm3 (List.mem_of_getElem? (i := 59) rfl)) (by decide +kernel)
theorem kw_336 : Cond.instanceMethod ⟨"ArcheryField$Shots", "total", "()I"⟩ ∈ zWd := zWd_mem (zm3 (List.mem_of_getElem? (i := 57) rfl)) (by decide +kernel)
theorem kw_337 : Cond.selects "ArcheryField$Shots" ⟨"ArcheryField$Shots", "total", "()I"⟩ ⟨"ArcheryField$Shots", "total", "()I"⟩ ∈ zWd := zWd_mem (zm3 (List.mem_of_getElem? (i := 58) rfl)) (by decide +kernel)
theorem kw_338 : Cond.methodLink "ArcheryField$Scores" 9 ⟨"java/lang/Object", "<init>", "()V"⟩ ∈ zWd := zWd_mem (zm3 (List.mem_of_getElem? (i := 16) rfl)) (by decide +kernel)
theorem kw_339 : Cond.methodLink "ArcheryField$Scores" 3 ⟨"ArcheryField$Scores", "<init>", "([I)V"⟩ ∈ zWd := zWd_mem (zm3 (List.mem_of_getElem? (i := 13) rfl)) (by decide +kernel)
theorem kw_340 : Cond.code yX7_init_ cX7_init_ 2 none ∈ zWd := zWd_mem (zm3 (List.mem_of_getElem? (i := 15) rfl)) (by decide +kernel)
theorem kw_341 : Cond.instanceMethod ⟨"ArcheryField$Scores", "<init>", "([I)V"⟩ ∈ zWd := zWd_mem (zm3 (List.mem_of_getElem? (i := 14) rfl)) (by decide +kernel)
theorem kw_342 : Cond.methodLink "ArcheryField$Scores" 18 ⟨"java/util/Arrays", "copyOf", "([II)[I"⟩ ∈ zWd := zWd_mem (zm3 (List.mem_of_getElem? (i := 220) rfl)) (by decide +kernel)
theorem kw_343 : Cond.classLink "ArcheryField$Scores" 4 "ArcheryField$Scores" ∈ zWd := zWd_mem (zm3 (List.mem_of_getElem? (i := 221) rfl)) (by decide +kernel)
theorem kw_344 : Cond.instantiable "ArcheryField$Scores" 1 ∈ zWd := zWd_mem (zm3 (List.mem_of_getElem? (i := 9) rfl)) (by decide +kernel)
theorem kw_345 : Cond.methodLink "ArcheryField$Scores" 28 ⟨"[I", "clone", "()Ljava/lang/Object;"⟩ ∈ zWd := zWd_mem (zm3 (List.mem_of_getElem? (i := 239) rfl)) (by decide +kernel)
theorem kw_346 : Cond.classLink "ArcheryField$Scores" 29 "[I" ∈ zWd := zWd_mem (zm4 (List.mem_of_getElem? (i := 0) rfl)) (by decide +kernel)
theorem kw_347 : Cond.methodLink "ArcheryField$Shots" 9 ⟨"java/lang/Object", "<init>", "()V"⟩ ∈ zWd := zWd_mem (zm2 (List.mem_of_getElem? (i := 176) rfl)) (by decide +kernel)
theorem kw_348 : Cond.methodLink "ArcheryField$Shots" 3 ⟨"ArcheryField$Shots", "<init>", "([I[I[I)V"⟩ ∈ zWd := zWd_mem (zm2 (List.mem_of_getElem? (i := 173) rfl)) (by decide +kernel)
theorem kw_349 : Cond.code yX8_init_ cX8_init_ 4 none ∈ zWd := zWd_mem (zm2 (List.mem_of_getElem? (i := 175) rfl)) (by decide +kernel)
theorem kw_350 : Cond.instanceMethod ⟨"ArcheryField$Shots", "<init>", "([I[I[I)V"⟩ ∈ zWd := zWd_mem (zm2 (List.mem_of_getElem? (i := 174) rfl)) (by decide +kernel)
theorem kw_351 : Cond.methodLink "ArcheryField$Shots" 31 ⟨"java/util/Arrays", "copyOf", "([II)[I"⟩ ∈ zWd := zWd_mem (zm3 (List.mem_of_getElem? (i := 127) rfl)) (by decide +kernel)
theorem kw_352 : Cond.classLink "ArcheryField$Shots" 4 "ArcheryField$Shots" ∈ zWd := zWd_mem (zm3 (List.mem_of_getElem? (i := 138) rfl)) (by decide +kernel)
theorem kw_353 : Cond.instantiable "ArcheryField$Shots" 3 ∈ zWd := zWd_mem (zm2 (List.mem_of_getElem? (i := 169) rfl)) (by decide +kernel)
theorem kw_354 : Cond.methodLink "ArcheryField$Shots" 37 ⟨"ArcheryField$Shots", "joined", "([II)[I"⟩ ∈ zWd := zWd_mem (zm3 (List.mem_of_getElem? (i := 139) rfl)) (by decide +kernel)
theorem kw_355 : Cond.code yX8_joined cX8_joined 3 (some (.array .int)) ∈ zWd := zWd_mem (zm3 (List.mem_of_getElem? (i := 141) rfl)) (by decide +kernel)
theorem kw_356 : Cond.static ⟨"ArcheryField$Shots", "joined", "([II)[I"⟩ ∈ zWd := zWd_mem (zm3 (List.mem_of_getElem? (i := 140) rfl)) (by decide +kernel)
theorem kw_357 : Cond.methodLink "ArcheryField$Shots" 25 ⟨"java/lang/Math", "max", "(II)I"⟩ ∈ zWd := zWd_mem (zm3 (List.mem_of_getElem? (i := 124) rfl)) (by decide +kernel)
theorem kw_358 : Cond.methodLink "ArcheryField$State" 3 ⟨"java/lang/Object", "<init>", "()V"⟩ ∈ zWd := zWd_mem (zm1 (List.mem_of_getElem? (i := 149) rfl)) (by decide +kernel)
theorem kw_359 : Cond.fieldLink "ArcheryField$State" 9 "ArcheryField$State" "round" "LArcheryField$Round;" ∈ zWd := zWd_mem (zm1 (List.mem_of_getElem? (i := 184) rfl)) (by decide +kernel)
theorem kw_360 : Cond.classLink "ArcheryField$State" 15 "ArcheryField$Archer" ∈ zWd := zWd_mem (zm1 (List.mem_of_getElem? (i := 150) rfl)) (by decide +kernel)
theorem kw_361 : Cond.classLink "ArcheryField$State" 21 "ArcheryField$Laws" ∈ zWd := zWd_mem (zm1 (List.mem_of_getElem? (i := 152) rfl)) (by decide +kernel)
theorem kw_362 : Cond.methodLink "ArcheryField$State" 23 ⟨"ArcheryField$Laws", "<init>", "()V"⟩ ∈ zWd := zWd_mem (zm1 (List.mem_of_getElem? (i := 154) rfl)) (by decide +kernel)
theorem kw_363 : Cond.code yX1_init cX1_init 1 none ∈ zWd := zWd_mem (zm1 (List.mem_of_getElem? (i := 156) rfl)) (by decide +kernel)
theorem kw_364 : Cond.instanceMethod ⟨"ArcheryField$Laws", "<init>", "()V"⟩ ∈ zWd := zWd_mem (zm1 (List.mem_of_getElem? (i := 155) rfl)) (by decide +kernel)
theorem kw_365 : Cond.fieldLink "ArcheryField$State" 24 "ArcheryField$State" "laws" "LArcheryField$Laws;" ∈ zWd := zWd_mem (zm1 (List.mem_of_getElem? (i := 187) rfl)) (by decide +kernel)
theorem kw_366 : Cond.classLink "ArcheryField$State" 28 "ArcheryField$Line" ∈ zWd := zWd_mem (zm1 (List.mem_of_getElem? (i := 165) rfl)) (by decide +kernel)
theorem kw_367 : Cond.methodLink "ArcheryField$State" 30 ⟨"ArcheryField$Line", "<init>", "()V"⟩ ∈ zWd := zWd_mem (zm1 (List.mem_of_getElem? (i := 167) rfl)) (by decide +kernel)
theorem kw_368 : Cond.code yX2_init cX2_init 1 none ∈ zWd := zWd_mem (zm1 (List.mem_of_getElem? (i := 169) rfl)) (by decide +kernel)
theorem kw_369 : Cond.instanceMethod ⟨"ArcheryField$Line", "<init>", "()V"⟩ ∈ zWd := zWd_mem (zm1 (List.mem_of_getElem? (i := 168) rfl)) (by decide +kernel)
theorem kw_370 : Cond.fieldLink "ArcheryField$State" 31 "ArcheryField$State" "line" "LArcheryField$Line;" ∈ zWd := zWd_mem (zm1 (List.mem_of_getElem? (i := 189) rfl)) (by decide +kernel)
theorem kw_371 : Cond.fieldLink "ArcheryField$State" 35 "ArcheryField$State" "today" "I" ∈ zWd := zWd_mem (zm1 (List.mem_of_getElem? (i := 191) rfl)) (by decide +kernel)
theorem kw_372 : Cond.methodLink "ArcheryField$State" 39 ⟨"[LArcheryField$Archer;", "clone", "()Ljava/lang/Object;"⟩ ∈ zWd := zWd_mem (zm2 (List.mem_of_getElem? (i := 157) rfl)) (by decide +kernel)
theorem kw_373 : Cond.sameMethod "[LArcheryField$Archer;" "java/lang/Object" "clone" "()Ljava/lang/Object;" ∈ zWd := zWd_mem (zm2 (List.mem_of_getElem? (i := 158) rfl)) (by decide +kernel)
theorem kw_374 : Cond.selects "[LArcheryField$Archer;" ⟨"[LArcheryField$Archer;", "clone", "()Ljava/lang/Object;"⟩ ⟨"java/lang/Object", "clone", "()Ljava/lang/Object;"⟩ ∈ zWd := zWd_mem (zm2 (List.mem_of_getElem? (i := 161) rfl)) (by decide +kernel)
theorem kw_375 : Cond.castable "[LArcheryField$Archer;" "java/lang/Cloneable" ∈ zNw := zNw_mem (zm2 (List.mem_of_getElem? (i := 162) rfl)) rfl
theorem kw_376 : Cond.classLink "ArcheryField$State" 40 "[LArcheryField$Archer;" ∈ zWd := zWd_mem (zm2 (List.mem_of_getElem? (i := 163) rfl)) (by decide +kernel)
theorem kw_377 : Cond.methodLink "ArcheryField$State" 47 ⟨"ArcheryField$Archer", "with", "(LArcheryField$Shots;)LArcheryField$Archer;"⟩ ∈ zWd := zWd_mem (zm2 (List.mem_of_getElem? (i := 187) rfl)) (by decide +kernel)
theorem kw_378 : Cond.code yX0_with cX0_with 2 (some (.object "ArcheryField$Archer")) ∈ zWd := zWd_mem (zm2 (List.mem_of_getElem? (i := 190) rfl)) (by decide +kernel)
theorem kw_379 : Cond.instanceMethod ⟨"ArcheryField$Archer", "with", "(LArcheryField$Shots;)LArcheryField$Archer;"⟩ ∈ zWd := zWd_mem (zm2 (List.mem_of_getElem? (i := 188) rfl)) (by decide +kernel)
theorem kw_380 : Cond.selects "ArcheryField$Archer" ⟨"ArcheryField$Archer", "with", "(LArcheryField$Shots;)LArcheryField$Archer;"⟩ ⟨"ArcheryField$Archer", "with", "(LArcheryField$Shots;)LArcheryField$Archer;"⟩ ∈ zWd := zWd_mem (zm2 (List.mem_of_getElem? (i := 189) rfl)) (by decide +kernel)
theorem kw_381 : Cond.classLink "ArcheryField$State" 44 "ArcheryField$Shots" ∈ zWd := zWd_mem (zm2 (List.mem_of_getElem? (i := 168) rfl)) (by decide +kernel)
theorem kw_382 : Cond.methodLink "ArcheryField$State" 46 ⟨"ArcheryField$Shots", "<init>", "()V"⟩ ∈ zWd := zWd_mem (zm2 (List.mem_of_getElem? (i := 170) rfl)) (by decide +kernel)
theorem kw_383 : Cond.code yX8_init cX8_init 1 none ∈ zWd := zWd_mem (zm2 (List.mem_of_getElem? (i := 172) rfl)) (by decide +kernel)
theorem kw_384 : Cond.instanceMethod ⟨"ArcheryField$Shots", "<init>", "()V"⟩ ∈ zWd := zWd_mem (zm2 (List.mem_of_getElem? (i := 171) rfl)) (by decide +kernel)
theorem kw_385 : Cond.methodLink "ArcheryField" 1 ⟨"java/lang/Object", "<init>", "()V"⟩ ∈ zWd := zWd_mem (zm1 (List.mem_of_getElem? (i := 27) rfl)) (by decide +kernel)
theorem kw_386 : Cond.classLink "ArcheryField" 7 "ArcheryField$Reader" ∈ zWd := zWd_mem (zm1 (List.mem_of_getElem? (i := 30) rfl)) (by decide +kernel)
theorem kw_387 : Cond.instantiable "ArcheryField$Reader" 7 ∈ zWd := zWd_mem (zm1 (List.mem_of_getElem? (i := 31) rfl)) (by decide +kernel)
theorem kw_388 : Cond.methodLinkNest "ArcheryField" 9 ⟨"ArcheryField$Reader", "<init>", "()V"⟩ "ArcheryField" ∈ zNw := zNw_mem (zm1 (List.mem_of_getElem? (i := 32) rfl)) rfl
theorem kw_389 : Cond.code yX5_init cX5_init 1 none ∈ zWd := zWd_mem (zm1 (List.mem_of_getElem? (i := 34) rfl)) (by decide +kernel)
theorem kw_390 : Cond.instanceMethod ⟨"ArcheryField$Reader", "<init>", "()V"⟩ ∈ zWd := zWd_mem (zm1 (List.mem_of_getElem? (i := 33) rfl)) (by decide +kernel)
theorem kw_391 : Cond.fieldLink "ArcheryField" 10 "ArcheryField" "reader" "LArcheryField$Reader;" ∈ zWd := zWd_mem (zm1 (List.mem_of_getElem? (i := 204) rfl)) (by decide +kernel)
theorem kw_392 : Cond.fieldLinkNest "ArcheryField" 16 "ArcheryField$Reader" "tape" "LArcheryField$Tape;" "ArcheryField" ∈ zNw := zNw_mem (zm1 (List.mem_of_getElem? (i := 95) rfl)) rfl
theorem kw_393 : Cond.fieldLink "ArcheryField" 20 "ArcheryField" "tape" "LArcheryField$Tape;" ∈ zWd := zWd_mem (zm1 (List.mem_of_getElem? (i := 205) rfl)) (by decide +kernel)
theorem kw_394 : Cond.classLink "ArcheryField" 21 "ArcheryField$Quiver" ∈ zWd := zWd_mem (zm1 (List.mem_of_getElem? (i := 119) rfl)) (by decide +kernel)
theorem kw_395 : Cond.instantiable "ArcheryField$Quiver" 5 ∈ zWd := zWd_mem (zm1 (List.mem_of_getElem? (i := 120) rfl)) (by decide +kernel)
theorem kw_396 : Cond.methodLinkNest "ArcheryField" 23 ⟨"ArcheryField$Quiver", "<init>", "()V"⟩ "ArcheryField" ∈ zNw := zNw_mem (zm1 (List.mem_of_getElem? (i := 121) rfl)) rfl
theorem kw_397 : Cond.code yX4_init cX4_init 1 none ∈ zWd := zWd_mem (zm1 (List.mem_of_getElem? (i := 123) rfl)) (by decide +kernel)
theorem kw_398 : Cond.instanceMethod ⟨"ArcheryField$Quiver", "<init>", "()V"⟩ ∈ zWd := zWd_mem (zm1 (List.mem_of_getElem? (i := 122) rfl)) (by decide +kernel)
theorem kw_399 : Cond.fieldLink "ArcheryField" 24 "ArcheryField" "quiver" "LArcheryField$Quiver;" ∈ zWd := zWd_mem (zm1 (List.mem_of_getElem? (i := 206) rfl)) (by decide +kernel)
theorem kw_400 : Cond.classLink "ArcheryField" 28 "ArcheryField$State" ∈ zWd := zWd_mem (zm1 (List.mem_of_getElem? (i := 143) rfl)) (by decide +kernel)
theorem kw_401 : Cond.fieldLink "ArcheryField" 30 "ArcheryField" "kept" "[LArcheryField$State;" ∈ zWd := zWd_mem (zm1 (List.mem_of_getElem? (i := 207) rfl)) (by decide +kernel)
theorem kw_402 : Cond.fieldLink "ArcheryField" 34 "ArcheryField" "keptCount" "I" ∈ zWd := zWd_mem (zm1 (List.mem_of_getElem? (i := 208) rfl)) (by decide +kernel)
theorem kw_403 : Cond.instantiable "ArcheryField$State" 5 ∈ zWd := zWd_mem (zm1 (List.mem_of_getElem? (i := 145) rfl)) (by decide +kernel)
theorem kw_404 : Cond.methodLink "ArcheryField" 38 ⟨"ArcheryField$State", "<init>", "()V"⟩ ∈ zWd := zWd_mem (zm1 (List.mem_of_getElem? (i := 146) rfl)) (by decide +kernel)
theorem kw_405 : Cond.code yX9_init cX9_init 1 none ∈ zWd := zWd_mem (zm1 (List.mem_of_getElem? (i := 148) rfl)) (by decide +kernel)
theorem kw_406 : Cond.instanceMethod ⟨"ArcheryField$State", "<init>", "()V"⟩ ∈ zWd := zWd_mem (zm1 (List.mem_of_getElem? (i := 147) rfl)) (by decide +kernel)
theorem kw_407 : Cond.fieldLink "ArcheryField" 39 "ArcheryField" "now" "LArcheryField$State;" ∈ zWd := zWd_mem (zm1 (List.mem_of_getElem? (i := 209) rfl)) (by decide +kernel)
theorem kw_408 : Cond.fieldLink "ArcheryField" 43 "ArcheryField$Tape" "length" "I" ∈ zWd := zWd_mem (zm1 (List.mem_of_getElem? (i := 44) rfl)) (by decide +kernel)
theorem kw_409 : Cond.methodLink "ArcheryField" 48 ⟨"ArcheryField$Tape", "append", "(I)V"⟩ ∈ zWd := zWd_mem (zm1 (List.mem_of_getElem? (i := 227) rfl)) (by decide +kernel)
theorem kw_410 : Cond.code yX10_append cX10_append 3 none ∈ zWd := zWd_mem (zm1 (List.mem_of_getElem? (i := 230) rfl)) (by decide +kernel)
theorem kw_411 : Cond.instanceMethod ⟨"ArcheryField$Tape", "append", "(I)V"⟩ ∈ zWd := zWd_mem (zm1 (List.mem_of_getElem? (i := 228) rfl)) (by decide +kernel)
theorem kw_412 : Cond.selects "ArcheryField$Tape" ⟨"ArcheryField$Tape", "append", "(I)V"⟩ ⟨"ArcheryField$Tape", "append", "(I)V"⟩ ∈ zWd := zWd_mem (zm1 (List.mem_of_getElem? (i := 229) rfl)) (by decide +kernel)
theorem kw_413 : Cond.methodLink "ArcheryField" 271 ⟨"ArcheryField$State", "<init>", "(LArcheryField$State;)V"⟩ ∈ zWd := zWd_mem (zm2 (List.mem_of_getElem? (i := 154) rfl)) (by decide +kernel)
theorem kw_414 : Cond.code yX9_init_ cX9_init_ 2 none ∈ zWd := zWd_mem (zm2 (List.mem_of_getElem? (i := 156) rfl)) (by decide +kernel)
theorem kw_415 : Cond.instanceMethod ⟨"ArcheryField$State", "<init>", "(LArcheryField$State;)V"⟩ ∈ zWd := zWd_mem (zm2 (List.mem_of_getElem? (i := 155) rfl)) (by decide +kernel)
theorem kw_416 : Cond.methodLink "ArcheryField" 52 ⟨"ArcheryField$Reader", "read", "()LArcheryField$Round;"⟩ ∈ zWd := zWd_mem (zm1 (List.mem_of_getElem? (i := 239) rfl)) (by decide +kernel)
theorem kw_417 : Cond.code yX5_read cX5_read 2 (some (.object "ArcheryField$Round")) ∈ zWd := zWd_mem (zm2 (List.mem_of_getElem? (i := 2) rfl)) (by decide +kernel)
theorem kw_418 : Cond.instanceMethod ⟨"ArcheryField$Reader", "read", "()LArcheryField$Round;"⟩ ∈ zWd := zWd_mem (zm2 (List.mem_of_getElem? (i := 0) rfl)) (by decide +kernel)
theorem kw_419 : Cond.selects "ArcheryField$Reader" ⟨"ArcheryField$Reader", "read", "()LArcheryField$Round;"⟩ ⟨"ArcheryField$Reader", "read", "()LArcheryField$Round;"⟩ ∈ zWd := zWd_mem (zm2 (List.mem_of_getElem? (i := 1) rfl)) (by decide +kernel)
theorem kw_420 : Cond.methodLink "ArcheryField" 56 ⟨"ArcheryField", "change", "()LArcheryField$State;"⟩ ∈ zWd := zWd_mem (zm2 (List.mem_of_getElem? (i := 150) rfl)) (by decide +kernel)
theorem kw_421 : Cond.code yX11_change cX11_change 2 (some (.object "ArcheryField$State")) ∈ zWd := zWd_mem (zm2 (List.mem_of_getElem? (i := 153) rfl)) (by decide +kernel)
theorem kw_422 : Cond.instanceMethod ⟨"ArcheryField", "change", "()LArcheryField$State;"⟩ ∈ zWd := zWd_mem (zm2 (List.mem_of_getElem? (i := 152) rfl)) (by decide +kernel)
theorem kw_423 : Cond.selects "ArcheryField" ⟨"ArcheryField", "change", "()LArcheryField$State;"⟩ ⟨"ArcheryField", "change", "()LArcheryField$State;"⟩ ∈ zWd := zWd_mem (zm0 (List.mem_of_getElem? (i := 12) rfl)) (by decide +kernel)
theorem kw_424 : Cond.fieldLinkNest "ArcheryField" 60 "ArcheryField$State" "round" "LArcheryField$Round;" "ArcheryField" ∈ zNw := zNw_mem (zm1 (List.mem_of_getElem? (i := 185) rfl)) rfl
theorem kw_425 : Cond.methodLink "ArcheryField" 64 ⟨"ArcheryField$State", "forgetShots", "()V"⟩ ∈ zWd := zWd_mem (zm2 (List.mem_of_getElem? (i := 164) rfl)) (by decide +kernel)
theorem kw_426 : Cond.code yX9_forgetShots cX9_forgetShots 3 none ∈ zWd := zWd_mem (zm2 (List.mem_of_getElem? (i := 167) rfl)) (by decide +kernel)
theorem kw_427 : Cond.instanceMethod ⟨"ArcheryField$State", "forgetShots", "()V"⟩ ∈ zWd := zWd_mem (zm2 (List.mem_of_getElem? (i := 165) rfl)) (by decide +kernel)
theorem kw_428 : Cond.selects "ArcheryField$State" ⟨"ArcheryField$State", "forgetShots", "()V"⟩ ⟨"ArcheryField$State", "forgetShots", "()V"⟩ ∈ zWd := zWd_mem (zm2 (List.mem_of_getElem? (i := 166) rfl)) (by decide +kernel)
theorem kw_429 : Cond.methodLink "ArcheryField" 67 ⟨"ArcheryField$Round", "countEnds", "()I"⟩ ∈ zWd := zWd_mem (zm2 (List.mem_of_getElem? (i := 211) rfl)) (by decide +kernel)
theorem kw_430 : Cond.fieldLinkNest "ArcheryField" 73 "ArcheryField$Reader" "fault" "I" "ArcheryField" ∈ zNw := zNw_mem (zm1 (List.mem_of_getElem? (i := 101) rfl)) rfl
theorem kw_431 : Cond.fieldLinkNest "ArcheryField" 76 "ArcheryField$Reader" "place" "I" "ArcheryField" ∈ zNw := zNw_mem (zm1 (List.mem_of_getElem? (i := 103) rfl)) rfl
theorem kw_432 : Cond.methodLink "ArcheryField" 79 ⟨"ArcheryField$Round", "tell", "(I)I"⟩ ∈ zWd := zWd_mem (zm2 (List.mem_of_getElem? (i := 223) rfl)) (by decide +kernel)
theorem kw_433 : Cond.code yX6_tell cX6_tell 2 (some .int) ∈ zWd := zWd_mem (zm2 (List.mem_of_getElem? (i := 226) rfl)) (by decide +kernel)
theorem kw_434 : Cond.instanceMethod ⟨"ArcheryField$Round", "tell", "(I)I"⟩ ∈ zWd := zWd_mem (zm2 (List.mem_of_getElem? (i := 224) rfl)) (by decide +kernel)
theorem kw_435 : Cond.selects "ArcheryField$Round" ⟨"ArcheryField$Round", "tell", "(I)I"⟩ ⟨"ArcheryField$Round", "tell", "(I)I"⟩ ∈ zWd := zWd_mem (zm2 (List.mem_of_getElem? (i := 225) rfl)) (by decide +kernel)
theorem kw_436 : Cond.methodLink "ArcheryField" 83 ⟨"ArcheryField$State", "freeNumber", "()I"⟩ ∈ zWd := zWd_mem (zm3 (List.mem_of_getElem? (i := 1) rfl)) (by decide +kernel)
theorem kw_437 : Cond.code yX9_freeNumber cX9_freeNumber 2 (some .int) ∈ zWd := zWd_mem (zm3 (List.mem_of_getElem? (i := 4) rfl)) (by decide +kernel)
theorem kw_438 : Cond.instanceMethod ⟨"ArcheryField$State", "freeNumber", "()I"⟩ ∈ zWd := zWd_mem (zm3 (List.mem_of_getElem? (i := 2) rfl)) (by decide +kernel)
theorem kw_439 : Cond.selects "ArcheryField$State" ⟨"ArcheryField$State", "freeNumber", "()I"⟩ ⟨"ArcheryField$State", "freeNumber", "()I"⟩ ∈ zWd := zWd_mem (zm3 (List.mem_of_getElem? (i := 3) rfl)) (by decide +kernel)
theorem kw_440 : Cond.classLink "ArcheryField" 86 "ArcheryField$Archer" ∈ zWd := zWd_mem (zm3 (List.mem_of_getElem? (i := 5) rfl)) (by decide +kernel)
theorem kw_441 : Cond.classLink "ArcheryField" 88 "ArcheryField$Shots" ∈ zWd := zWd_mem (zm3 (List.mem_of_getElem? (i := 6) rfl)) (by decide +kernel)
theorem kw_442 : Cond.methodLink "ArcheryField" 90 ⟨"ArcheryField$Shots", "<init>", "()V"⟩ ∈ zWd := zWd_mem (zm3 (List.mem_of_getElem? (i := 7) rfl)) (by decide +kernel)
theorem kw_443 : Cond.classLink "ArcheryField" 91 "ArcheryField$Scores" ∈ zWd := zWd_mem (zm3 (List.mem_of_getElem? (i := 8) rfl)) (by decide +kernel)
theorem kw_444 : Cond.methodLink "ArcheryField" 93 ⟨"ArcheryField$Scores", "<init>", "()V"⟩ ∈ zWd := zWd_mem (zm3 (List.mem_of_getElem? (i := 10) rfl)) (by decide +kernel)
theorem kw_445 : Cond.code yX7_init cX7_init 1 none ∈ zWd := zWd_mem (zm3 (List.mem_of_getElem? (i := 12) rfl)) (by decide +kernel)
theorem kw_446 : Cond.instanceMethod ⟨"ArcheryField$Scores", "<init>", "()V"⟩ ∈ zWd := zWd_mem (zm3 (List.mem_of_getElem? (i := 11) rfl)) (by decide +kernel)
theorem kw_447 : Cond.methodLink "ArcheryField" 94 ⟨"ArcheryField$Archer", "<init>", "(ILArcheryField$Shots;LArcheryField$Scores;)V"⟩ ∈ zWd := zWd_mem (zm3 (List.mem_of_getElem? (i := 21) rfl)) (by decide +kernel)
theorem kw_448 : Cond.methodLink "ArcheryField" 97 ⟨"ArcheryField$State", "put", "(ILArcheryField$Archer;)V"⟩ ∈ zWd := zWd_mem (zm3 (List.mem_of_getElem? (i := 22) rfl)) (by decide +kernel)
theorem kw_449 : Cond.code yX9_put cX9_put 3 none ∈ zWd := zWd_mem (zm3 (List.mem_of_getElem? (i := 25) rfl)) (by decide +kernel)
theorem kw_450 : Cond.instanceMethod ⟨"ArcheryField$State", "put", "(ILArcheryField$Archer;)V"⟩ ∈ zWd := zWd_mem (zm3 (List.mem_of_getElem? (i := 23) rfl)) (by decide +kernel)
theorem kw_451 : Cond.selects "ArcheryField$State" ⟨"ArcheryField$State", "put", "(ILArcheryField$Archer;)V"⟩ ⟨"ArcheryField$State", "put", "(ILArcheryField$Archer;)V"⟩ ∈ zWd := zWd_mem (zm3 (List.mem_of_getElem? (i := 24) rfl)) (by decide +kernel)
theorem kw_452 : Cond.methodLink "ArcheryField" 101 ⟨"ArcheryField$State", "find", "(I)LArcheryField$Archer;"⟩ ∈ zWd := zWd_mem (zm3 (List.mem_of_getElem? (i := 30) rfl)) (by decide +kernel)
theorem kw_453 : Cond.fieldLinkNest "ArcheryField" 105 "ArcheryField$State" "line" "LArcheryField$Line;" "ArcheryField" ∈ zNw := zNw_mem (zm1 (List.mem_of_getElem? (i := 190) rfl)) rfl
theorem kw_454 : Cond.methodLink "ArcheryField" 109 ⟨"ArcheryField$Line", "without", "(I)LArcheryField$Line;"⟩ ∈ zWd := zWd_mem (zm3 (List.mem_of_getElem? (i := 34) rfl)) (by decide +kernel)
theorem kw_455 : Cond.code yX2_without cX2_without 4 (some (.object "ArcheryField$Line")) ∈ zWd := zWd_mem (zm3 (List.mem_of_getElem? (i := 37) rfl)) (by decide +kernel)
theorem kw_456 : Cond.instanceMethod ⟨"ArcheryField$Line", "without", "(I)LArcheryField$Line;"⟩ ∈ zWd := zWd_mem (zm3 (List.mem_of_getElem? (i := 35) rfl)) (by decide +kernel)
theorem kw_457 : Cond.selects "ArcheryField$Line" ⟨"ArcheryField$Line", "without", "(I)LArcheryField$Line;"⟩ ⟨"ArcheryField$Line", "without", "(I)LArcheryField$Line;"⟩ ∈ zWd := zWd_mem (zm3 (List.mem_of_getElem? (i := 36) rfl)) (by decide +kernel)
theorem kw_458 : Cond.fieldLinkNest "ArcheryField" 115 "ArcheryField$Archer" "club" "I" "ArcheryField" ∈ zNw := zNw_mem (zm2 (List.mem_of_getElem? (i := 199) rfl)) rfl
theorem kw_459 : Cond.fieldLinkNest "ArcheryField" 118 "ArcheryField$Archer" "shots" "LArcheryField$Shots;" "ArcheryField" ∈ zNw := zNw_mem (zm2 (List.mem_of_getElem? (i := 201) rfl)) rfl
theorem kw_460 : Cond.methodLink "ArcheryField" 122 ⟨"ArcheryField$Shots", "countEnds", "()I"⟩ ∈ zWd := zWd_mem (zm3 (List.mem_of_getElem? (i := 52) rfl)) (by decide +kernel)
theorem kw_461 : Cond.code yX8_countEnds cX8_countEnds 1 (some .int) ∈ zWd := zWd_mem (zm3 (List.mem_of_getElem? (i := 55) rfl)) (by decide +kernel)
theorem kw_462 : Cond.instanceMethod ⟨"ArcheryField$Shots", "countEnds", "()I"⟩ ∈ zWd := zWd_mem (zm3 (List.mem_of_getElem? (i := 53) rfl)) (by decide +kernel)
theorem kw_463 : Cond.selects "ArcheryField$Shots" ⟨"ArcheryField$Shots", "countEnds", "()I"⟩ ⟨"ArcheryField$Shots", "countEnds", "()I"⟩ ∈ zWd := zWd_mem (zm3 (List.mem_of_getElem? (i := 54) rfl)) (by decide +kernel)
theorem kw_464 : Cond.methodLink "ArcheryField" 123 ⟨"ArcheryField$Shots", "total", "()I"⟩ ∈ zWd := zWd_mem (zm3 (List.mem_of_getElem? (i := 56) rfl)) (by decide +kernel)
theorem kw_465 : Cond.methodLink "ArcheryField" 126 ⟨"ArcheryField$Shots", "lastSum", "()I"⟩ ∈ zWd := zWd_mem (zm3 (List.mem_of_getElem? (i := 60) rfl)) (by decide +kernel)
theorem kw_466 : Cond.methodLink "ArcheryField" 129 ⟨"ArcheryField$Shots", "countOffs", "()I"⟩ ∈ zWd := zWd_mem (zm3 (List.mem_of_getElem? (i := 64) rfl)) (by decide +kernel)
theorem kw_467 : Cond.code yX8_countOffs cX8_countOffs 1 (some .int) ∈ zWd := zWd_mem (zm3 (List.mem_of_getElem? (i := 67) rfl)) (by decide +kernel)
theorem kw_468 : Cond.instanceMethod ⟨"ArcheryField$Shots", "countOffs", "()I"⟩ ∈ zWd := zWd_mem (zm3 (List.mem_of_getElem? (i := 65) rfl)) (by decide +kernel)
theorem kw_469 : Cond.selects "ArcheryField$Shots" ⟨"ArcheryField$Shots", "countOffs", "()I"⟩ ⟨"ArcheryField$Shots", "countOffs", "()I"⟩ ∈ zWd := zWd_mem (zm3 (List.mem_of_getElem? (i := 66) rfl)) (by decide +kernel)
theorem kw_470 : Cond.fieldLinkNest "ArcheryField" 132 "ArcheryField$Archer" "scores" "LArcheryField$Scores;" "ArcheryField" ∈ zNw := zNw_mem (zm2 (List.mem_of_getElem? (i := 203) rfl)) rfl
theorem kw_471 : Cond.methodLink "ArcheryField" 136 ⟨"ArcheryField$Scores", "count", "()I"⟩ ∈ zWd := zWd_mem (zm3 (List.mem_of_getElem? (i := 68) rfl)) (by decide +kernel)
theorem kw_472 : Cond.methodLink "ArcheryField" 139 ⟨"ArcheryField$Line", "placeOf", "(I)I"⟩ ∈ zWd := zWd_mem (zm3 (List.mem_of_getElem? (i := 72) rfl)) (by decide +kernel)
theorem kw_473 : Cond.methodLink "ArcheryField" 142 ⟨"ArcheryField$Quiver", "add", "(III)Z"⟩ ∈ zWd := zWd_mem (zm3 (List.mem_of_getElem? (i := 77) rfl)) (by decide +kernel)
theorem kw_474 : Cond.code yX4_add cX4_add 4 (some .boolean) ∈ zWd := zWd_mem (zm3 (List.mem_of_getElem? (i := 80) rfl)) (by decide +kernel)
theorem kw_475 : Cond.instanceMethod ⟨"ArcheryField$Quiver", "add", "(III)Z"⟩ ∈ zWd := zWd_mem (zm3 (List.mem_of_getElem? (i := 78) rfl)) (by decide +kernel)
theorem kw_476 : Cond.selects "ArcheryField$Quiver" ⟨"ArcheryField$Quiver", "add", "(III)Z"⟩ ⟨"ArcheryField$Quiver", "add", "(III)Z"⟩ ∈ zWd := zWd_mem (zm3 (List.mem_of_getElem? (i := 79) rfl)) (by decide +kernel)
theorem kw_477 : Cond.fieldLinkNest "ArcheryField" 146 "ArcheryField$Quiver" "count" "I" "ArcheryField" ∈ zNw := zNw_mem (zm1 (List.mem_of_getElem? (i := 129) rfl)) rfl
theorem kw_478 : Cond.methodLink "ArcheryField" 148 ⟨"ArcheryField$Quiver", "empty", "()I"⟩ ∈ zWd := zWd_mem (zm3 (List.mem_of_getElem? (i := 91) rfl)) (by decide +kernel)
theorem kw_479 : Cond.code yX4_empty cX4_empty 2 (some .int) ∈ zWd := zWd_mem (zm3 (List.mem_of_getElem? (i := 94) rfl)) (by decide +kernel)
theorem kw_480 : Cond.instanceMethod ⟨"ArcheryField$Quiver", "empty", "()I"⟩ ∈ zWd := zWd_mem (zm3 (List.mem_of_getElem? (i := 92) rfl)) (by decide +kernel)
theorem kw_481 : Cond.selects "ArcheryField$Quiver" ⟨"ArcheryField$Quiver", "empty", "()I"⟩ ⟨"ArcheryField$Quiver", "empty", "()I"⟩ ∈ zWd := zWd_mem (zm3 (List.mem_of_getElem? (i := 93) rfl)) (by decide +kernel)
theorem kw_482 : Cond.methodLink "ArcheryField" 151 ⟨"ArcheryField$Round", "legOf", "(I)I"⟩ ∈ zWd := zWd_mem (zm3 (List.mem_of_getElem? (i := 95) rfl)) (by decide +kernel)
theorem kw_483 : Cond.code yX6_legOf cX6_legOf 4 (some .int) ∈ zWd := zWd_mem (zm3 (List.mem_of_getElem? (i := 98) rfl)) (by decide +kernel)
theorem kw_484 : Cond.instanceMethod ⟨"ArcheryField$Round", "legOf", "(I)I"⟩ ∈ zWd := zWd_mem (zm3 (List.mem_of_getElem? (i := 96) rfl)) (by decide +kernel)
theorem kw_485 : Cond.selects "ArcheryField$Round" ⟨"ArcheryField$Round", "legOf", "(I)I"⟩ ⟨"ArcheryField$Round", "legOf", "(I)I"⟩ ∈ zWd := zWd_mem (zm3 (List.mem_of_getElem? (i := 97) rfl)) (by decide +kernel)
theorem kw_486 : Cond.methodLink "ArcheryField" 154 ⟨"ArcheryField$Round", "arrowsOf", "(I)I"⟩ ∈ zWd := zWd_mem (zm3 (List.mem_of_getElem? (i := 99) rfl)) (by decide +kernel)
theorem kw_487 : Cond.code yX6_arrowsOf cX6_arrowsOf 2 (some .int) ∈ zWd := zWd_mem (zm3 (List.mem_of_getElem? (i := 102) rfl)) (by decide +kernel)
theorem kw_488 : Cond.instanceMethod ⟨"ArcheryField$Round", "arrowsOf", "(I)I"⟩ ∈ zWd := zWd_mem (zm3 (List.mem_of_getElem? (i := 100) rfl)) (by decide +kernel)
theorem kw_489 : Cond.selects "ArcheryField$Round" ⟨"ArcheryField$Round", "arrowsOf", "(I)I"⟩ ⟨"ArcheryField$Round", "arrowsOf", "(I)I"⟩ ∈ zWd := zWd_mem (zm3 (List.mem_of_getElem? (i := 101) rfl)) (by decide +kernel)
theorem kw_490 : Cond.methodLink "ArcheryField" 157 ⟨"ArcheryField$Quiver", "judge", "(LArcheryField$Round;II)I"⟩ ∈ zWd := zWd_mem (zm3 (List.mem_of_getElem? (i := 103) rfl)) (by decide +kernel)
theorem kw_491 : Cond.code yX4_judge cX4_judge 7 (some .int) ∈ zWd := zWd_mem (zm3 (List.mem_of_getElem? (i := 106) rfl)) (by decide +kernel)
theorem kw_492 : Cond.instanceMethod ⟨"ArcheryField$Quiver", "judge", "(LArcheryField$Round;II)I"⟩ ∈ zWd := zWd_mem (zm3 (List.mem_of_getElem? (i := 104) rfl)) (by decide +kernel)
theorem kw_493 : Cond.selects "ArcheryField$Quiver" ⟨"ArcheryField$Quiver", "judge", "(LArcheryField$Round;II)I"⟩ ⟨"ArcheryField$Quiver", "judge", "(LArcheryField$Round;II)I"⟩ ∈ zWd := zWd_mem (zm3 (List.mem_of_getElem? (i := 105) rfl)) (by decide +kernel)
theorem kw_494 : Cond.fieldLinkNest "ArcheryField" 161 "ArcheryField$Quiver" "judged" "[I" "ArcheryField" ∈ zNw := zNw_mem (zm1 (List.mem_of_getElem? (i := 131) rfl)) rfl
theorem kw_495 : Cond.methodLink "ArcheryField" 165 ⟨"ArcheryField$Shots", "withEnd", "([III)LArcheryField$Shots;"⟩ ∈ zWd := zWd_mem (zm3 (List.mem_of_getElem? (i := 120) rfl)) (by decide +kernel)
theorem kw_496 : Cond.code yX8_withEnd cX8_withEnd 6 (some (.object "ArcheryField$Shots")) ∈ zWd := zWd_mem (zm3 (List.mem_of_getElem? (i := 123) rfl)) (by decide +kernel)
theorem kw_497 : Cond.instanceMethod ⟨"ArcheryField$Shots", "withEnd", "([III)LArcheryField$Shots;"⟩ ∈ zWd := zWd_mem (zm3 (List.mem_of_getElem? (i := 121) rfl)) (by decide +kernel)
theorem kw_498 : Cond.selects "ArcheryField$Shots" ⟨"ArcheryField$Shots", "withEnd", "([III)LArcheryField$Shots;"⟩ ⟨"ArcheryField$Shots", "withEnd", "([III)LArcheryField$Shots;"⟩ ∈ zWd := zWd_mem (zm3 (List.mem_of_getElem? (i := 122) rfl)) (by decide +kernel)
theorem kw_499 : Cond.methodLink "ArcheryField" 169 ⟨"ArcheryField$Archer", "with", "(LArcheryField$Shots;)LArcheryField$Archer;"⟩ ∈ zWd := zWd_mem (zm3 (List.mem_of_getElem? (i := 142) rfl)) (by decide +kernel)
theorem kw_500 : Cond.methodLink "ArcheryField" 173 ⟨"ArcheryField$Shots", "counted", "(I)I"⟩ ∈ zWd := zWd_mem (zm3 (List.mem_of_getElem? (i := 147) rfl)) (by decide +kernel)
theorem kw_501 : Cond.code yX8_counted cX8_counted 2 (some .int) ∈ zWd := zWd_mem (zm3 (List.mem_of_getElem? (i := 150) rfl)) (by decide +kernel)
theorem kw_502 : Cond.instanceMethod ⟨"ArcheryField$Shots", "counted", "(I)I"⟩ ∈ zWd := zWd_mem (zm3 (List.mem_of_getElem? (i := 148) rfl)) (by decide +kernel)
theorem kw_503 : Cond.selects "ArcheryField$Shots" ⟨"ArcheryField$Shots", "counted", "(I)I"⟩ ⟨"ArcheryField$Shots", "counted", "(I)I"⟩ ∈ zWd := zWd_mem (zm3 (List.mem_of_getElem? (i := 149) rfl)) (by decide +kernel)
theorem kw_504 : Cond.methodLink "ArcheryField" 176 ⟨"ArcheryField$Shots", "withoutLast", "(I)LArcheryField$Shots;"⟩ ∈ zWd := zWd_mem (zm3 (List.mem_of_getElem? (i := 155) rfl)) (by decide +kernel)
theorem kw_505 : Cond.code yX8_withoutLast cX8_withoutLast 4 (some (.object "ArcheryField$Shots")) ∈ zWd := zWd_mem (zm3 (List.mem_of_getElem? (i := 158) rfl)) (by decide +kernel)
theorem kw_506 : Cond.instanceMethod ⟨"ArcheryField$Shots", "withoutLast", "(I)LArcheryField$Shots;"⟩ ∈ zWd := zWd_mem (zm3 (List.mem_of_getElem? (i := 156) rfl)) (by decide +kernel)
theorem kw_507 : Cond.selects "ArcheryField$Shots" ⟨"ArcheryField$Shots", "withoutLast", "(I)LArcheryField$Shots;"⟩ ⟨"ArcheryField$Shots", "withoutLast", "(I)LArcheryField$Shots;"⟩ ∈ zWd := zWd_mem (zm3 (List.mem_of_getElem? (i := 157) rfl)) (by decide +kernel)
theorem kw_508 : Cond.methodLink "ArcheryField" 185 ⟨"ArcheryField$Shots", "withOff", "(I)LArcheryField$Shots;"⟩ ∈ zWd := zWd_mem (zm3 (List.mem_of_getElem? (i := 165) rfl)) (by decide +kernel)
theorem kw_509 : Cond.code yX8_withOff cX8_withOff 2 (some (.object "ArcheryField$Shots")) ∈ zWd := zWd_mem (zm3 (List.mem_of_getElem? (i := 168) rfl)) (by decide +kernel)
theorem kw_510 : Cond.instanceMethod ⟨"ArcheryField$Shots", "withOff", "(I)LArcheryField$Shots;"⟩ ∈ zWd := zWd_mem (zm3 (List.mem_of_getElem? (i := 166) rfl)) (by decide +kernel)
theorem kw_511 : Cond.selects "ArcheryField$Shots" ⟨"ArcheryField$Shots", "withOff", "(I)LArcheryField$Shots;"⟩ ⟨"ArcheryField$Shots", "withOff", "(I)LArcheryField$Shots;"⟩ ∈ zWd := zWd_mem (zm3 (List.mem_of_getElem? (i := 167) rfl)) (by decide +kernel)
theorem kw_512 : Cond.constant "ArcheryField" 184 1000000000 ∈ zWd := zWd_mem (zm3 (List.mem_of_getElem? (i := 164) rfl)) (by decide +kernel)
theorem kw_513 : Cond.methodLink "ArcheryField" 180 ⟨"ArcheryField", "isOnField", "(II)Z"⟩ ∈ zWd := zWd_mem (zm3 (List.mem_of_getElem? (i := 163) rfl)) (by decide +kernel)
theorem kw_514 : Cond.methodLink "ArcheryField" 188 ⟨"ArcheryField$Round", "compare", "(LArcheryField$Shots;LArcheryField$Shots;)I"⟩ ∈ zWd := zWd_mem (zm3 (List.mem_of_getElem? (i := 173) rfl)) (by decide +kernel)
theorem kw_515 : Cond.code yX6_compare cX6_compare 5 (some .int) ∈ zWd := zWd_mem (zm3 (List.mem_of_getElem? (i := 176) rfl)) (by decide +kernel)
theorem kw_516 : Cond.instanceMethod ⟨"ArcheryField$Round", "compare", "(LArcheryField$Shots;LArcheryField$Shots;)I"⟩ ∈ zWd := zWd_mem (zm3 (List.mem_of_getElem? (i := 174) rfl)) (by decide +kernel)
theorem kw_517 : Cond.selects "ArcheryField$Round" ⟨"ArcheryField$Round", "compare", "(LArcheryField$Shots;LArcheryField$Shots;)I"⟩ ⟨"ArcheryField$Round", "compare", "(LArcheryField$Shots;LArcheryField$Shots;)I"⟩ ∈ zWd := zWd_mem (zm3 (List.mem_of_getElem? (i := 175) rfl)) (by decide +kernel)
theorem kw_518 : Cond.constant "ArcheryField" 274 36500 ∈ zWd := zWd_mem (zm3 (List.mem_of_getElem? (i := 208) rfl)) (by decide +kernel)
theorem kw_519 : Cond.methodLink "ArcheryField" 192 ⟨"ArcheryField", "isDay", "(I)Z"⟩ ∈ zWd := zWd_mem (zm3 (List.mem_of_getElem? (i := 205) rfl)) (by decide +kernel)
theorem kw_520 : Cond.code yX11_isDay cX11_isDay 1 (some .boolean) ∈ zWd := zWd_mem (zm3 (List.mem_of_getElem? (i := 207) rfl)) (by decide +kernel)
theorem kw_521 : Cond.static ⟨"ArcheryField", "isDay", "(I)Z"⟩ ∈ zWd := zWd_mem (zm3 (List.mem_of_getElem? (i := 206) rfl)) (by decide +kernel)
theorem kw_522 : Cond.fieldLinkNest "ArcheryField" 196 "ArcheryField$State" "today" "I" "ArcheryField" ∈ zNw := zNw_mem (zm1 (List.mem_of_getElem? (i := 192) rfl)) rfl
theorem kw_523 : Cond.methodLink "ArcheryField" 199 ⟨"ArcheryField", "isScore", "(I)Z"⟩ ∈ zWd := zWd_mem (zm3 (List.mem_of_getElem? (i := 213) rfl)) (by decide +kernel)
theorem kw_524 : Cond.code yX11_isScore cX11_isScore 1 (some .boolean) ∈ zWd := zWd_mem (zm3 (List.mem_of_getElem? (i := 215) rfl)) (by decide +kernel)
theorem kw_525 : Cond.static ⟨"ArcheryField", "isScore", "(I)Z"⟩ ∈ zWd := zWd_mem (zm3 (List.mem_of_getElem? (i := 214) rfl)) (by decide +kernel)
theorem kw_526 : Cond.methodLink "ArcheryField" 202 ⟨"ArcheryField$Scores", "with", "(III)LArcheryField$Scores;"⟩ ∈ zWd := zWd_mem (zm3 (List.mem_of_getElem? (i := 216) rfl)) (by decide +kernel)
theorem kw_527 : Cond.code yX7_with cX7_with 5 (some (.object "ArcheryField$Scores")) ∈ zWd := zWd_mem (zm3 (List.mem_of_getElem? (i := 219) rfl)) (by decide +kernel)
theorem kw_528 : Cond.instanceMethod ⟨"ArcheryField$Scores", "with", "(III)LArcheryField$Scores;"⟩ ∈ zWd := zWd_mem (zm3 (List.mem_of_getElem? (i := 217) rfl)) (by decide +kernel)
theorem kw_529 : Cond.selects "ArcheryField$Scores" ⟨"ArcheryField$Scores", "with", "(III)LArcheryField$Scores;"⟩ ⟨"ArcheryField$Scores", "with", "(III)LArcheryField$Scores;"⟩ ∈ zWd := zWd_mem (zm3 (List.mem_of_getElem? (i := 218) rfl)) (by decide +kernel)
theorem kw_530 : Cond.methodLink "ArcheryField" 205 ⟨"ArcheryField$Archer", "with", "(LArcheryField$Scores;)LArcheryField$Archer;"⟩ ∈ zWd := zWd_mem (zm3 (List.mem_of_getElem? (i := 222) rfl)) (by decide +kernel)
theorem kw_531 : Cond.code yX0_with_ cX0_with_ 2 (some (.object "ArcheryField$Archer")) ∈ zWd := zWd_mem (zm3 (List.mem_of_getElem? (i := 225) rfl)) (by decide +kernel)
theorem kw_532 : Cond.instanceMethod ⟨"ArcheryField$Archer", "with", "(LArcheryField$Scores;)LArcheryField$Archer;"⟩ ∈ zWd := zWd_mem (zm3 (List.mem_of_getElem? (i := 223) rfl)) (by decide +kernel)
theorem kw_533 : Cond.selects "ArcheryField$Archer" ⟨"ArcheryField$Archer", "with", "(LArcheryField$Scores;)LArcheryField$Archer;"⟩ ⟨"ArcheryField$Archer", "with", "(LArcheryField$Scores;)LArcheryField$Archer;"⟩ ∈ zWd := zWd_mem (zm3 (List.mem_of_getElem? (i := 224) rfl)) (by decide +kernel)
theorem kw_534 : Cond.methodLink "ArcheryField" 208 ⟨"ArcheryField$Scores", "canStrike", "(I)Z"⟩ ∈ zWd := zWd_mem (zm3 (List.mem_of_getElem? (i := 230) rfl)) (by decide +kernel)
theorem kw_535 : Cond.code yX7_canStrike cX7_canStrike 2 (some .boolean) ∈ zWd := zWd_mem (zm3 (List.mem_of_getElem? (i := 233) rfl)) (by decide +kernel)
theorem kw_536 : Cond.instanceMethod ⟨"ArcheryField$Scores", "canStrike", "(I)Z"⟩ ∈ zWd := zWd_mem (zm3 (List.mem_of_getElem? (i := 231) rfl)) (by decide +kernel)
theorem kw_537 : Cond.selects "ArcheryField$Scores" ⟨"ArcheryField$Scores", "canStrike", "(I)Z"⟩ ⟨"ArcheryField$Scores", "canStrike", "(I)Z"⟩ ∈ zWd := zWd_mem (zm3 (List.mem_of_getElem? (i := 232) rfl)) (by decide +kernel)
theorem kw_538 : Cond.methodLink "ArcheryField" 211 ⟨"ArcheryField$Scores", "withStruck", "(II)LArcheryField$Scores;"⟩ ∈ zWd := zWd_mem (zm3 (List.mem_of_getElem? (i := 235) rfl)) (by decide +kernel)
theorem kw_539 : Cond.code yX7_withStruck cX7_withStruck 4 (some (.object "ArcheryField$Scores")) ∈ zWd := zWd_mem (zm3 (List.mem_of_getElem? (i := 238) rfl)) (by decide +kernel)
theorem kw_540 : Cond.instanceMethod ⟨"ArcheryField$Scores", "withStruck", "(II)LArcheryField$Scores;"⟩ ∈ zWd := zWd_mem (zm3 (List.mem_of_getElem? (i := 236) rfl)) (by decide +kernel)
theorem kw_541 : Cond.selects "ArcheryField$Scores" ⟨"ArcheryField$Scores", "withStruck", "(II)LArcheryField$Scores;"⟩ ⟨"ArcheryField$Scores", "withStruck", "(II)LArcheryField$Scores;"⟩ ∈ zWd := zWd_mem (zm3 (List.mem_of_getElem? (i := 237) rfl)) (by decide +kernel)
theorem kw_542 : Cond.fieldLinkNest "ArcheryField" 215 "ArcheryField$State" "laws" "LArcheryField$Laws;" "ArcheryField" ∈ zNw := zNw_mem (zm1 (List.mem_of_getElem? (i := 188) rfl)) rfl
theorem kw_543 : Cond.methodLink "ArcheryField" 219 ⟨"ArcheryField$Laws", "canAdd", "(II)Z"⟩ ∈ zWd := zWd_mem (zm4 (List.mem_of_getElem? (i := 5) rfl)) (by decide +kernel)
theorem kw_544 : Cond.code yX1_canAdd cX1_canAdd 4 (some .boolean) ∈ zWd := zWd_mem (zm4 (List.mem_of_getElem? (i := 8) rfl)) (by decide +kernel)
theorem kw_545 : Cond.instanceMethod ⟨"ArcheryField$Laws", "canAdd", "(II)Z"⟩ ∈ zWd := zWd_mem (zm4 (List.mem_of_getElem? (i := 6) rfl)) (by decide +kernel)
theorem kw_546 : Cond.selects "ArcheryField$Laws" ⟨"ArcheryField$Laws", "canAdd", "(II)Z"⟩ ⟨"ArcheryField$Laws", "canAdd", "(II)Z"⟩ ∈ zWd := zWd_mem (zm4 (List.mem_of_getElem? (i := 7) rfl)) (by decide +kernel)
theorem kw_547 : Cond.methodLink "ArcheryField" 224 ⟨"ArcheryField$Laws", "with", "(III)LArcheryField$Laws;"⟩ ∈ zWd := zWd_mem (zm4 (List.mem_of_getElem? (i := 13) rfl)) (by decide +kernel)
theorem kw_548 : Cond.code yX1_with cX1_with 5 (some (.object "ArcheryField$Laws")) ∈ zWd := zWd_mem (zm4 (List.mem_of_getElem? (i := 16) rfl)) (by decide +kernel)
theorem kw_549 : Cond.instanceMethod ⟨"ArcheryField$Laws", "with", "(III)LArcheryField$Laws;"⟩ ∈ zWd := zWd_mem (zm4 (List.mem_of_getElem? (i := 14) rfl)) (by decide +kernel)
theorem kw_550 : Cond.selects "ArcheryField$Laws" ⟨"ArcheryField$Laws", "with", "(III)LArcheryField$Laws;"⟩ ⟨"ArcheryField$Laws", "with", "(III)LArcheryField$Laws;"⟩ ∈ zWd := zWd_mem (zm4 (List.mem_of_getElem? (i := 15) rfl)) (by decide +kernel)
theorem kw_551 : Cond.methodLink "ArcheryField" 227 ⟨"ArcheryField$Laws", "count", "()I"⟩ ∈ zWd := zWd_mem (zm4 (List.mem_of_getElem? (i := 19) rfl)) (by decide +kernel)
theorem kw_552 : Cond.methodLink "ArcheryField" 228 ⟨"ArcheryField$Laws", "classOf", "(LArcheryField$Scores;II)I"⟩ ∈ zWd := zWd_mem (zm4 (List.mem_of_getElem? (i := 24) rfl)) (by decide +kernel)
theorem kw_553 : Cond.code yX1_classOf cX1_classOf 6 (some .int) ∈ zWd := zWd_mem (zm4 (List.mem_of_getElem? (i := 27) rfl)) (by decide +kernel)
theorem kw_554 : Cond.instanceMethod ⟨"ArcheryField$Laws", "classOf", "(LArcheryField$Scores;II)I"⟩ ∈ zWd := zWd_mem (zm4 (List.mem_of_getElem? (i := 25) rfl)) (by decide +kernel)
theorem kw_555 : Cond.selects "ArcheryField$Laws" ⟨"ArcheryField$Laws", "classOf", "(LArcheryField$Scores;II)I"⟩ ⟨"ArcheryField$Laws", "classOf", "(LArcheryField$Scores;II)I"⟩ ∈ zWd := zWd_mem (zm4 (List.mem_of_getElem? (i := 26) rfl)) (by decide +kernel)
theorem kw_556 : Cond.methodLink "ArcheryField" 232 ⟨"ArcheryField$Line", "canAdd", "(I)Z"⟩ ∈ zWd := zWd_mem (zm4 (List.mem_of_getElem? (i := 40) rfl)) (by decide +kernel)
theorem kw_557 : Cond.methodLink "ArcheryField" 234 ⟨"ArcheryField$Line", "withBay", "(I)LArcheryField$Line;"⟩ ∈ zWd := zWd_mem (zm4 (List.mem_of_getElem? (i := 48) rfl)) (by decide +kernel)
theorem kw_558 : Cond.code yX2_withBay cX2_withBay 7 (some (.object "ArcheryField$Line")) ∈ zWd := zWd_mem (zm4 (List.mem_of_getElem? (i := 51) rfl)) (by decide +kernel)
theorem kw_559 : Cond.instanceMethod ⟨"ArcheryField$Line", "withBay", "(I)LArcheryField$Line;"⟩ ∈ zWd := zWd_mem (zm4 (List.mem_of_getElem? (i := 49) rfl)) (by decide +kernel)
theorem kw_560 : Cond.selects "ArcheryField$Line" ⟨"ArcheryField$Line", "withBay", "(I)LArcheryField$Line;"⟩ ⟨"ArcheryField$Line", "withBay", "(I)LArcheryField$Line;"⟩ ∈ zWd := zWd_mem (zm4 (List.mem_of_getElem? (i := 50) rfl)) (by decide +kernel)
theorem kw_561 : Cond.methodLink "ArcheryField" 237 ⟨"ArcheryField$Line", "countLanes", "()I"⟩ ∈ zWd := zWd_mem (zm4 (List.mem_of_getElem? (i := 57) rfl)) (by decide +kernel)
theorem kw_562 : Cond.methodLink "ArcheryField" 240 ⟨"ArcheryField$Line", "countPlaces", "()I"⟩ ∈ zWd := zWd_mem (zm4 (List.mem_of_getElem? (i := 62) rfl)) (by decide +kernel)
theorem kw_563 : Cond.code yX2_countPlaces cX2_countPlaces 1 (some .int) ∈ zWd := zWd_mem (zm4 (List.mem_of_getElem? (i := 65) rfl)) (by decide +kernel)
theorem kw_564 : Cond.instanceMethod ⟨"ArcheryField$Line", "countPlaces", "()I"⟩ ∈ zWd := zWd_mem (zm4 (List.mem_of_getElem? (i := 63) rfl)) (by decide +kernel)
theorem kw_565 : Cond.selects "ArcheryField$Line" ⟨"ArcheryField$Line", "countPlaces", "()I"⟩ ⟨"ArcheryField$Line", "countPlaces", "()I"⟩ ∈ zWd := zWd_mem (zm4 (List.mem_of_getElem? (i := 64) rfl)) (by decide +kernel)
theorem kw_566 : Cond.classLink "ArcheryField" 243 "ArcheryField$Planner" ∈ zWd := zWd_mem (zm4 (List.mem_of_getElem? (i := 66) rfl)) (by decide +kernel)
theorem kw_567 : Cond.instantiable "ArcheryField$Planner" 7 ∈ zWd := zWd_mem (zm4 (List.mem_of_getElem? (i := 67) rfl)) (by decide +kernel)
theorem kw_568 : Cond.methodLink "ArcheryField" 245 ⟨"ArcheryField$Planner", "<init>", "(LArcheryField$State;I)V"⟩ ∈ zWd := zWd_mem (zm4 (List.mem_of_getElem? (i := 68) rfl)) (by decide +kernel)
theorem kw_569 : Cond.code yX3_init cX3_init 5 none ∈ zWd := zWd_mem (zm4 (List.mem_of_getElem? (i := 70) rfl)) (by decide +kernel)
theorem kw_570 : Cond.instanceMethod ⟨"ArcheryField$Planner", "<init>", "(LArcheryField$State;I)V"⟩ ∈ zWd := zWd_mem (zm4 (List.mem_of_getElem? (i := 69) rfl)) (by decide +kernel)
theorem kw_571 : Cond.methodLink "ArcheryField" 248 ⟨"ArcheryField$Planner", "search", "()I"⟩ ∈ zWd := zWd_mem (zm4 (List.mem_of_getElem? (i := 98) rfl)) (by decide +kernel)
theorem kw_572 : Cond.code yX3_search cX3_search 5 (some .int) ∈ zWd := zWd_mem (zm4 (List.mem_of_getElem? (i := 101) rfl)) (by decide +kernel)
theorem kw_573 : Cond.instanceMethod ⟨"ArcheryField$Planner", "search", "()I"⟩ ∈ zWd := zWd_mem (zm4 (List.mem_of_getElem? (i := 99) rfl)) (by decide +kernel)
theorem kw_574 : Cond.selects "ArcheryField$Planner" ⟨"ArcheryField$Planner", "search", "()I"⟩ ⟨"ArcheryField$Planner", "search", "()I"⟩ ∈ zWd := zWd_mem (zm4 (List.mem_of_getElem? (i := 100) rfl)) (by decide +kernel)
theorem kw_575 : Cond.fieldLinkNest "ArcheryField" 251 "ArcheryField$Planner" "seats" "[I" "ArcheryField" ∈ zNw := zNw_mem (zm4 (List.mem_of_getElem? (i := 80) rfl)) rfl
theorem kw_576 : Cond.methodLink "ArcheryField" 254 ⟨"ArcheryField$Line", "withSeats", "([I)LArcheryField$Line;"⟩ ∈ zWd := zWd_mem (zm4 (List.mem_of_getElem? (i := 123) rfl)) (by decide +kernel)
theorem kw_577 : Cond.code yX2_withSeats cX2_withSeats 2 (some (.object "ArcheryField$Line")) ∈ zWd := zWd_mem (zm4 (List.mem_of_getElem? (i := 126) rfl)) (by decide +kernel)
theorem kw_578 : Cond.instanceMethod ⟨"ArcheryField$Line", "withSeats", "([I)LArcheryField$Line;"⟩ ∈ zWd := zWd_mem (zm4 (List.mem_of_getElem? (i := 124) rfl)) (by decide +kernel)
theorem kw_579 : Cond.selects "ArcheryField$Line" ⟨"ArcheryField$Line", "withSeats", "([I)LArcheryField$Line;"⟩ ⟨"ArcheryField$Line", "withSeats", "([I)LArcheryField$Line;"⟩ ∈ zWd := zWd_mem (zm4 (List.mem_of_getElem? (i := 125) rfl)) (by decide +kernel)
theorem kw_580 : Cond.methodLink "ArcheryField" 258 ⟨"ArcheryField$Line", "seatedOn", "(I)I"⟩ ∈ zWd := zWd_mem (zm4 (List.mem_of_getElem? (i := 131) rfl)) (by decide +kernel)
theorem kw_581 : Cond.code yX2_seatedOn cX2_seatedOn 2 (some .int) ∈ zWd := zWd_mem (zm4 (List.mem_of_getElem? (i := 134) rfl)) (by decide +kernel)
theorem kw_582 : Cond.instanceMethod ⟨"ArcheryField$Line", "seatedOn", "(I)I"⟩ ∈ zWd := zWd_mem (zm4 (List.mem_of_getElem? (i := 132) rfl)) (by decide +kernel)
theorem kw_583 : Cond.selects "ArcheryField$Line" ⟨"ArcheryField$Line", "seatedOn", "(I)I"⟩ ⟨"ArcheryField$Line", "seatedOn", "(I)I"⟩ ∈ zWd := zWd_mem (zm4 (List.mem_of_getElem? (i := 133) rfl)) (by decide +kernel)
theorem kw_584 : Cond.methodLink "ArcheryField" 261 ⟨"ArcheryField$Line", "mayBecome", "(II)Z"⟩ ∈ zWd := zWd_mem (zm4 (List.mem_of_getElem? (i := 139) rfl)) (by decide +kernel)
theorem kw_585 : Cond.code yX2_mayBecome cX2_mayBecome 3 (some .boolean) ∈ zWd := zWd_mem (zm4 (List.mem_of_getElem? (i := 142) rfl)) (by decide +kernel)
theorem kw_586 : Cond.instanceMethod ⟨"ArcheryField$Line", "mayBecome", "(II)Z"⟩ ∈ zWd := zWd_mem (zm4 (List.mem_of_getElem? (i := 140) rfl)) (by decide +kernel)
theorem kw_587 : Cond.selects "ArcheryField$Line" ⟨"ArcheryField$Line", "mayBecome", "(II)Z"⟩ ⟨"ArcheryField$Line", "mayBecome", "(II)Z"⟩ ∈ zWd := zWd_mem (zm4 (List.mem_of_getElem? (i := 141) rfl)) (by decide +kernel)
theorem kw_588 : Cond.methodLink "ArcheryField" 264 ⟨"ArcheryField$Line", "stateOf", "(I)I"⟩ ∈ zWd := zWd_mem (zm4 (List.mem_of_getElem? (i := 151) rfl)) (by decide +kernel)
theorem kw_589 : Cond.methodLink "ArcheryField" 267 ⟨"ArcheryField$Line", "withState", "(II)LArcheryField$Line;"⟩ ∈ zWd := zWd_mem (zm4 (List.mem_of_getElem? (i := 152) rfl)) (by decide +kernel)
theorem kw_590 : Cond.code yX2_withState cX2_withState 4 (some (.object "ArcheryField$Line")) ∈ zWd := zWd_mem (zm4 (List.mem_of_getElem? (i := 155) rfl)) (by decide +kernel)
theorem kw_591 : Cond.instanceMethod ⟨"ArcheryField$Line", "withState", "(II)LArcheryField$Line;"⟩ ∈ zWd := zWd_mem (zm4 (List.mem_of_getElem? (i := 153) rfl)) (by decide +kernel)
theorem kw_592 : Cond.selects "ArcheryField$Line" ⟨"ArcheryField$Line", "withState", "(II)LArcheryField$Line;"⟩ ⟨"ArcheryField$Line", "withState", "(II)LArcheryField$Line;"⟩ ∈ zWd := zWd_mem (zm4 (List.mem_of_getElem? (i := 154) rfl)) (by decide +kernel)
theorem kw_593 : Cond.fieldLink "ArcheryFieldModel" 8 "ArcheryFieldModel" "d" "[I" ∈ zWd := zWd_mem (zm4 (List.mem_of_getElem? (i := 171) rfl)) (by decide +kernel)
theorem kw_594 : Cond.methodLink "ArcheryFieldModel" 1 ⟨"java/lang/Object", "<init>", "()V"⟩ ∈ zWd := zWd_mem (zm4 (List.mem_of_getElem? (i := 169) rfl)) (by decide +kernel)
theorem kw_595 : Cond.constant "ArcheryFieldModel" 7 34490 ∈ zWd := zWd_mem (zm4 (List.mem_of_getElem? (i := 170) rfl)) (by decide +kernel)
theorem kw_596 : Cond.fieldLink "ArcheryFieldModel" 14 "ArcheryFieldModel" "tape" "[I" ∈ zWd := zWd_mem (zm4 (List.mem_of_getElem? (i := 173) rfl)) (by decide +kernel)
theorem kw_597 : Cond.fieldLink "ArcheryFieldModel" 17 "ArcheryFieldModel" "faultPlace" "I" ∈ zWd := zWd_mem (zm4 (List.mem_of_getElem? (i := 183) rfl)) (by decide +kernel)
theorem kw_598 : Cond.arrayClass Jvm.ClassFile.FieldType.char ∈ zWd := zWd_mem (zm5 (List.mem_of_getElem? (i := 25) rfl)) (by decide +kernel)
theorem kw_599 : Cond.fieldLink "ArcheryFieldModel" 21 "ArcheryFieldModel" "faceWord" "[C" ∈ zWd := zWd_mem (zm4 (List.mem_of_getElem? (i := 184) rfl)) (by decide +kernel)
theorem kw_600 : Cond.fieldLink "ArcheryFieldModel" 25 "ArcheryFieldModel" "legWord" "[C" ∈ zWd := zWd_mem (zm4 (List.mem_of_getElem? (i := 185) rfl)) (by decide +kernel)
theorem kw_601 : Cond.fieldLink "ArcheryFieldModel" 28 "ArcheryFieldModel" "mostWord" "[C" ∈ zWd := zWd_mem (zm4 (List.mem_of_getElem? (i := 186) rfl)) (by decide +kernel)
theorem kw_602 : Cond.fieldLink "ArcheryFieldModel" 31 "ArcheryFieldModel" "lastWord" "[C" ∈ zWd := zWd_mem (zm4 (List.mem_of_getElem? (i := 187) rfl)) (by decide +kernel)
theorem kw_603 : Cond.fieldLink "ArcheryFieldModel" 34 "ArcheryFieldModel" "nearestWord" "[C" ∈ zWd := zWd_mem (zm4 (List.mem_of_getElem? (i := 188) rfl)) (by decide +kernel)
theorem kw_604 : Cond.fieldLink "ArcheryFieldModel" 37 "ArcheryFieldModel" "bouncedWord" "[C" ∈ zWd := zWd_mem (zm4 (List.mem_of_getElem? (i := 189) rfl)) (by decide +kernel)
theorem kw_605 : Cond.fieldLink "ArcheryFieldModel" 40 "ArcheryFieldModel" "passedWord" "[C" ∈ zWd := zWd_mem (zm4 (List.mem_of_getElem? (i := 190) rfl)) (by decide +kernel)
theorem kw_606 : Cond.fieldLink "ArcheryFieldModel" 43 "ArcheryFieldModel" "shaftWord" "[C" ∈ zWd := zWd_mem (zm4 (List.mem_of_getElem? (i := 191) rfl)) (by decide +kernel)
theorem kw_607 : Cond.fieldLink "ArcheryFieldModel" 46 "ArcheryFieldModel" "\x72" "[I" ∈ zWd := zWd_mem (zm4 (List.mem_of_getElem? (i := 192) rfl)) (by decide +kernel)
theorem kw_608 : Cond.arrayClass Jvm.ClassFile.FieldType.boolean ∈ zWd := zWd_mem (zm5 (List.mem_of_getElem? (i := 26) rfl)) (by decide +kernel)
theorem kw_609 : Cond.fieldLink "ArcheryFieldModel" 49 "ArcheryFieldModel" "had" "[Z" ∈ zWd := zWd_mem (zm4 (List.mem_of_getElem? (i := 193) rfl)) (by decide +kernel)
theorem kw_610 : Cond.fieldLink "ArcheryFieldModel" 53 "ArcheryFieldModel" "waitKind" "[I" ∈ zWd := zWd_mem (zm4 (List.mem_of_getElem? (i := 195) rfl)) (by decide +kernel)
theorem kw_611 : Cond.fieldLink "ArcheryFieldModel" 56 "ArcheryFieldModel" "waitX" "[I" ∈ zWd := zWd_mem (zm4 (List.mem_of_getElem? (i := 196) rfl)) (by decide +kernel)
theorem kw_612 : Cond.fieldLink "ArcheryFieldModel" 59 "ArcheryFieldModel" "waitY" "[I" ∈ zWd := zWd_mem (zm4 (List.mem_of_getElem? (i := 197) rfl)) (by decide +kernel)
theorem kw_613 : Cond.fieldLink "ArcheryFieldModel" 62 "ArcheryFieldModel" "counted" "[I" ∈ zWd := zWd_mem (zm4 (List.mem_of_getElem? (i := 198) rfl)) (by decide +kernel)
theorem kw_614 : Cond.fieldLink "ArcheryFieldModel" 65 "ArcheryFieldModel" "who" "[I" ∈ zWd := zWd_mem (zm4 (List.mem_of_getElem? (i := 200) rfl)) (by decide +kernel)
theorem kw_615 : Cond.fieldLink "ArcheryFieldModel" 68 "ArcheryFieldModel" "where" "[I" ∈ zWd := zWd_mem (zm4 (List.mem_of_getElem? (i := 201) rfl)) (by decide +kernel)
theorem kw_616 : Cond.fieldLink "ArcheryFieldModel" 71 "ArcheryFieldModel" "changes" "I" ∈ zWd := zWd_mem (zm4 (List.mem_of_getElem? (i := 172) rfl)) (by decide +kernel)
theorem kw_617 : Cond.fieldLink "ArcheryFieldModel" 74 "ArcheryFieldModel" "taped" "I" ∈ zWd := zWd_mem (zm4 (List.mem_of_getElem? (i := 174) rfl)) (by decide +kernel)
theorem kw_618 : Cond.fieldLink "ArcheryFieldModel" 77 "ArcheryFieldModel" "bad" "I" ∈ zWd := zWd_mem (zm4 (List.mem_of_getElem? (i := 180) rfl)) (by decide +kernel)
theorem kw_619 : Cond.fieldLink "ArcheryFieldModel" 80 "ArcheryFieldModel" "badPlace" "I" ∈ zWd := zWd_mem (zm4 (List.mem_of_getElem? (i := 181) rfl)) (by decide +kernel)
theorem kw_620 : Cond.fieldLink "ArcheryFieldModel" 83 "ArcheryFieldModel" "at" "I" ∈ zWd := zWd_mem (zm4 (List.mem_of_getElem? (i := 175) rfl)) (by decide +kernel)
theorem kw_621 : Cond.fieldLink "ArcheryFieldModel" 86 "ArcheryFieldModel" "size" "I" ∈ zWd := zWd_mem (zm4 (List.mem_of_getElem? (i := 176) rfl)) (by decide +kernel)
theorem kw_622 : Cond.methodLink "ArcheryFieldModel" 92 ⟨"ArcheryFieldModel", "isLetter", "(I)Z"⟩ ∈ zWd := zWd_mem (zm5 (List.mem_of_getElem? (i := 47) rfl)) (by decide +kernel)
theorem kw_623 : Cond.code yX12_isLetter cX12_isLetter 1 (some .boolean) ∈ zWd := zWd_mem (zm5 (List.mem_of_getElem? (i := 49) rfl)) (by decide +kernel)
theorem kw_624 : Cond.static ⟨"ArcheryFieldModel", "isLetter", "(I)Z"⟩ ∈ zWd := zWd_mem (zm5 (List.mem_of_getElem? (i := 48) rfl)) (by decide +kernel)
theorem kw_625 : Cond.initialized "ArcheryFieldModel" ∈ zWd := zWd_mem (zm1 (List.mem_of_getElem? (i := 9) rfl)) (by decide +kernel)
theorem kw_626 : Cond.methodLink "ArcheryFieldModel" 96 ⟨"ArcheryFieldModel", "isDigit", "(I)Z"⟩ ∈ zWd := zWd_mem (zm5 (List.mem_of_getElem? (i := 50) rfl)) (by decide +kernel)
theorem kw_627 : Cond.code yX12_isDigit cX12_isDigit 1 (some .boolean) ∈ zWd := zWd_mem (zm5 (List.mem_of_getElem? (i := 52) rfl)) (by decide +kernel)
theorem kw_628 : Cond.static ⟨"ArcheryFieldModel", "isDigit", "(I)Z"⟩ ∈ zWd := zWd_mem (zm5 (List.mem_of_getElem? (i := 51) rfl)) (by decide +kernel)
theorem kw_629 : Cond.fieldLink "ArcheryFieldModel" 89 "ArcheryFieldModel" "begun" "I" ∈ zWd := zWd_mem (zm4 (List.mem_of_getElem? (i := 178) rfl)) (by decide +kernel)
theorem kw_630 : Cond.fieldLink "ArcheryFieldModel" 102 "ArcheryFieldModel" "number" "I" ∈ zWd := zWd_mem (zm4 (List.mem_of_getElem? (i := 179) rfl)) (by decide +kernel)
theorem kw_631 : Cond.fieldLink "ArcheryFieldModel" 99 "ArcheryFieldModel" "token" "I" ∈ zWd := zWd_mem (zm4 (List.mem_of_getElem? (i := 177) rfl)) (by decide +kernel)
theorem kw_632 : Cond.methodLink "ArcheryFieldModel" 108 ⟨"ArcheryFieldModel", "fail", "(II)V"⟩ ∈ zWd := zWd_mem (zm5 (List.mem_of_getElem? (i := 57) rfl)) (by decide +kernel)
theorem kw_633 : Cond.code yX12_fail cX12_fail 3 none ∈ zWd := zWd_mem (zm5 (List.mem_of_getElem? (i := 60) rfl)) (by decide +kernel)
theorem kw_634 : Cond.instanceMethod ⟨"ArcheryFieldModel", "fail", "(II)V"⟩ ∈ zWd := zWd_mem (zm5 (List.mem_of_getElem? (i := 59) rfl)) (by decide +kernel)
theorem kw_635 : Cond.selects "ArcheryFieldModel" ⟨"ArcheryFieldModel", "fail", "(II)V"⟩ ⟨"ArcheryFieldModel", "fail", "(II)V"⟩ ∈ zWd := zWd_mem (zm0 (List.mem_of_getElem? (i := 24) rfl)) (by decide +kernel)
theorem kw_636 : Cond.methodLink "ArcheryFieldModel" 105 ⟨"ArcheryFieldModel", "next", "()V"⟩ ∈ zWd := zWd_mem (zm5 (List.mem_of_getElem? (i := 43) rfl)) (by decide +kernel)
theorem kw_637 : Cond.code yX12_next cX12_next 1 none ∈ zWd := zWd_mem (zm5 (List.mem_of_getElem? (i := 46) rfl)) (by decide +kernel)
theorem kw_638 : Cond.instanceMethod ⟨"ArcheryFieldModel", "next", "()V"⟩ ∈ zWd := zWd_mem (zm5 (List.mem_of_getElem? (i := 45) rfl)) (by decide +kernel)
theorem kw_639 : Cond.selects "ArcheryFieldModel" ⟨"ArcheryFieldModel", "next", "()V"⟩ ⟨"ArcheryFieldModel", "next", "()V"⟩ ∈ zWd := zWd_mem (zm0 (List.mem_of_getElem? (i := 22) rfl)) (by decide +kernel)
theorem kw_640 : Cond.methodLink "ArcheryFieldModel" 116 ⟨"ArcheryFieldModel", "numberOf", "(II)I"⟩ ∈ zWd := zWd_mem (zm5 (List.mem_of_getElem? (i := 73) rfl)) (by decide +kernel)
theorem kw_641 : Cond.code yX12_numberOf cX12_numberOf 3 (some .int) ∈ zWd := zWd_mem (zm5 (List.mem_of_getElem? (i := 76) rfl)) (by decide +kernel)
theorem kw_642 : Cond.instanceMethod ⟨"ArcheryFieldModel", "numberOf", "(II)I"⟩ ∈ zWd := zWd_mem (zm5 (List.mem_of_getElem? (i := 75) rfl)) (by decide +kernel)
theorem kw_643 : Cond.selects "ArcheryFieldModel" ⟨"ArcheryFieldModel", "numberOf", "(II)I"⟩ ⟨"ArcheryFieldModel", "numberOf", "(II)I"⟩ ∈ zWd := zWd_mem (zm0 (List.mem_of_getElem? (i := 28) rfl)) (by decide +kernel)
theorem kw_644 : Cond.methodLink "ArcheryFieldModel" 112 ⟨"ArcheryFieldModel", "sign", "(I)V"⟩ ∈ zWd := zWd_mem (zm5 (List.mem_of_getElem? (i := 69) rfl)) (by decide +kernel)
theorem kw_645 : Cond.code yX12_sign cX12_sign 2 none ∈ zWd := zWd_mem (zm5 (List.mem_of_getElem? (i := 72) rfl)) (by decide +kernel)
theorem kw_646 : Cond.instanceMethod ⟨"ArcheryFieldModel", "sign", "(I)V"⟩ ∈ zWd := zWd_mem (zm5 (List.mem_of_getElem? (i := 71) rfl)) (by decide +kernel)
theorem kw_647 : Cond.selects "ArcheryFieldModel" ⟨"ArcheryFieldModel", "sign", "(I)V"⟩ ⟨"ArcheryFieldModel", "sign", "(I)V"⟩ ∈ zWd := zWd_mem (zm0 (List.mem_of_getElem? (i := 27) rfl)) (by decide +kernel)
theorem kw_648 : Cond.constant "ArcheryFieldModel" 120 999999 ∈ zWd := zWd_mem (zm5 (List.mem_of_getElem? (i := 81) rfl)) (by decide +kernel)
theorem kw_649 : Cond.methodLink "ArcheryFieldModel" 121 ⟨"ArcheryFieldModel", "isWord", "([C)Z"⟩ ∈ zWd := zWd_mem (zm5 (List.mem_of_getElem? (i := 61) rfl)) (by decide +kernel)
theorem kw_650 : Cond.code yX12_isWord cX12_isWord 3 (some .boolean) ∈ zWd := zWd_mem (zm5 (List.mem_of_getElem? (i := 64) rfl)) (by decide +kernel)
theorem kw_651 : Cond.instanceMethod ⟨"ArcheryFieldModel", "isWord", "([C)Z"⟩ ∈ zWd := zWd_mem (zm5 (List.mem_of_getElem? (i := 63) rfl)) (by decide +kernel)
theorem kw_652 : Cond.selects "ArcheryFieldModel" ⟨"ArcheryFieldModel", "isWord", "([C)Z"⟩ ⟨"ArcheryFieldModel", "isWord", "([C)Z"⟩ ∈ zWd := zWd_mem (zm0 (List.mem_of_getElem? (i := 25) rfl)) (by decide +kernel)
theorem kw_653 : Cond.methodLink "ArcheryFieldModel" 134 ⟨"ArcheryFieldModel", "once", "(III)V"⟩ ∈ zWd := zWd_mem (zm5 (List.mem_of_getElem? (i := 86) rfl)) (by decide +kernel)
theorem kw_654 : Cond.code yX12_once cX12_once 4 none ∈ zWd := zWd_mem (zm5 (List.mem_of_getElem? (i := 89) rfl)) (by decide +kernel)
theorem kw_655 : Cond.instanceMethod ⟨"ArcheryFieldModel", "once", "(III)V"⟩ ∈ zWd := zWd_mem (zm5 (List.mem_of_getElem? (i := 88) rfl)) (by decide +kernel)
theorem kw_656 : Cond.selects "ArcheryFieldModel" ⟨"ArcheryFieldModel", "once", "(III)V"⟩ ⟨"ArcheryFieldModel", "once", "(III)V"⟩ ∈ zWd := zWd_mem (zm0 (List.mem_of_getElem? (i := 31) rfl)) (by decide +kernel)
theorem kw_657 : Cond.methodLink "ArcheryFieldModel" 131 ⟨"ArcheryFieldModel", "tie", "(I)V"⟩ ∈ zWd := zWd_mem (zm5 (List.mem_of_getElem? (i := 82) rfl)) (by decide +kernel)
theorem kw_658 : Cond.code yX12_tie cX12_tie 3 none ∈ zWd := zWd_mem (zm5 (List.mem_of_getElem? (i := 85) rfl)) (by decide +kernel)
theorem kw_659 : Cond.instanceMethod ⟨"ArcheryFieldModel", "tie", "(I)V"⟩ ∈ zWd := zWd_mem (zm5 (List.mem_of_getElem? (i := 84) rfl)) (by decide +kernel)
theorem kw_660 : Cond.selects "ArcheryFieldModel" ⟨"ArcheryFieldModel", "tie", "(I)V"⟩ ⟨"ArcheryFieldModel", "tie", "(I)V"⟩ ∈ zWd := zWd_mem (zm0 (List.mem_of_getElem? (i := 30) rfl)) (by decide +kernel)
theorem kw_661 : Cond.methodLink "ArcheryFieldModel" 128 ⟨"ArcheryFieldModel", "leg", "()V"⟩ ∈ zWd := zWd_mem (zm5 (List.mem_of_getElem? (i := 77) rfl)) (by decide +kernel)
theorem kw_662 : Cond.code yX12_leg cX12_leg 4 none ∈ zWd := zWd_mem (zm5 (List.mem_of_getElem? (i := 80) rfl)) (by decide +kernel)
theorem kw_663 : Cond.instanceMethod ⟨"ArcheryFieldModel", "leg", "()V"⟩ ∈ zWd := zWd_mem (zm5 (List.mem_of_getElem? (i := 79) rfl)) (by decide +kernel)
theorem kw_664 : Cond.selects "ArcheryFieldModel" ⟨"ArcheryFieldModel", "leg", "()V"⟩ ⟨"ArcheryFieldModel", "leg", "()V"⟩ ∈ zWd := zWd_mem (zm0 (List.mem_of_getElem? (i := 29) rfl)) (by decide +kernel)
theorem kw_665 : Cond.methodLink "ArcheryFieldModel" 125 ⟨"ArcheryFieldModel", "face", "()V"⟩ ∈ zWd := zWd_mem (zm5 (List.mem_of_getElem? (i := 65) rfl)) (by decide +kernel)
theorem kw_666 : Cond.code yX12_face cX12_face 4 none ∈ zWd := zWd_mem (zm5 (List.mem_of_getElem? (i := 68) rfl)) (by decide +kernel)
theorem kw_667 : Cond.instanceMethod ⟨"ArcheryFieldModel", "face", "()V"⟩ ∈ zWd := zWd_mem (zm5 (List.mem_of_getElem? (i := 67) rfl)) (by decide +kernel)
theorem kw_668 : Cond.selects "ArcheryFieldModel" ⟨"ArcheryFieldModel", "face", "()V"⟩ ⟨"ArcheryFieldModel", "face", "()V"⟩ ∈ zWd := zWd_mem (zm0 (List.mem_of_getElem? (i := 26) rfl)) (by decide +kernel)
theorem kw_669 : Cond.methodLink "ArcheryFieldModel" 147 ⟨"ArcheryFieldModel", "of", "(I)I"⟩ ∈ zWd := zWd_mem (zm5 (List.mem_of_getElem? (i := 94) rfl)) (by decide +kernel)
theorem kw_670 : Cond.code yX12_of cX12_of 5 (some .int) ∈ zWd := zWd_mem (zm5 (List.mem_of_getElem? (i := 97) rfl)) (by decide +kernel)
theorem kw_671 : Cond.instanceMethod ⟨"ArcheryFieldModel", "of", "(I)I"⟩ ∈ zWd := zWd_mem (zm5 (List.mem_of_getElem? (i := 95) rfl)) (by decide +kernel)
theorem kw_672 : Cond.selects "ArcheryFieldModel" ⟨"ArcheryFieldModel", "of", "(I)I"⟩ ⟨"ArcheryFieldModel", "of", "(I)I"⟩ ∈ zWd := zWd_mem (zm5 (List.mem_of_getElem? (i := 96) rfl)) (by decide +kernel)
theorem kw_673 : Cond.fieldLink "ArcheryFieldModel" 141 "ArcheryFieldModel" "fault" "I" ∈ zWd := zWd_mem (zm4 (List.mem_of_getElem? (i := 182) rfl)) (by decide +kernel)
theorem kw_674 : Cond.methodLink "ArcheryFieldModel" 144 ⟨"ArcheryFieldModel", "keeps", "()V"⟩ ∈ zWd := zWd_mem (zm5 (List.mem_of_getElem? (i := 90) rfl)) (by decide +kernel)
theorem kw_675 : Cond.code yX12_keeps cX12_keeps 2 none ∈ zWd := zWd_mem (zm5 (List.mem_of_getElem? (i := 93) rfl)) (by decide +kernel)
theorem kw_676 : Cond.instanceMethod ⟨"ArcheryFieldModel", "keeps", "()V"⟩ ∈ zWd := zWd_mem (zm5 (List.mem_of_getElem? (i := 92) rfl)) (by decide +kernel)
theorem kw_677 : Cond.selects "ArcheryFieldModel" ⟨"ArcheryFieldModel", "keeps", "()V"⟩ ⟨"ArcheryFieldModel", "keeps", "()V"⟩ ∈ zWd := zWd_mem (zm0 (List.mem_of_getElem? (i := 32) rfl)) (by decide +kernel)
theorem kw_678 : Cond.methodLink "ArcheryFieldModel" 138 ⟨"ArcheryFieldModel", "statement", "()V"⟩ ∈ zWd := zWd_mem (zm5 (List.mem_of_getElem? (i := 53) rfl)) (by decide +kernel)
theorem kw_679 : Cond.code yX12_statement cX12_statement 1 none ∈ zWd := zWd_mem (zm5 (List.mem_of_getElem? (i := 56) rfl)) (by decide +kernel)
theorem kw_680 : Cond.instanceMethod ⟨"ArcheryFieldModel", "statement", "()V"⟩ ∈ zWd := zWd_mem (zm5 (List.mem_of_getElem? (i := 55) rfl)) (by decide +kernel)
theorem kw_681 : Cond.selects "ArcheryFieldModel" ⟨"ArcheryFieldModel", "statement", "()V"⟩ ⟨"ArcheryFieldModel", "statement", "()V"⟩ ∈ zWd := zWd_mem (zm0 (List.mem_of_getElem? (i := 23) rfl)) (by decide +kernel)
theorem kw_682 : Cond.methodLink "ArcheryFieldModel" 151 ⟨"ArcheryFieldModel", "isArcher", "(I)Z"⟩ ∈ zWd := zWd_mem (zm5 (List.mem_of_getElem? (i := 111) rfl)) (by decide +kernel)
theorem kw_683 : Cond.code yX12_isArcher cX12_isArcher 2 (some .boolean) ∈ zWd := zWd_mem (zm5 (List.mem_of_getElem? (i := 114) rfl)) (by decide +kernel)
theorem kw_684 : Cond.instanceMethod ⟨"ArcheryFieldModel", "isArcher", "(I)Z"⟩ ∈ zWd := zWd_mem (zm5 (List.mem_of_getElem? (i := 113) rfl)) (by decide +kernel)
theorem kw_685 : Cond.selects "ArcheryFieldModel" ⟨"ArcheryFieldModel", "isArcher", "(I)Z"⟩ ⟨"ArcheryFieldModel", "isArcher", "(I)Z"⟩ ∈ zWd := zWd_mem (zm0 (List.mem_of_getElem? (i := 33) rfl)) (by decide +kernel)
theorem kw_686 : Cond.methodLink "ArcheryFieldModel" 154 ⟨"ArcheryFieldModel", "legOf", "(I)I"⟩ ∈ zWd := zWd_mem (zm5 (List.mem_of_getElem? (i := 127) rfl)) (by decide +kernel)
theorem kw_687 : Cond.code yX12_legOf cX12_legOf 4 (some .int) ∈ zWd := zWd_mem (zm5 (List.mem_of_getElem? (i := 130) rfl)) (by decide +kernel)
theorem kw_688 : Cond.instanceMethod ⟨"ArcheryFieldModel", "legOf", "(I)I"⟩ ∈ zWd := zWd_mem (zm5 (List.mem_of_getElem? (i := 129) rfl)) (by decide +kernel)
theorem kw_689 : Cond.selects "ArcheryFieldModel" ⟨"ArcheryFieldModel", "legOf", "(I)I"⟩ ⟨"ArcheryFieldModel", "legOf", "(I)I"⟩ ∈ zWd := zWd_mem (zm0 (List.mem_of_getElem? (i := 36) rfl)) (by decide +kernel)
theorem kw_690 : Cond.methodLink "ArcheryFieldModel" 157 ⟨"ArcheryFieldModel", "arrowsOf", "(I)I"⟩ ∈ zWd := zWd_mem (zm5 (List.mem_of_getElem? (i := 123) rfl)) (by decide +kernel)
theorem kw_691 : Cond.code yX12_arrowsOf cX12_arrowsOf 4 (some .int) ∈ zWd := zWd_mem (zm5 (List.mem_of_getElem? (i := 126) rfl)) (by decide +kernel)
theorem kw_692 : Cond.instanceMethod ⟨"ArcheryFieldModel", "arrowsOf", "(I)I"⟩ ∈ zWd := zWd_mem (zm5 (List.mem_of_getElem? (i := 125) rfl)) (by decide +kernel)
theorem kw_693 : Cond.selects "ArcheryFieldModel" ⟨"ArcheryFieldModel", "arrowsOf", "(I)I"⟩ ⟨"ArcheryFieldModel", "arrowsOf", "(I)I"⟩ ∈ zWd := zWd_mem (zm0 (List.mem_of_getElem? (i := 35) rfl)) (by decide +kernel)
theorem kw_694 : Cond.methodLink "ArcheryFieldModel" 160 ⟨"ArcheryFieldModel", "sum", "(III)I"⟩ ∈ zWd := zWd_mem (zm5 (List.mem_of_getElem? (i := 131) rfl)) (by decide +kernel)
theorem kw_695 : Cond.code yX12_sum cX12_sum 6 (some .int) ∈ zWd := zWd_mem (zm5 (List.mem_of_getElem? (i := 134) rfl)) (by decide +kernel)
theorem kw_696 : Cond.instanceMethod ⟨"ArcheryFieldModel", "sum", "(III)I"⟩ ∈ zWd := zWd_mem (zm5 (List.mem_of_getElem? (i := 133) rfl)) (by decide +kernel)
theorem kw_697 : Cond.selects "ArcheryFieldModel" ⟨"ArcheryFieldModel", "sum", "(III)I"⟩ ⟨"ArcheryFieldModel", "sum", "(III)I"⟩ ∈ zWd := zWd_mem (zm0 (List.mem_of_getElem? (i := 37) rfl)) (by decide +kernel)
theorem kw_698 : Cond.methodLink "ArcheryFieldModel" 164 ⟨"ArcheryFieldModel", "total", "(I)I"⟩ ∈ zWd := zWd_mem (zm5 (List.mem_of_getElem? (i := 119) rfl)) (by decide +kernel)
theorem kw_699 : Cond.code yX12_total cX12_total 2 (some .int) ∈ zWd := zWd_mem (zm5 (List.mem_of_getElem? (i := 122) rfl)) (by decide +kernel)
theorem kw_700 : Cond.instanceMethod ⟨"ArcheryFieldModel", "total", "(I)I"⟩ ∈ zWd := zWd_mem (zm5 (List.mem_of_getElem? (i := 121) rfl)) (by decide +kernel)
theorem kw_701 : Cond.selects "ArcheryFieldModel" ⟨"ArcheryFieldModel", "total", "(I)I"⟩ ⟨"ArcheryFieldModel", "total", "(I)I"⟩ ∈ zWd := zWd_mem (zm0 (List.mem_of_getElem? (i := 34) rfl)) (by decide +kernel)
theorem kw_702 : Cond.methodLink "ArcheryFieldModel" 167 ⟨"ArcheryFieldModel", "lastEnd", "(I)I"⟩ ∈ zWd := zWd_mem (zm5 (List.mem_of_getElem? (i := 135) rfl)) (by decide +kernel)
theorem kw_703 : Cond.code yX12_lastEnd cX12_lastEnd 3 (some .int) ∈ zWd := zWd_mem (zm5 (List.mem_of_getElem? (i := 138) rfl)) (by decide +kernel)
theorem kw_704 : Cond.instanceMethod ⟨"ArcheryFieldModel", "lastEnd", "(I)I"⟩ ∈ zWd := zWd_mem (zm5 (List.mem_of_getElem? (i := 137) rfl)) (by decide +kernel)
theorem kw_705 : Cond.selects "ArcheryFieldModel" ⟨"ArcheryFieldModel", "lastEnd", "(I)I"⟩ ⟨"ArcheryFieldModel", "lastEnd", "(I)I"⟩ ∈ zWd := zWd_mem (zm0 (List.mem_of_getElem? (i := 38) rfl)) (by decide +kernel)
theorem kw_706 : Cond.fieldLink "ArcheryFieldModel" 170 "ArcheryFieldModel" "waits" "I" ∈ zWd := zWd_mem (zm4 (List.mem_of_getElem? (i := 194) rfl)) (by decide +kernel)
theorem kw_707 : Cond.methodLink "ArcheryFieldModel" 173 ⟨"ArcheryFieldModel", "isFar", "(I)Z"⟩ ∈ zWd := zWd_mem (zm5 (List.mem_of_getElem? (i := 143) rfl)) (by decide +kernel)
theorem kw_708 : Cond.code yX12_isFar cX12_isFar 1 (some .boolean) ∈ zWd := zWd_mem (zm5 (List.mem_of_getElem? (i := 145) rfl)) (by decide +kernel)
theorem kw_709 : Cond.static ⟨"ArcheryFieldModel", "isFar", "(I)Z"⟩ ∈ zWd := zWd_mem (zm5 (List.mem_of_getElem? (i := 144) rfl)) (by decide +kernel)
theorem kw_710 : Cond.methodLink "ArcheryFieldModel" 176 ⟨"ArcheryFieldModel", "hit", "(III)I"⟩ ∈ zWd := zWd_mem (zm5 (List.mem_of_getElem? (i := 150) rfl)) (by decide +kernel)
theorem kw_711 : Cond.code yX12_hit cX12_hit 7 (some .int) ∈ zWd := zWd_mem (zm5 (List.mem_of_getElem? (i := 153) rfl)) (by decide +kernel)
theorem kw_712 : Cond.instanceMethod ⟨"ArcheryFieldModel", "hit", "(III)I"⟩ ∈ zWd := zWd_mem (zm5 (List.mem_of_getElem? (i := 152) rfl)) (by decide +kernel)
theorem kw_713 : Cond.selects "ArcheryFieldModel" ⟨"ArcheryFieldModel", "hit", "(III)I"⟩ ⟨"ArcheryFieldModel", "hit", "(III)I"⟩ ∈ zWd := zWd_mem (zm0 (List.mem_of_getElem? (i := 39) rfl)) (by decide +kernel)
theorem kw_714 : Cond.constant "ArcheryFieldModel" 179 2147483647 ∈ zWd := zWd_mem (zm5 (List.mem_of_getElem? (i := 166) rfl)) (by decide +kernel)
theorem kw_715 : Cond.methodLink "ArcheryFieldModel" 186 ⟨"ArcheryFieldModel", "square", "(II)I"⟩ ∈ zWd := zWd_mem (zm5 (List.mem_of_getElem? (i := 178) rfl)) (by decide +kernel)
theorem kw_716 : Cond.code yX12_square cX12_square 3 (some .int) ∈ zWd := zWd_mem (zm5 (List.mem_of_getElem? (i := 181) rfl)) (by decide +kernel)
theorem kw_717 : Cond.instanceMethod ⟨"ArcheryFieldModel", "square", "(II)I"⟩ ∈ zWd := zWd_mem (zm5 (List.mem_of_getElem? (i := 180) rfl)) (by decide +kernel)
theorem kw_718 : Cond.selects "ArcheryFieldModel" ⟨"ArcheryFieldModel", "square", "(II)I"⟩ ⟨"ArcheryFieldModel", "square", "(II)I"⟩ ∈ zWd := zWd_mem (zm0 (List.mem_of_getElem? (i := 41) rfl)) (by decide +kernel)
theorem kw_719 : Cond.methodLink "ArcheryFieldModel" 183 ⟨"ArcheryFieldModel", "most", "(II)I"⟩ ∈ zWd := zWd_mem (zm5 (List.mem_of_getElem? (i := 174) rfl)) (by decide +kernel)
theorem kw_720 : Cond.code yX12_most cX12_most 5 (some .int) ∈ zWd := zWd_mem (zm5 (List.mem_of_getElem? (i := 177) rfl)) (by decide +kernel)
theorem kw_721 : Cond.instanceMethod ⟨"ArcheryFieldModel", "most", "(II)I"⟩ ∈ zWd := zWd_mem (zm5 (List.mem_of_getElem? (i := 176) rfl)) (by decide +kernel)
theorem kw_722 : Cond.selects "ArcheryFieldModel" ⟨"ArcheryFieldModel", "most", "(II)I"⟩ ⟨"ArcheryFieldModel", "most", "(II)I"⟩ ∈ zWd := zWd_mem (zm0 (List.mem_of_getElem? (i := 40) rfl)) (by decide +kernel)
theorem kw_723 : Cond.methodLink "ArcheryFieldModel" 180 ⟨"ArcheryFieldModel", "signOf", "(I)I"⟩ ∈ zWd := zWd_mem (zm5 (List.mem_of_getElem? (i := 171) rfl)) (by decide +kernel)
theorem kw_724 : Cond.code yX12_signOf cX12_signOf 1 (some .int) ∈ zWd := zWd_mem (zm5 (List.mem_of_getElem? (i := 173) rfl)) (by decide +kernel)
theorem kw_725 : Cond.static ⟨"ArcheryFieldModel", "signOf", "(I)I"⟩ ∈ zWd := zWd_mem (zm5 (List.mem_of_getElem? (i := 172) rfl)) (by decide +kernel)
theorem kw_726 : Cond.methodLink "ArcheryFieldModel" 189 ⟨"ArcheryFieldModel", "ahead", "(II)I"⟩ ∈ zWd := zWd_mem (zm5 (List.mem_of_getElem? (i := 186) rfl)) (by decide +kernel)
theorem kw_727 : Cond.code yX12_ahead cX12_ahead 7 (some .int) ∈ zWd := zWd_mem (zm5 (List.mem_of_getElem? (i := 170) rfl)) (by decide +kernel)
theorem kw_728 : Cond.instanceMethod ⟨"ArcheryFieldModel", "ahead", "(II)I"⟩ ∈ zWd := zWd_mem (zm5 (List.mem_of_getElem? (i := 168) rfl)) (by decide +kernel)
theorem kw_729 : Cond.selects "ArcheryFieldModel" ⟨"ArcheryFieldModel", "ahead", "(II)I"⟩ ⟨"ArcheryFieldModel", "ahead", "(II)I"⟩ ∈ zWd := zWd_mem (zm5 (List.mem_of_getElem? (i := 169) rfl)) (by decide +kernel)
theorem kw_730 : Cond.constant "ArcheryFieldModel" 192 36500 ∈ zWd := zWd_mem (zm5 (List.mem_of_getElem? (i := 194) rfl)) (by decide +kernel)
theorem kw_731 : Cond.methodLink "ArcheryFieldModel" 193 ⟨"ArcheryFieldModel", "isDay", "(I)Z"⟩ ∈ zWd := zWd_mem (zm5 (List.mem_of_getElem? (i := 191) rfl)) (by decide +kernel)
theorem kw_732 : Cond.code yX12_isDay cX12_isDay 1 (some .boolean) ∈ zWd := zWd_mem (zm5 (List.mem_of_getElem? (i := 193) rfl)) (by decide +kernel)
theorem kw_733 : Cond.static ⟨"ArcheryFieldModel", "isDay", "(I)Z"⟩ ∈ zWd := zWd_mem (zm5 (List.mem_of_getElem? (i := 192) rfl)) (by decide +kernel)
theorem kw_734 : Cond.fieldLink "ArcheryFieldModel" 196 "ArcheryFieldModel" "placed" "I" ∈ zWd := zWd_mem (zm4 (List.mem_of_getElem? (i := 199) rfl)) (by decide +kernel)
theorem kw_735 : Cond.methodLink "ArcheryFieldModel" 199 ⟨"ArcheryFieldModel", "isFree", "(I)Z"⟩ ∈ zWd := zWd_mem (zm5 (List.mem_of_getElem? (i := 219) rfl)) (by decide +kernel)
theorem kw_736 : Cond.code yX12_isFree cX12_isFree 3 (some .boolean) ∈ zWd := zWd_mem (zm5 (List.mem_of_getElem? (i := 222) rfl)) (by decide +kernel)
theorem kw_737 : Cond.instanceMethod ⟨"ArcheryFieldModel", "isFree", "(I)Z"⟩ ∈ zWd := zWd_mem (zm5 (List.mem_of_getElem? (i := 221) rfl)) (by decide +kernel)
theorem kw_738 : Cond.selects "ArcheryFieldModel" ⟨"ArcheryFieldModel", "isFree", "(I)Z"⟩ ⟨"ArcheryFieldModel", "isFree", "(I)Z"⟩ ∈ zWd := zWd_mem (zm0 (List.mem_of_getElem? (i := 42) rfl)) (by decide +kernel)
theorem kw_739 : Cond.methodLink "ArcheryFieldModel" 202 ⟨"ArcheryFieldModel", "isParted", "(I)Z"⟩ ∈ zWd := zWd_mem (zm5 (List.mem_of_getElem? (i := 223) rfl)) (by decide +kernel)
theorem kw_740 : Cond.code yX12_isParted cX12_isParted 4 (some .boolean) ∈ zWd := zWd_mem (zm5 (List.mem_of_getElem? (i := 226) rfl)) (by decide +kernel)
theorem kw_741 : Cond.instanceMethod ⟨"ArcheryFieldModel", "isParted", "(I)Z"⟩ ∈ zWd := zWd_mem (zm5 (List.mem_of_getElem? (i := 225) rfl)) (by decide +kernel)
theorem kw_742 : Cond.selects "ArcheryFieldModel" ⟨"ArcheryFieldModel", "isParted", "(I)Z"⟩ ⟨"ArcheryFieldModel", "isParted", "(I)Z"⟩ ∈ zWd := zWd_mem (zm0 (List.mem_of_getElem? (i := 43) rfl)) (by decide +kernel)
theorem kw_743 : Cond.methodLink "ArcheryFieldLaw" 13 ⟨"ArcheryField", "feed", "(IIIII)I"⟩ ∈ zWd := zWd_mem (zm1 (List.mem_of_getElem? (i := 223) rfl)) (by decide +kernel)
theorem kw_744 : Cond.code yX11_feed cX11_feed 6 (some .int) ∈ zWd := zWd_mem (zm1 (List.mem_of_getElem? (i := 226) rfl)) (by decide +kernel)
theorem kw_745 : Cond.instanceMethod ⟨"ArcheryField", "feed", "(IIIII)I"⟩ ∈ zWd := zWd_mem (zm1 (List.mem_of_getElem? (i := 224) rfl)) (by decide +kernel)
theorem kw_746 : Cond.selects "ArcheryField" ⟨"ArcheryField", "feed", "(IIIII)I"⟩ ⟨"ArcheryField", "feed", "(IIIII)I"⟩ ∈ zWd := zWd_mem (zm1 (List.mem_of_getElem? (i := 225) rfl)) (by decide +kernel)
theorem kw_747 : Cond.methodLink "ArcheryFieldLaw" 17 ⟨"ArcheryFieldModel", "feed", "(IIIII)I"⟩ ∈ zWd := zWd_mem (zm5 (List.mem_of_getElem? (i := 31) rfl)) (by decide +kernel)
theorem kw_748 : Cond.code yX12_feed cX12_feed 8 (some .int) ∈ zWd := zWd_mem (zm5 (List.mem_of_getElem? (i := 34) rfl)) (by decide +kernel)
theorem kw_749 : Cond.instanceMethod ⟨"ArcheryFieldModel", "feed", "(IIIII)I"⟩ ∈ zWd := zWd_mem (zm5 (List.mem_of_getElem? (i := 32) rfl)) (by decide +kernel)
theorem kw_750 : Cond.selects "ArcheryFieldModel" ⟨"ArcheryFieldModel", "feed", "(IIIII)I"⟩ ⟨"ArcheryFieldModel", "feed", "(IIIII)I"⟩ ∈ zWd := zWd_mem (zm5 (List.mem_of_getElem? (i := 33) rfl)) (by decide +kernel)
theorem kw_751 : Cond.methodLink "ArcheryFieldLaw" 18 ⟨"ArcheryField", "end", "(I)Z"⟩ ∈ zWd := zWd_mem (zm1 (List.mem_of_getElem? (i := 231) rfl)) (by decide +kernel)
theorem kw_752 : Cond.code yX11_end cX11_end 2 (some .boolean) ∈ zWd := zWd_mem (zm1 (List.mem_of_getElem? (i := 234) rfl)) (by decide +kernel)
theorem kw_753 : Cond.instanceMethod ⟨"ArcheryField", "end", "(I)Z"⟩ ∈ zWd := zWd_mem (zm1 (List.mem_of_getElem? (i := 232) rfl)) (by decide +kernel)
theorem kw_754 : Cond.selects "ArcheryField" ⟨"ArcheryField", "end", "(I)Z"⟩ ⟨"ArcheryField", "end", "(I)Z"⟩ ∈ zWd := zWd_mem (zm1 (List.mem_of_getElem? (i := 233) rfl)) (by decide +kernel)
theorem kw_755 : Cond.methodLink "ArcheryFieldLaw" 22 ⟨"ArcheryFieldModel", "end", "(I)Z"⟩ ∈ zWd := zWd_mem (zm5 (List.mem_of_getElem? (i := 35) rfl)) (by decide +kernel)
theorem kw_756 : Cond.code yX12_end cX12_end 2 (some .boolean) ∈ zWd := zWd_mem (zm5 (List.mem_of_getElem? (i := 38) rfl)) (by decide +kernel)
theorem kw_757 : Cond.instanceMethod ⟨"ArcheryFieldModel", "end", "(I)Z"⟩ ∈ zWd := zWd_mem (zm5 (List.mem_of_getElem? (i := 36) rfl)) (by decide +kernel)
theorem kw_758 : Cond.selects "ArcheryFieldModel" ⟨"ArcheryFieldModel", "end", "(I)Z"⟩ ⟨"ArcheryFieldModel", "end", "(I)Z"⟩ ∈ zWd := zWd_mem (zm5 (List.mem_of_getElem? (i := 37) rfl)) (by decide +kernel)
theorem kw_759 : Cond.methodLink "ArcheryFieldLaw" 23 ⟨"ArcheryField", "round", "()I"⟩ ∈ zWd := zWd_mem (zm1 (List.mem_of_getElem? (i := 235) rfl)) (by decide +kernel)
theorem kw_760 : Cond.code yX11_round cX11_round 3 (some .int) ∈ zWd := zWd_mem (zm1 (List.mem_of_getElem? (i := 238) rfl)) (by decide +kernel)
theorem kw_761 : Cond.instanceMethod ⟨"ArcheryField", "round", "()I"⟩ ∈ zWd := zWd_mem (zm1 (List.mem_of_getElem? (i := 236) rfl)) (by decide +kernel)
theorem kw_762 : Cond.selects "ArcheryField" ⟨"ArcheryField", "round", "()I"⟩ ⟨"ArcheryField", "round", "()I"⟩ ∈ zWd := zWd_mem (zm1 (List.mem_of_getElem? (i := 237) rfl)) (by decide +kernel)
theorem kw_763 : Cond.methodLink "ArcheryFieldLaw" 27 ⟨"ArcheryFieldModel", "round", "()I"⟩ ∈ zWd := zWd_mem (zm5 (List.mem_of_getElem? (i := 39) rfl)) (by decide +kernel)
theorem kw_764 : Cond.code yX12_round cX12_round 2 (some .int) ∈ zWd := zWd_mem (zm5 (List.mem_of_getElem? (i := 42) rfl)) (by decide +kernel)
theorem kw_765 : Cond.instanceMethod ⟨"ArcheryFieldModel", "round", "()I"⟩ ∈ zWd := zWd_mem (zm5 (List.mem_of_getElem? (i := 40) rfl)) (by decide +kernel)
theorem kw_766 : Cond.selects "ArcheryFieldModel" ⟨"ArcheryFieldModel", "round", "()I"⟩ ⟨"ArcheryFieldModel", "round", "()I"⟩ ∈ zWd := zWd_mem (zm5 (List.mem_of_getElem? (i := 41) rfl)) (by decide +kernel)
theorem kw_767 : Cond.methodLink "ArcheryFieldLaw" 28 ⟨"ArcheryField", "fault", "(I)I"⟩ ∈ zWd := zWd_mem (zm2 (List.mem_of_getElem? (i := 215) rfl)) (by decide +kernel)
theorem kw_768 : Cond.code yX11_fault cX11_fault 2 (some .int) ∈ zWd := zWd_mem (zm2 (List.mem_of_getElem? (i := 218) rfl)) (by decide +kernel)
theorem kw_769 : Cond.instanceMethod ⟨"ArcheryField", "fault", "(I)I"⟩ ∈ zWd := zWd_mem (zm2 (List.mem_of_getElem? (i := 216) rfl)) (by decide +kernel)
theorem kw_770 : Cond.selects "ArcheryField" ⟨"ArcheryField", "fault", "(I)I"⟩ ⟨"ArcheryField", "fault", "(I)I"⟩ ∈ zWd := zWd_mem (zm2 (List.mem_of_getElem? (i := 217) rfl)) (by decide +kernel)
theorem kw_771 : Cond.methodLink "ArcheryFieldLaw" 32 ⟨"ArcheryFieldModel", "fault", "(I)I"⟩ ∈ zWd := zWd_mem (zm5 (List.mem_of_getElem? (i := 98) rfl)) (by decide +kernel)
theorem kw_772 : Cond.code yX12_fault cX12_fault 2 (some .int) ∈ zWd := zWd_mem (zm5 (List.mem_of_getElem? (i := 101) rfl)) (by decide +kernel)
theorem kw_773 : Cond.instanceMethod ⟨"ArcheryFieldModel", "fault", "(I)I"⟩ ∈ zWd := zWd_mem (zm5 (List.mem_of_getElem? (i := 99) rfl)) (by decide +kernel)
theorem kw_774 : Cond.selects "ArcheryFieldModel" ⟨"ArcheryFieldModel", "fault", "(I)I"⟩ ⟨"ArcheryFieldModel", "fault", "(I)I"⟩ ∈ zWd := zWd_mem (zm5 (List.mem_of_getElem? (i := 100) rfl)) (by decide +kernel)
theorem kw_775 : Cond.methodLink "ArcheryFieldLaw" 33 ⟨"ArcheryField", "of", "(I)I"⟩ ∈ zWd := zWd_mem (zm2 (List.mem_of_getElem? (i := 219) rfl)) (by decide +kernel)
theorem kw_776 : Cond.code yX11_of cX11_of 2 (some .int) ∈ zWd := zWd_mem (zm2 (List.mem_of_getElem? (i := 222) rfl)) (by decide +kernel)
theorem kw_777 : Cond.instanceMethod ⟨"ArcheryField", "of", "(I)I"⟩ ∈ zWd := zWd_mem (zm2 (List.mem_of_getElem? (i := 220) rfl)) (by decide +kernel)
theorem kw_778 : Cond.selects "ArcheryField" ⟨"ArcheryField", "of", "(I)I"⟩ ⟨"ArcheryField", "of", "(I)I"⟩ ∈ zWd := zWd_mem (zm2 (List.mem_of_getElem? (i := 221) rfl)) (by decide +kernel)
theorem kw_779 : Cond.methodLink "ArcheryFieldLaw" 36 ⟨"ArcheryFieldModel", "of", "(I)I"⟩ ∈ zWd := zWd_mem (zm5 (List.mem_of_getElem? (i := 102) rfl)) (by decide +kernel)
theorem kw_780 : Cond.methodLink "ArcheryFieldLaw" 37 ⟨"ArcheryField", "archer", "(I)I"⟩ ∈ zWd := zWd_mem (zm2 (List.mem_of_getElem? (i := 237) rfl)) (by decide +kernel)
theorem kw_781 : Cond.code yX11_archer cX11_archer 3 (some .int) ∈ zWd := zWd_mem (zm3 (List.mem_of_getElem? (i := 0) rfl)) (by decide +kernel)
theorem kw_782 : Cond.instanceMethod ⟨"ArcheryField", "archer", "(I)I"⟩ ∈ zWd := zWd_mem (zm2 (List.mem_of_getElem? (i := 238) rfl)) (by decide +kernel)
theorem kw_783 : Cond.selects "ArcheryField" ⟨"ArcheryField", "archer", "(I)I"⟩ ⟨"ArcheryField", "archer", "(I)I"⟩ ∈ zWd := zWd_mem (zm2 (List.mem_of_getElem? (i := 239) rfl)) (by decide +kernel)
theorem kw_784 : Cond.methodLink "ArcheryFieldLaw" 40 ⟨"ArcheryFieldModel", "archer", "(I)I"⟩ ∈ zWd := zWd_mem (zm5 (List.mem_of_getElem? (i := 103) rfl)) (by decide +kernel)
theorem kw_785 : Cond.code yX12_archer cX12_archer 3 (some .int) ∈ zWd := zWd_mem (zm5 (List.mem_of_getElem? (i := 106) rfl)) (by decide +kernel)
theorem kw_786 : Cond.instanceMethod ⟨"ArcheryFieldModel", "archer", "(I)I"⟩ ∈ zWd := zWd_mem (zm5 (List.mem_of_getElem? (i := 104) rfl)) (by decide +kernel)
theorem kw_787 : Cond.selects "ArcheryFieldModel" ⟨"ArcheryFieldModel", "archer", "(I)I"⟩ ⟨"ArcheryFieldModel", "archer", "(I)I"⟩ ∈ zWd := zWd_mem (zm5 (List.mem_of_getElem? (i := 105) rfl)) (by decide +kernel)
theorem kw_788 : Cond.methodLink "ArcheryFieldLaw" 41 ⟨"ArcheryField", "leave", "(I)Z"⟩ ∈ zWd := zWd_mem (zm3 (List.mem_of_getElem? (i := 26) rfl)) (by decide +kernel)
theorem kw_789 : Cond.code yX11_leave cX11_leave 3 (some .boolean) ∈ zWd := zWd_mem (zm3 (List.mem_of_getElem? (i := 29) rfl)) (by decide +kernel)
theorem kw_790 : Cond.instanceMethod ⟨"ArcheryField", "leave", "(I)Z"⟩ ∈ zWd := zWd_mem (zm3 (List.mem_of_getElem? (i := 27) rfl)) (by decide +kernel)
theorem kw_791 : Cond.selects "ArcheryField" ⟨"ArcheryField", "leave", "(I)Z"⟩ ⟨"ArcheryField", "leave", "(I)Z"⟩ ∈ zWd := zWd_mem (zm3 (List.mem_of_getElem? (i := 28) rfl)) (by decide +kernel)
theorem kw_792 : Cond.methodLink "ArcheryFieldLaw" 44 ⟨"ArcheryFieldModel", "leave", "(I)Z"⟩ ∈ zWd := zWd_mem (zm5 (List.mem_of_getElem? (i := 107) rfl)) (by decide +kernel)
theorem kw_793 : Cond.code yX12_leave cX12_leave 2 (some .boolean) ∈ zWd := zWd_mem (zm5 (List.mem_of_getElem? (i := 110) rfl)) (by decide +kernel)
theorem kw_794 : Cond.instanceMethod ⟨"ArcheryFieldModel", "leave", "(I)Z"⟩ ∈ zWd := zWd_mem (zm5 (List.mem_of_getElem? (i := 108) rfl)) (by decide +kernel)
theorem kw_795 : Cond.selects "ArcheryFieldModel" ⟨"ArcheryFieldModel", "leave", "(I)Z"⟩ ⟨"ArcheryFieldModel", "leave", "(I)Z"⟩ ∈ zWd := zWd_mem (zm5 (List.mem_of_getElem? (i := 109) rfl)) (by decide +kernel)
theorem kw_796 : Cond.methodLink "ArcheryFieldLaw" 45 ⟨"ArcheryField", "told", "(II)I"⟩ ∈ zWd := zWd_mem (zm3 (List.mem_of_getElem? (i := 48) rfl)) (by decide +kernel)
theorem kw_797 : Cond.code yX11_told cX11_told 4 (some .int) ∈ zWd := zWd_mem (zm3 (List.mem_of_getElem? (i := 51) rfl)) (by decide +kernel)
theorem kw_798 : Cond.instanceMethod ⟨"ArcheryField", "told", "(II)I"⟩ ∈ zWd := zWd_mem (zm3 (List.mem_of_getElem? (i := 49) rfl)) (by decide +kernel)
theorem kw_799 : Cond.selects "ArcheryField" ⟨"ArcheryField", "told", "(II)I"⟩ ⟨"ArcheryField", "told", "(II)I"⟩ ∈ zWd := zWd_mem (zm3 (List.mem_of_getElem? (i := 50) rfl)) (by decide +kernel)
theorem kw_800 : Cond.methodLink "ArcheryFieldLaw" 49 ⟨"ArcheryFieldModel", "told", "(II)I"⟩ ∈ zWd := zWd_mem (zm5 (List.mem_of_getElem? (i := 115) rfl)) (by decide +kernel)
theorem kw_801 : Cond.code yX12_told cX12_told 3 (some .int) ∈ zWd := zWd_mem (zm5 (List.mem_of_getElem? (i := 118) rfl)) (by decide +kernel)
theorem kw_802 : Cond.instanceMethod ⟨"ArcheryFieldModel", "told", "(II)I"⟩ ∈ zWd := zWd_mem (zm5 (List.mem_of_getElem? (i := 116) rfl)) (by decide +kernel)
theorem kw_803 : Cond.selects "ArcheryFieldModel" ⟨"ArcheryFieldModel", "told", "(II)I"⟩ ⟨"ArcheryFieldModel", "told", "(II)I"⟩ ∈ zWd := zWd_mem (zm5 (List.mem_of_getElem? (i := 117) rfl)) (by decide +kernel)
theorem kw_804 : Cond.methodLink "ArcheryFieldLaw" 50 ⟨"ArcheryField", "arrow", "(III)I"⟩ ∈ zWd := zWd_mem (zm3 (List.mem_of_getElem? (i := 73) rfl)) (by decide +kernel)
theorem kw_805 : Cond.code yX11_arrow cX11_arrow 4 (some .int) ∈ zWd := zWd_mem (zm3 (List.mem_of_getElem? (i := 76) rfl)) (by decide +kernel)
theorem kw_806 : Cond.instanceMethod ⟨"ArcheryField", "arrow", "(III)I"⟩ ∈ zWd := zWd_mem (zm3 (List.mem_of_getElem? (i := 74) rfl)) (by decide +kernel)
theorem kw_807 : Cond.selects "ArcheryField" ⟨"ArcheryField", "arrow", "(III)I"⟩ ⟨"ArcheryField", "arrow", "(III)I"⟩ ∈ zWd := zWd_mem (zm3 (List.mem_of_getElem? (i := 75) rfl)) (by decide +kernel)
theorem kw_808 : Cond.methodLink "ArcheryFieldLaw" 54 ⟨"ArcheryFieldModel", "arrow", "(III)I"⟩ ∈ zWd := zWd_mem (zm5 (List.mem_of_getElem? (i := 139) rfl)) (by decide +kernel)
theorem kw_809 : Cond.code yX12_arrow cX12_arrow 4 (some .int) ∈ zWd := zWd_mem (zm5 (List.mem_of_getElem? (i := 142) rfl)) (by decide +kernel)
theorem kw_810 : Cond.instanceMethod ⟨"ArcheryFieldModel", "arrow", "(III)I"⟩ ∈ zWd := zWd_mem (zm5 (List.mem_of_getElem? (i := 140) rfl)) (by decide +kernel)
theorem kw_811 : Cond.selects "ArcheryFieldModel" ⟨"ArcheryFieldModel", "arrow", "(III)I"⟩ ⟨"ArcheryFieldModel", "arrow", "(III)I"⟩ ∈ zWd := zWd_mem (zm5 (List.mem_of_getElem? (i := 141) rfl)) (by decide +kernel)
theorem kw_812 : Cond.methodLink "ArcheryFieldLaw" 55 ⟨"ArcheryField", "shoot", "(I)I"⟩ ∈ zWd := zWd_mem (zm3 (List.mem_of_getElem? (i := 87) rfl)) (by decide +kernel)
theorem kw_813 : Cond.code yX11_shoot cX11_shoot 6 (some .int) ∈ zWd := zWd_mem (zm3 (List.mem_of_getElem? (i := 90) rfl)) (by decide +kernel)
theorem kw_814 : Cond.instanceMethod ⟨"ArcheryField", "shoot", "(I)I"⟩ ∈ zWd := zWd_mem (zm3 (List.mem_of_getElem? (i := 88) rfl)) (by decide +kernel)
theorem kw_815 : Cond.selects "ArcheryField" ⟨"ArcheryField", "shoot", "(I)I"⟩ ⟨"ArcheryField", "shoot", "(I)I"⟩ ∈ zWd := zWd_mem (zm3 (List.mem_of_getElem? (i := 89) rfl)) (by decide +kernel)
theorem kw_816 : Cond.methodLink "ArcheryFieldLaw" 58 ⟨"ArcheryFieldModel", "shoot", "(I)I"⟩ ∈ zWd := zWd_mem (zm5 (List.mem_of_getElem? (i := 146) rfl)) (by decide +kernel)
theorem kw_817 : Cond.code yX12_shoot cX12_shoot 7 (some .int) ∈ zWd := zWd_mem (zm5 (List.mem_of_getElem? (i := 149) rfl)) (by decide +kernel)
theorem kw_818 : Cond.instanceMethod ⟨"ArcheryFieldModel", "shoot", "(I)I"⟩ ∈ zWd := zWd_mem (zm5 (List.mem_of_getElem? (i := 147) rfl)) (by decide +kernel)
theorem kw_819 : Cond.selects "ArcheryFieldModel" ⟨"ArcheryFieldModel", "shoot", "(I)I"⟩ ⟨"ArcheryFieldModel", "shoot", "(I)I"⟩ ∈ zWd := zWd_mem (zm5 (List.mem_of_getElem? (i := 148) rfl)) (by decide +kernel)
theorem kw_820 : Cond.methodLink "ArcheryFieldLaw" 59 ⟨"ArcheryField", "value", "(II)I"⟩ ∈ zWd := zWd_mem (zm3 (List.mem_of_getElem? (i := 143) rfl)) (by decide +kernel)
theorem kw_821 : Cond.code yX11_value cX11_value 4 (some .int) ∈ zWd := zWd_mem (zm3 (List.mem_of_getElem? (i := 146) rfl)) (by decide +kernel)
theorem kw_822 : Cond.instanceMethod ⟨"ArcheryField", "value", "(II)I"⟩ ∈ zWd := zWd_mem (zm3 (List.mem_of_getElem? (i := 144) rfl)) (by decide +kernel)
theorem kw_823 : Cond.selects "ArcheryField" ⟨"ArcheryField", "value", "(II)I"⟩ ⟨"ArcheryField", "value", "(II)I"⟩ ∈ zWd := zWd_mem (zm3 (List.mem_of_getElem? (i := 145) rfl)) (by decide +kernel)
theorem kw_824 : Cond.methodLink "ArcheryFieldLaw" 62 ⟨"ArcheryFieldModel", "value", "(II)I"⟩ ∈ zWd := zWd_mem (zm5 (List.mem_of_getElem? (i := 154) rfl)) (by decide +kernel)
theorem kw_825 : Cond.code yX12_value cX12_value 3 (some .int) ∈ zWd := zWd_mem (zm5 (List.mem_of_getElem? (i := 157) rfl)) (by decide +kernel)
theorem kw_826 : Cond.instanceMethod ⟨"ArcheryFieldModel", "value", "(II)I"⟩ ∈ zWd := zWd_mem (zm5 (List.mem_of_getElem? (i := 155) rfl)) (by decide +kernel)
theorem kw_827 : Cond.selects "ArcheryFieldModel" ⟨"ArcheryFieldModel", "value", "(II)I"⟩ ⟨"ArcheryFieldModel", "value", "(II)I"⟩ ∈ zWd := zWd_mem (zm5 (List.mem_of_getElem? (i := 156) rfl)) (by decide +kernel)
theorem kw_828 : Cond.methodLink "ArcheryFieldLaw" 63 ⟨"ArcheryField", "take", "(I)I"⟩ ∈ zWd := zWd_mem (zm3 (List.mem_of_getElem? (i := 151) rfl)) (by decide +kernel)
theorem kw_829 : Cond.code yX11_take cX11_take 5 (some .int) ∈ zWd := zWd_mem (zm3 (List.mem_of_getElem? (i := 154) rfl)) (by decide +kernel)
theorem kw_830 : Cond.instanceMethod ⟨"ArcheryField", "take", "(I)I"⟩ ∈ zWd := zWd_mem (zm3 (List.mem_of_getElem? (i := 152) rfl)) (by decide +kernel)
theorem kw_831 : Cond.selects "ArcheryField" ⟨"ArcheryField", "take", "(I)I"⟩ ⟨"ArcheryField", "take", "(I)I"⟩ ∈ zWd := zWd_mem (zm3 (List.mem_of_getElem? (i := 153) rfl)) (by decide +kernel)
theorem kw_832 : Cond.methodLink "ArcheryFieldLaw" 66 ⟨"ArcheryFieldModel", "take", "(I)I"⟩ ∈ zWd := zWd_mem (zm5 (List.mem_of_getElem? (i := 158) rfl)) (by decide +kernel)
theorem kw_833 : Cond.code yX12_take cX12_take 2 (some .int) ∈ zWd := zWd_mem (zm5 (List.mem_of_getElem? (i := 161) rfl)) (by decide +kernel)
theorem kw_834 : Cond.instanceMethod ⟨"ArcheryFieldModel", "take", "(I)I"⟩ ∈ zWd := zWd_mem (zm5 (List.mem_of_getElem? (i := 159) rfl)) (by decide +kernel)
theorem kw_835 : Cond.selects "ArcheryFieldModel" ⟨"ArcheryFieldModel", "take", "(I)I"⟩ ⟨"ArcheryFieldModel", "take", "(I)I"⟩ ∈ zWd := zWd_mem (zm5 (List.mem_of_getElem? (i := 160) rfl)) (by decide +kernel)
theorem kw_836 : Cond.methodLink "ArcheryFieldLaw" 67 ⟨"ArcheryField", "off", "(IIII)I"⟩ ∈ zWd := zWd_mem (zm3 (List.mem_of_getElem? (i := 159) rfl)) (by decide +kernel)
theorem kw_837 : Cond.code yX11_off cX11_off 8 (some .int) ∈ zWd := zWd_mem (zm3 (List.mem_of_getElem? (i := 162) rfl)) (by decide +kernel)
theorem kw_838 : Cond.instanceMethod ⟨"ArcheryField", "off", "(IIII)I"⟩ ∈ zWd := zWd_mem (zm3 (List.mem_of_getElem? (i := 160) rfl)) (by decide +kernel)
theorem kw_839 : Cond.selects "ArcheryField" ⟨"ArcheryField", "off", "(IIII)I"⟩ ⟨"ArcheryField", "off", "(IIII)I"⟩ ∈ zWd := zWd_mem (zm3 (List.mem_of_getElem? (i := 161) rfl)) (by decide +kernel)
theorem kw_840 : Cond.methodLink "ArcheryFieldLaw" 71 ⟨"ArcheryFieldModel", "off", "(IIII)I"⟩ ∈ zWd := zWd_mem (zm5 (List.mem_of_getElem? (i := 162) rfl)) (by decide +kernel)
theorem kw_841 : Cond.code yX12_off cX12_off 5 (some .int) ∈ zWd := zWd_mem (zm5 (List.mem_of_getElem? (i := 165) rfl)) (by decide +kernel)
theorem kw_842 : Cond.instanceMethod ⟨"ArcheryFieldModel", "off", "(IIII)I"⟩ ∈ zWd := zWd_mem (zm5 (List.mem_of_getElem? (i := 163) rfl)) (by decide +kernel)
theorem kw_843 : Cond.selects "ArcheryFieldModel" ⟨"ArcheryFieldModel", "off", "(IIII)I"⟩ ⟨"ArcheryFieldModel", "off", "(IIII)I"⟩ ∈ zWd := zWd_mem (zm5 (List.mem_of_getElem? (i := 164) rfl)) (by decide +kernel)
theorem kw_844 : Cond.methodLink "ArcheryFieldLaw" 72 ⟨"ArcheryField", "ahead", "(II)I"⟩ ∈ zWd := zWd_mem (zm3 (List.mem_of_getElem? (i := 169) rfl)) (by decide +kernel)
theorem kw_845 : Cond.code yX11_ahead cX11_ahead 5 (some .int) ∈ zWd := zWd_mem (zm3 (List.mem_of_getElem? (i := 172) rfl)) (by decide +kernel)
theorem kw_846 : Cond.instanceMethod ⟨"ArcheryField", "ahead", "(II)I"⟩ ∈ zWd := zWd_mem (zm3 (List.mem_of_getElem? (i := 170) rfl)) (by decide +kernel)
theorem kw_847 : Cond.selects "ArcheryField" ⟨"ArcheryField", "ahead", "(II)I"⟩ ⟨"ArcheryField", "ahead", "(II)I"⟩ ∈ zWd := zWd_mem (zm3 (List.mem_of_getElem? (i := 171) rfl)) (by decide +kernel)
theorem kw_848 : Cond.methodLink "ArcheryFieldLaw" 75 ⟨"ArcheryFieldModel", "ahead", "(II)I"⟩ ∈ zWd := zWd_mem (zm5 (List.mem_of_getElem? (i := 167) rfl)) (by decide +kernel)
theorem kw_849 : Cond.methodLink "ArcheryFieldLaw" 76 ⟨"ArcheryField", "rank", "(I)I"⟩ ∈ zWd := zWd_mem (zm3 (List.mem_of_getElem? (i := 197) rfl)) (by decide +kernel)
theorem kw_850 : Cond.code yX11_rank cX11_rank 6 (some .int) ∈ zWd := zWd_mem (zm3 (List.mem_of_getElem? (i := 200) rfl)) (by decide +kernel)
theorem kw_851 : Cond.instanceMethod ⟨"ArcheryField", "rank", "(I)I"⟩ ∈ zWd := zWd_mem (zm3 (List.mem_of_getElem? (i := 198) rfl)) (by decide +kernel)
theorem kw_852 : Cond.selects "ArcheryField" ⟨"ArcheryField", "rank", "(I)I"⟩ ⟨"ArcheryField", "rank", "(I)I"⟩ ∈ zWd := zWd_mem (zm3 (List.mem_of_getElem? (i := 199) rfl)) (by decide +kernel)
theorem kw_853 : Cond.methodLink "ArcheryFieldLaw" 79 ⟨"ArcheryFieldModel", "rank", "(I)I"⟩ ∈ zWd := zWd_mem (zm5 (List.mem_of_getElem? (i := 182) rfl)) (by decide +kernel)
theorem kw_854 : Cond.code yX12_rank cX12_rank 4 (some .int) ∈ zWd := zWd_mem (zm5 (List.mem_of_getElem? (i := 185) rfl)) (by decide +kernel)
theorem kw_855 : Cond.instanceMethod ⟨"ArcheryFieldModel", "rank", "(I)I"⟩ ∈ zWd := zWd_mem (zm5 (List.mem_of_getElem? (i := 183) rfl)) (by decide +kernel)
theorem kw_856 : Cond.selects "ArcheryFieldModel" ⟨"ArcheryFieldModel", "rank", "(I)I"⟩ ⟨"ArcheryFieldModel", "rank", "(I)I"⟩ ∈ zWd := zWd_mem (zm5 (List.mem_of_getElem? (i := 184) rfl)) (by decide +kernel)
theorem kw_857 : Cond.methodLink "ArcheryFieldLaw" 80 ⟨"ArcheryField", "today", "(I)Z"⟩ ∈ zWd := zWd_mem (zm3 (List.mem_of_getElem? (i := 201) rfl)) (by decide +kernel)
theorem kw_858 : Cond.code yX11_today cX11_today 2 (some .boolean) ∈ zWd := zWd_mem (zm3 (List.mem_of_getElem? (i := 204) rfl)) (by decide +kernel)
theorem kw_859 : Cond.instanceMethod ⟨"ArcheryField", "today", "(I)Z"⟩ ∈ zWd := zWd_mem (zm3 (List.mem_of_getElem? (i := 202) rfl)) (by decide +kernel)
theorem kw_860 : Cond.selects "ArcheryField" ⟨"ArcheryField", "today", "(I)Z"⟩ ⟨"ArcheryField", "today", "(I)Z"⟩ ∈ zWd := zWd_mem (zm3 (List.mem_of_getElem? (i := 203) rfl)) (by decide +kernel)
theorem kw_861 : Cond.methodLink "ArcheryFieldLaw" 83 ⟨"ArcheryFieldModel", "today", "(I)Z"⟩ ∈ zWd := zWd_mem (zm5 (List.mem_of_getElem? (i := 187) rfl)) (by decide +kernel)
theorem kw_862 : Cond.code yX12_today cX12_today 2 (some .boolean) ∈ zWd := zWd_mem (zm5 (List.mem_of_getElem? (i := 190) rfl)) (by decide +kernel)
theorem kw_863 : Cond.instanceMethod ⟨"ArcheryFieldModel", "today", "(I)Z"⟩ ∈ zWd := zWd_mem (zm5 (List.mem_of_getElem? (i := 188) rfl)) (by decide +kernel)
theorem kw_864 : Cond.selects "ArcheryFieldModel" ⟨"ArcheryFieldModel", "today", "(I)Z"⟩ ⟨"ArcheryFieldModel", "today", "(I)Z"⟩ ∈ zWd := zWd_mem (zm5 (List.mem_of_getElem? (i := 189) rfl)) (by decide +kernel)
theorem kw_865 : Cond.methodLink "ArcheryFieldLaw" 84 ⟨"ArcheryField", "score", "(III)I"⟩ ∈ zWd := zWd_mem (zm3 (List.mem_of_getElem? (i := 209) rfl)) (by decide +kernel)
theorem kw_866 : Cond.code yX11_score cX11_score 5 (some .int) ∈ zWd := zWd_mem (zm3 (List.mem_of_getElem? (i := 212) rfl)) (by decide +kernel)
theorem kw_867 : Cond.instanceMethod ⟨"ArcheryField", "score", "(III)I"⟩ ∈ zWd := zWd_mem (zm3 (List.mem_of_getElem? (i := 210) rfl)) (by decide +kernel)
theorem kw_868 : Cond.selects "ArcheryField" ⟨"ArcheryField", "score", "(III)I"⟩ ⟨"ArcheryField", "score", "(III)I"⟩ ∈ zWd := zWd_mem (zm3 (List.mem_of_getElem? (i := 211) rfl)) (by decide +kernel)
theorem kw_869 : Cond.methodLink "ArcheryFieldLaw" 87 ⟨"ArcheryFieldModel", "score", "(III)I"⟩ ∈ zWd := zWd_mem (zm5 (List.mem_of_getElem? (i := 195) rfl)) (by decide +kernel)
theorem kw_870 : Cond.code yX12_score cX12_score 5 (some .int) ∈ zWd := zWd_mem (zm5 (List.mem_of_getElem? (i := 198) rfl)) (by decide +kernel)
theorem kw_871 : Cond.instanceMethod ⟨"ArcheryFieldModel", "score", "(III)I"⟩ ∈ zWd := zWd_mem (zm5 (List.mem_of_getElem? (i := 196) rfl)) (by decide +kernel)
theorem kw_872 : Cond.selects "ArcheryFieldModel" ⟨"ArcheryFieldModel", "score", "(III)I"⟩ ⟨"ArcheryFieldModel", "score", "(III)I"⟩ ∈ zWd := zWd_mem (zm5 (List.mem_of_getElem? (i := 197) rfl)) (by decide +kernel)
theorem kw_873 : Cond.methodLink "ArcheryFieldLaw" 88 ⟨"ArcheryField", "strike", "(II)Z"⟩ ∈ zWd := zWd_mem (zm3 (List.mem_of_getElem? (i := 226) rfl)) (by decide +kernel)
theorem kw_874 : Cond.code yX11_strike cX11_strike 4 (some .boolean) ∈ zWd := zWd_mem (zm3 (List.mem_of_getElem? (i := 229) rfl)) (by decide +kernel)
theorem kw_875 : Cond.instanceMethod ⟨"ArcheryField", "strike", "(II)Z"⟩ ∈ zWd := zWd_mem (zm3 (List.mem_of_getElem? (i := 227) rfl)) (by decide +kernel)
theorem kw_876 : Cond.selects "ArcheryField" ⟨"ArcheryField", "strike", "(II)Z"⟩ ⟨"ArcheryField", "strike", "(II)Z"⟩ ∈ zWd := zWd_mem (zm3 (List.mem_of_getElem? (i := 228) rfl)) (by decide +kernel)
theorem kw_877 : Cond.methodLink "ArcheryFieldLaw" 92 ⟨"ArcheryFieldModel", "strike", "(II)Z"⟩ ∈ zWd := zWd_mem (zm5 (List.mem_of_getElem? (i := 199) rfl)) (by decide +kernel)
theorem kw_878 : Cond.code yX12_strike cX12_strike 3 (some .boolean) ∈ zWd := zWd_mem (zm5 (List.mem_of_getElem? (i := 202) rfl)) (by decide +kernel)
theorem kw_879 : Cond.instanceMethod ⟨"ArcheryFieldModel", "strike", "(II)Z"⟩ ∈ zWd := zWd_mem (zm5 (List.mem_of_getElem? (i := 200) rfl)) (by decide +kernel)
theorem kw_880 : Cond.selects "ArcheryFieldModel" ⟨"ArcheryFieldModel", "strike", "(II)Z"⟩ ⟨"ArcheryFieldModel", "strike", "(II)Z"⟩ ∈ zWd := zWd_mem (zm5 (List.mem_of_getElem? (i := 201) rfl)) (by decide +kernel)
theorem kw_881 : Cond.methodLink "ArcheryFieldLaw" 93 ⟨"ArcheryField", "law", "(III)I"⟩ ∈ zWd := zWd_mem (zm4 (List.mem_of_getElem? (i := 1) rfl)) (by decide +kernel)
theorem kw_882 : Cond.code yX11_law cX11_law 5 (some .int) ∈ zWd := zWd_mem (zm4 (List.mem_of_getElem? (i := 4) rfl)) (by decide +kernel)
theorem kw_883 : Cond.instanceMethod ⟨"ArcheryField", "law", "(III)I"⟩ ∈ zWd := zWd_mem (zm4 (List.mem_of_getElem? (i := 2) rfl)) (by decide +kernel)
theorem kw_884 : Cond.selects "ArcheryField" ⟨"ArcheryField", "law", "(III)I"⟩ ⟨"ArcheryField", "law", "(III)I"⟩ ∈ zWd := zWd_mem (zm4 (List.mem_of_getElem? (i := 3) rfl)) (by decide +kernel)
theorem kw_885 : Cond.methodLink "ArcheryFieldLaw" 96 ⟨"ArcheryFieldModel", "law", "(III)I"⟩ ∈ zWd := zWd_mem (zm5 (List.mem_of_getElem? (i := 203) rfl)) (by decide +kernel)
theorem kw_886 : Cond.code yX12_law cX12_law 4 (some .int) ∈ zWd := zWd_mem (zm5 (List.mem_of_getElem? (i := 206) rfl)) (by decide +kernel)
theorem kw_887 : Cond.instanceMethod ⟨"ArcheryFieldModel", "law", "(III)I"⟩ ∈ zWd := zWd_mem (zm5 (List.mem_of_getElem? (i := 204) rfl)) (by decide +kernel)
theorem kw_888 : Cond.selects "ArcheryFieldModel" ⟨"ArcheryFieldModel", "law", "(III)I"⟩ ⟨"ArcheryFieldModel", "law", "(III)I"⟩ ∈ zWd := zWd_mem (zm5 (List.mem_of_getElem? (i := 205) rfl)) (by decide +kernel)
theorem kw_889 : Cond.methodLink "ArcheryFieldLaw" 97 ⟨"ArcheryField", "kind", "(III)I"⟩ ∈ zWd := zWd_mem (zm4 (List.mem_of_getElem? (i := 20) rfl)) (by decide +kernel)
theorem kw_890 : Cond.code yX11_kind cX11_kind 5 (some .int) ∈ zWd := zWd_mem (zm4 (List.mem_of_getElem? (i := 23) rfl)) (by decide +kernel)
theorem kw_891 : Cond.instanceMethod ⟨"ArcheryField", "kind", "(III)I"⟩ ∈ zWd := zWd_mem (zm4 (List.mem_of_getElem? (i := 21) rfl)) (by decide +kernel)
theorem kw_892 : Cond.selects "ArcheryField" ⟨"ArcheryField", "kind", "(III)I"⟩ ⟨"ArcheryField", "kind", "(III)I"⟩ ∈ zWd := zWd_mem (zm4 (List.mem_of_getElem? (i := 22) rfl)) (by decide +kernel)
theorem kw_893 : Cond.methodLink "ArcheryFieldLaw" 100 ⟨"ArcheryFieldModel", "kind", "(III)I"⟩ ∈ zWd := zWd_mem (zm5 (List.mem_of_getElem? (i := 207) rfl)) (by decide +kernel)
theorem kw_894 : Cond.code yX12_kind cX12_kind 9 (some .int) ∈ zWd := zWd_mem (zm5 (List.mem_of_getElem? (i := 210) rfl)) (by decide +kernel)
theorem kw_895 : Cond.instanceMethod ⟨"ArcheryFieldModel", "kind", "(III)I"⟩ ∈ zWd := zWd_mem (zm5 (List.mem_of_getElem? (i := 208) rfl)) (by decide +kernel)
theorem kw_896 : Cond.selects "ArcheryFieldModel" ⟨"ArcheryFieldModel", "kind", "(III)I"⟩ ⟨"ArcheryFieldModel", "kind", "(III)I"⟩ ∈ zWd := zWd_mem (zm5 (List.mem_of_getElem? (i := 209) rfl)) (by decide +kernel)
theorem kw_897 : Cond.methodLink "ArcheryFieldLaw" 101 ⟨"ArcheryField", "bay", "(I)I"⟩ ∈ zWd := zWd_mem (zm4 (List.mem_of_getElem? (i := 36) rfl)) (by decide +kernel)
theorem kw_898 : Cond.code yX11_bay cX11_bay 3 (some .int) ∈ zWd := zWd_mem (zm4 (List.mem_of_getElem? (i := 39) rfl)) (by decide +kernel)
theorem kw_899 : Cond.instanceMethod ⟨"ArcheryField", "bay", "(I)I"⟩ ∈ zWd := zWd_mem (zm4 (List.mem_of_getElem? (i := 37) rfl)) (by decide +kernel)
theorem kw_900 : Cond.selects "ArcheryField" ⟨"ArcheryField", "bay", "(I)I"⟩ ⟨"ArcheryField", "bay", "(I)I"⟩ ∈ zWd := zWd_mem (zm4 (List.mem_of_getElem? (i := 38) rfl)) (by decide +kernel)
theorem kw_901 : Cond.methodLink "ArcheryFieldLaw" 104 ⟨"ArcheryFieldModel", "bay", "(I)I"⟩ ∈ zWd := zWd_mem (zm5 (List.mem_of_getElem? (i := 211) rfl)) (by decide +kernel)
theorem kw_902 : Cond.code yX12_bay cX12_bay 4 (some .int) ∈ zWd := zWd_mem (zm5 (List.mem_of_getElem? (i := 214) rfl)) (by decide +kernel)
theorem kw_903 : Cond.instanceMethod ⟨"ArcheryFieldModel", "bay", "(I)I"⟩ ∈ zWd := zWd_mem (zm5 (List.mem_of_getElem? (i := 212) rfl)) (by decide +kernel)
theorem kw_904 : Cond.selects "ArcheryFieldModel" ⟨"ArcheryFieldModel", "bay", "(I)I"⟩ ⟨"ArcheryFieldModel", "bay", "(I)I"⟩ ∈ zWd := zWd_mem (zm5 (List.mem_of_getElem? (i := 213) rfl)) (by decide +kernel)
theorem kw_905 : Cond.methodLink "ArcheryFieldLaw" 105 ⟨"ArcheryField", "layout", "()I"⟩ ∈ zWd := zWd_mem (zm4 (List.mem_of_getElem? (i := 58) rfl)) (by decide +kernel)
theorem kw_906 : Cond.code yX11_layout cX11_layout 5 (some .int) ∈ zWd := zWd_mem (zm4 (List.mem_of_getElem? (i := 61) rfl)) (by decide +kernel)
theorem kw_907 : Cond.instanceMethod ⟨"ArcheryField", "layout", "()I"⟩ ∈ zWd := zWd_mem (zm4 (List.mem_of_getElem? (i := 59) rfl)) (by decide +kernel)
theorem kw_908 : Cond.selects "ArcheryField" ⟨"ArcheryField", "layout", "()I"⟩ ⟨"ArcheryField", "layout", "()I"⟩ ∈ zWd := zWd_mem (zm4 (List.mem_of_getElem? (i := 60) rfl)) (by decide +kernel)
theorem kw_909 : Cond.methodLink "ArcheryFieldLaw" 108 ⟨"ArcheryFieldModel", "layout", "()I"⟩ ∈ zWd := zWd_mem (zm5 (List.mem_of_getElem? (i := 215) rfl)) (by decide +kernel)
theorem kw_910 : Cond.code yX12_layout cX12_layout 4 (some .int) ∈ zWd := zWd_mem (zm5 (List.mem_of_getElem? (i := 218) rfl)) (by decide +kernel)
theorem kw_911 : Cond.instanceMethod ⟨"ArcheryFieldModel", "layout", "()I"⟩ ∈ zWd := zWd_mem (zm5 (List.mem_of_getElem? (i := 216) rfl)) (by decide +kernel)
theorem kw_912 : Cond.selects "ArcheryFieldModel" ⟨"ArcheryFieldModel", "layout", "()I"⟩ ⟨"ArcheryFieldModel", "layout", "()I"⟩ ∈ zWd := zWd_mem (zm5 (List.mem_of_getElem? (i := 217) rfl)) (by decide +kernel)
theorem kw_913 : Cond.methodLink "ArcheryFieldLaw" 109 ⟨"ArcheryField", "on", "(I)I"⟩ ∈ zWd := zWd_mem (zm4 (List.mem_of_getElem? (i := 127) rfl)) (by decide +kernel)
theorem kw_914 : Cond.code yX11_on cX11_on 2 (some .int) ∈ zWd := zWd_mem (zm4 (List.mem_of_getElem? (i := 130) rfl)) (by decide +kernel)
theorem kw_915 : Cond.instanceMethod ⟨"ArcheryField", "on", "(I)I"⟩ ∈ zWd := zWd_mem (zm4 (List.mem_of_getElem? (i := 128) rfl)) (by decide +kernel)
theorem kw_916 : Cond.selects "ArcheryField" ⟨"ArcheryField", "on", "(I)I"⟩ ⟨"ArcheryField", "on", "(I)I"⟩ ∈ zWd := zWd_mem (zm4 (List.mem_of_getElem? (i := 129) rfl)) (by decide +kernel)
theorem kw_917 : Cond.methodLink "ArcheryFieldLaw" 112 ⟨"ArcheryFieldModel", "on", "(I)I"⟩ ∈ zWd := zWd_mem (zm5 (List.mem_of_getElem? (i := 227) rfl)) (by decide +kernel)
theorem kw_918 : Cond.code yX12_on cX12_on 3 (some .int) ∈ zWd := zWd_mem (zm5 (List.mem_of_getElem? (i := 230) rfl)) (by decide +kernel)
theorem kw_919 : Cond.instanceMethod ⟨"ArcheryFieldModel", "on", "(I)I"⟩ ∈ zWd := zWd_mem (zm5 (List.mem_of_getElem? (i := 228) rfl)) (by decide +kernel)
theorem kw_920 : Cond.selects "ArcheryFieldModel" ⟨"ArcheryFieldModel", "on", "(I)I"⟩ ⟨"ArcheryFieldModel", "on", "(I)I"⟩ ∈ zWd := zWd_mem (zm5 (List.mem_of_getElem? (i := 229) rfl)) (by decide +kernel)
theorem kw_921 : Cond.methodLink "ArcheryFieldLaw" 113 ⟨"ArcheryField", "lane", "(II)I"⟩ ∈ zWd := zWd_mem (zm4 (List.mem_of_getElem? (i := 135) rfl)) (by decide +kernel)
theorem kw_922 : Cond.code yX11_lane cX11_lane 5 (some .int) ∈ zWd := zWd_mem (zm4 (List.mem_of_getElem? (i := 138) rfl)) (by decide +kernel)
theorem kw_923 : Cond.instanceMethod ⟨"ArcheryField", "lane", "(II)I"⟩ ∈ zWd := zWd_mem (zm4 (List.mem_of_getElem? (i := 136) rfl)) (by decide +kernel)
theorem kw_924 : Cond.selects "ArcheryField" ⟨"ArcheryField", "lane", "(II)I"⟩ ⟨"ArcheryField", "lane", "(II)I"⟩ ∈ zWd := zWd_mem (zm4 (List.mem_of_getElem? (i := 137) rfl)) (by decide +kernel)
theorem kw_925 : Cond.methodLink "ArcheryFieldLaw" 116 ⟨"ArcheryFieldModel", "lane", "(II)I"⟩ ∈ zWd := zWd_mem (zm5 (List.mem_of_getElem? (i := 231) rfl)) (by decide +kernel)
theorem kw_926 : Cond.code yX12_lane cX12_lane 5 (some .int) ∈ zWd := zWd_mem (zm5 (List.mem_of_getElem? (i := 234) rfl)) (by decide +kernel)
theorem kw_927 : Cond.instanceMethod ⟨"ArcheryFieldModel", "lane", "(II)I"⟩ ∈ zWd := zWd_mem (zm5 (List.mem_of_getElem? (i := 232) rfl)) (by decide +kernel)
theorem kw_928 : Cond.selects "ArcheryFieldModel" ⟨"ArcheryFieldModel", "lane", "(II)I"⟩ ⟨"ArcheryFieldModel", "lane", "(II)I"⟩ ∈ zWd := zWd_mem (zm5 (List.mem_of_getElem? (i := 233) rfl)) (by decide +kernel)
theorem kw_929 : Cond.methodLink "ArcheryFieldLaw" 117 ⟨"ArcheryField", "state", "(I)I"⟩ ∈ zWd := zWd_mem (zm4 (List.mem_of_getElem? (i := 156) rfl)) (by decide +kernel)
theorem kw_930 : Cond.code yX11_state cX11_state 2 (some .int) ∈ zWd := zWd_mem (zm4 (List.mem_of_getElem? (i := 159) rfl)) (by decide +kernel)
theorem kw_931 : Cond.instanceMethod ⟨"ArcheryField", "state", "(I)I"⟩ ∈ zWd := zWd_mem (zm4 (List.mem_of_getElem? (i := 157) rfl)) (by decide +kernel)
theorem kw_932 : Cond.selects "ArcheryField" ⟨"ArcheryField", "state", "(I)I"⟩ ⟨"ArcheryField", "state", "(I)I"⟩ ∈ zWd := zWd_mem (zm4 (List.mem_of_getElem? (i := 158) rfl)) (by decide +kernel)
theorem kw_933 : Cond.methodLink "ArcheryFieldLaw" 120 ⟨"ArcheryFieldModel", "state", "(I)I"⟩ ∈ zWd := zWd_mem (zm5 (List.mem_of_getElem? (i := 235) rfl)) (by decide +kernel)
theorem kw_934 : Cond.code yX12_state cX12_state 2 (some .int) ∈ zWd := zWd_mem (zm5 (List.mem_of_getElem? (i := 238) rfl)) (by decide +kernel)
theorem kw_935 : Cond.instanceMethod ⟨"ArcheryFieldModel", "state", "(I)I"⟩ ∈ zWd := zWd_mem (zm5 (List.mem_of_getElem? (i := 236) rfl)) (by decide +kernel)
theorem kw_936 : Cond.selects "ArcheryFieldModel" ⟨"ArcheryFieldModel", "state", "(I)I"⟩ ⟨"ArcheryFieldModel", "state", "(I)I"⟩ ∈ zWd := zWd_mem (zm5 (List.mem_of_getElem? (i := 237) rfl)) (by decide +kernel)
theorem kw_937 : Cond.methodLink "ArcheryFieldLaw" 121 ⟨"ArcheryField", "undo", "()I"⟩ ∈ zWd := zWd_mem (zm4 (List.mem_of_getElem? (i := 160) rfl)) (by decide +kernel)
theorem kw_938 : Cond.code yX11_undo cX11_undo 1 (some .int) ∈ zWd := zWd_mem (zm4 (List.mem_of_getElem? (i := 163) rfl)) (by decide +kernel)
theorem kw_939 : Cond.instanceMethod ⟨"ArcheryField", "undo", "()I"⟩ ∈ zWd := zWd_mem (zm4 (List.mem_of_getElem? (i := 161) rfl)) (by decide +kernel)
theorem kw_940 : Cond.selects "ArcheryField" ⟨"ArcheryField", "undo", "()I"⟩ ⟨"ArcheryField", "undo", "()I"⟩ ∈ zWd := zWd_mem (zm4 (List.mem_of_getElem? (i := 162) rfl)) (by decide +kernel)
theorem kw_941 : Cond.methodLink "ArcheryFieldLaw" 124 ⟨"ArcheryFieldModel", "undo", "()I"⟩ ∈ zWd := zWd_mem (zm5 (List.mem_of_getElem? (i := 27) rfl)) (by decide +kernel)
theorem kw_942 : Cond.code yX12_undo cX12_undo 2 (some .int) ∈ zWd := zWd_mem (zm5 (List.mem_of_getElem? (i := 30) rfl)) (by decide +kernel)
theorem kw_943 : Cond.instanceMethod ⟨"ArcheryFieldModel", "undo", "()I"⟩ ∈ zWd := zWd_mem (zm5 (List.mem_of_getElem? (i := 28) rfl)) (by decide +kernel)
theorem kw_944 : Cond.selects "ArcheryFieldModel" ⟨"ArcheryFieldModel", "undo", "()I"⟩ ⟨"ArcheryFieldModel", "undo", "()I"⟩ ∈ zWd := zWd_mem (zm5 (List.mem_of_getElem? (i := 29) rfl)) (by decide +kernel)
theorem kw_945 : Cond.classLink "ArcheryFieldLaw" 7 "ArcheryField" ∈ zWd := zWd_mem (zm1 (List.mem_of_getElem? (i := 22) rfl)) (by decide +kernel)
theorem kw_946 : Cond.instantiable "ArcheryField" 6 ∈ zWd := zWd_mem (zm1 (List.mem_of_getElem? (i := 23) rfl)) (by decide +kernel)
theorem kw_947 : Cond.methodLink "ArcheryFieldLaw" 9 ⟨"ArcheryField", "<init>", "()V"⟩ ∈ zWd := zWd_mem (zm1 (List.mem_of_getElem? (i := 24) rfl)) (by decide +kernel)
theorem kw_948 : Cond.code yX11_init cX11_init 1 none ∈ zWd := zWd_mem (zm1 (List.mem_of_getElem? (i := 26) rfl)) (by decide +kernel)
theorem kw_949 : Cond.instanceMethod ⟨"ArcheryField", "<init>", "()V"⟩ ∈ zWd := zWd_mem (zm1 (List.mem_of_getElem? (i := 25) rfl)) (by decide +kernel)
theorem kw_950 : Cond.classLink "ArcheryFieldLaw" 10 "ArcheryFieldModel" ∈ zWd := zWd_mem (zm4 (List.mem_of_getElem? (i := 164) rfl)) (by decide +kernel)
theorem kw_951 : Cond.instantiable "ArcheryFieldModel" 31 ∈ zWd := zWd_mem (zm4 (List.mem_of_getElem? (i := 165) rfl)) (by decide +kernel)
theorem kw_952 : Cond.methodLink "ArcheryFieldLaw" 12 ⟨"ArcheryFieldModel", "<init>", "()V"⟩ ∈ zWd := zWd_mem (zm4 (List.mem_of_getElem? (i := 166) rfl)) (by decide +kernel)
theorem kw_953 : Cond.code yX12_init cX12_init 2 none ∈ zWd := zWd_mem (zm4 (List.mem_of_getElem? (i := 168) rfl)) (by decide +kernel)
theorem kw_954 : Cond.instanceMethod ⟨"ArcheryFieldModel", "<init>", "()V"⟩ ∈ zWd := zWd_mem (zm4 (List.mem_of_getElem? (i := 167) rfl)) (by decide +kernel)
end
section
theorem kp_0 : zFp "ArcheryField$Archer" "<init>" 7 0 0 .int := ⟨RX0, TX0, 3, tyX0, rfl, by decide, inzX0, tyX0_ok, nmX0, by decide +kernel, Or.inr (Or.inr ⟨rfl, rfl, rfl, kw_3⟩)⟩
theorem kp_1 : zFp "ArcheryField$Archer" "<init>" 13 0 1 (.object "ArcheryField$Shots") := ⟨RX0, TX0, 3, tyX0, rfl, by decide, inzX0, tyX0_ok, nmX0, by decide +kernel, Or.inr (Or.inr ⟨rfl, rfl, rfl, kw_4⟩)⟩
theorem kp_2 : zFp "ArcheryField$Archer" "<init>" 17 0 2 (.object "ArcheryField$Scores") := ⟨RX0, TX0, 3, tyX0, rfl, by decide, inzX0, tyX0_ok, nmX0, by decide +kernel, Or.inr (Or.inr ⟨rfl, rfl, rfl, kw_5⟩)⟩
theorem kn_3 : zFn "ArcheryField$Archer" 8 0 [zi 0, zr none, zr none] := ⟨RX0, TX0, 3, tyX0, rfl, inzX0, tyX0_ok, kw_6, kw_7, kw_8, rfl, fun g j hj => by rcases (show j = 0 ∨ j = 1 ∨ j = 2 by omega) with rfl | rfl | rfl <;> rfl⟩
theorem kg_4 : zFg "ArcheryField$Archer" 7 0 0 := ⟨RX0, TX0, 3, rfl, by decide, inzX0, Or.inl kw_3⟩
theorem kg_5 : zFg "ArcheryField$Archer" 17 0 2 := ⟨RX0, TX0, 3, rfl, by decide, inzX0, Or.inl kw_5⟩
theorem km_X0_init : zMc jX0_init 3 := ⟨⟨kw_11, kw_8, kw_10⟩, rfl, rfl, ⟨by decide +kernel, by decide +kernel, by decide +kernel⟩⟩
theorem kt_7 : zFits jX0_with jX0_init := ⟨by decide, by decide⟩
theorem kg_8 : zFg "ArcheryField$Archer" 13 0 1 := ⟨RX0, TX0, 3, rfl, by decide, inzX0, Or.inl kw_4⟩
theorem kt_9 : zFits jX0_with_ jX0_init := ⟨by decide, by decide⟩
theorem kp_10 : zFp "ArcheryField$Laws" "<init>" 12 1 0 (.array .int) := ⟨RX1, TX1, 1, tyX1, rfl, by decide, inzX1, tyX1_ok, nmX1, by decide +kernel, Or.inr (Or.inr ⟨rfl, rfl, rfl, kw_13⟩)⟩
theorem km_X1_init_ : zMc jX1_init_ 1 := ⟨⟨kw_17, kw_18, kw_16⟩, rfl, rfl, ⟨by decide +kernel, by decide +kernel, by decide +kernel⟩⟩
theorem kt_12 : zFits jX1_init jX1_init_ := ⟨by decide, by decide⟩
theorem kg_13 : zFg "ArcheryField$Laws" 12 1 0 := ⟨RX1, TX1, 1, rfl, by decide, inzX1, Or.inl kw_13⟩
theorem km_X1_count : zMv jX1_count 0 := ⟨⟨kw_21, kw_22, kw_18, kw_20⟩, ⟨by decide +kernel, by decide +kernel, by decide +kernel⟩⟩
theorem kt_15 : zFits jX1_canAdd jX1_count := ⟨by decide, by decide⟩
theorem kk_16 : zMk "java/util/Arrays" 316 "[I" := ⟨kw_31, kw_32, kw_33, kw_34, kw_35, kw_36⟩
theorem km_J7_copyOf_59c91 : zMs jJ7_copyOf_59c91 2 := ⟨⟨kw_40, kw_41, kw_39⟩, ⟨by decide +kernel, by decide +kernel, by decide +kernel⟩⟩
theorem kt_18 : zFits jX1_with jJ7_copyOf_59c91 := ⟨by decide, by decide⟩
theorem kn_19 : zFn "ArcheryField$Laws" 2 1 [zr none] := ⟨RX1, TX1, 1, tyX1, rfl, inzX1, tyX1_ok, kw_42, kw_43, kw_18, rfl, fun g j hj => by rcases (show j = 0 by omega) with rfl <;> rfl⟩
theorem kt_20 : zFits jX1_with jX1_init_ := ⟨by decide, by decide⟩
theorem kg_21 : zFg "ArcheryField$Scores" 14 7 0 := ⟨RX7, TX7, 1, rfl, by decide, inzX7, Or.inl kw_44⟩
theorem km_X7_count : zMv jX7_count 0 := ⟨⟨kw_47, kw_48, kw_49, kw_46⟩, ⟨by decide +kernel, by decide +kernel, by decide +kernel⟩⟩
theorem kt_23 : zFits jX7_countFor jX7_count := ⟨by decide, by decide⟩
theorem km_X7_standsFor : zMv jX7_standsFor 3 := ⟨⟨kw_52, kw_53, kw_49, kw_51⟩, ⟨by decide +kernel, by decide +kernel, by decide +kernel⟩⟩
theorem kt_25 : zFits jX7_countFor jX7_standsFor := ⟨by decide, by decide⟩
theorem kt_26 : zFits jX1_classOf jX1_count := ⟨by decide, by decide⟩
theorem km_X7_countFor : zMv jX7_countFor 3 := ⟨⟨kw_56, kw_57, kw_49, kw_55⟩, ⟨by decide +kernel, by decide +kernel, by decide +kernel⟩⟩
theorem kt_28 : zFits jX1_classOf jX7_countFor := ⟨by decide, by decide⟩
theorem kp_29 : zFp "ArcheryField$Line" "<init>" 14 2 0 (.array .int) := ⟨RX2, TX2, 3, tyX2, rfl, by decide, inzX2, tyX2_ok, nmX2, by decide +kernel, Or.inr (Or.inr ⟨rfl, rfl, rfl, kw_59⟩)⟩
theorem kp_30 : zFp "ArcheryField$Line" "<init>" 18 2 1 (.array .int) := ⟨RX2, TX2, 3, tyX2, rfl, by decide, inzX2, tyX2_ok, nmX2, by decide +kernel, Or.inr (Or.inr ⟨rfl, rfl, rfl, kw_60⟩)⟩
theorem kp_31 : zFp "ArcheryField$Line" "<init>" 21 2 2 (.array .int) := ⟨RX2, TX2, 3, tyX2, rfl, by decide, inzX2, tyX2_ok, nmX2, by decide +kernel, Or.inr (Or.inr ⟨rfl, rfl, rfl, kw_61⟩)⟩
theorem km_X2_init_ : zMc jX2_init_ 3 := ⟨⟨kw_64, kw_65, kw_63⟩, rfl, rfl, ⟨by decide +kernel, by decide +kernel, by decide +kernel⟩⟩
theorem kt_33 : zFits jX2_init jX2_init_ := ⟨by decide, by decide⟩
theorem kg_34 : zFg "ArcheryField$Line" 18 2 1 := ⟨RX2, TX2, 3, rfl, by decide, inzX2, Or.inl kw_60⟩
theorem kg_35 : zFg "ArcheryField$Line" 21 2 2 := ⟨RX2, TX2, 3, rfl, by decide, inzX2, Or.inl kw_61⟩
theorem km_X2_countLanes : zMv jX2_countLanes 0 := ⟨⟨kw_68, kw_69, kw_65, kw_67⟩, ⟨by decide +kernel, by decide +kernel, by decide +kernel⟩⟩
theorem kt_37 : zFits jX2_canAdd jX2_countLanes := ⟨by decide, by decide⟩
theorem km_J7_fill_53178 : zMs jJ7_fill_53178 2 := ⟨⟨kw_72, kw_41, kw_71⟩, ⟨by decide +kernel, by decide +kernel, by decide +kernel⟩⟩
theorem kt_39 : zFits jX2_withBay jJ7_fill_53178 := ⟨by decide, by decide⟩
theorem kn_40 : zFn "ArcheryField$Line" 4 2 [zr none, zr none, zr none] := ⟨RX2, TX2, 3, tyX2, rfl, inzX2, tyX2_ok, kw_73, kw_74, kw_65, rfl, fun g j hj => by rcases (show j = 0 ∨ j = 1 ∨ j = 2 by omega) with rfl | rfl | rfl <;> rfl⟩
theorem kt_41 : zFits jX2_withBay jX2_init_ := ⟨by decide, by decide⟩
theorem kg_42 : zFg "ArcheryField$Line" 14 2 0 := ⟨RX2, TX2, 3, rfl, by decide, inzX2, Or.inl kw_59⟩
theorem kt_43 : zFits jX2_withBay jJ7_copyOf_59c91 := ⟨by decide, by decide⟩
theorem km_X2_canAdd : zMv jX2_canAdd 1 := ⟨⟨kw_78, kw_79, kw_65, kw_77⟩, ⟨by decide +kernel, by decide +kernel, by decide +kernel⟩⟩
theorem kt_45 : zFits jX2_withBay jX2_canAdd := ⟨by decide, by decide⟩
theorem kt_46 : zFits jX2_withBay jX2_countLanes := ⟨by decide, by decide⟩
theorem kt_47 : zFits jX2_withSeats jX2_init_ := ⟨by decide, by decide⟩
theorem km_X2_placeOf : zMv jX2_placeOf 1 := ⟨⟨kw_82, kw_83, kw_65, kw_81⟩, ⟨by decide +kernel, by decide +kernel, by decide +kernel⟩⟩
theorem kt_49 : zFits jX2_without jX2_placeOf := ⟨by decide, by decide⟩
theorem kk_50 : zMk "ArcheryField$Line" 46 "[I" := ⟨kw_84, kw_32, kw_33, kw_34, kw_35, kw_36⟩
theorem kt_51 : zFits jX2_without jX2_init_ := ⟨by decide, by decide⟩
theorem km_X2_isAnyOfBay : zMv jX2_isAnyOfBay 2 := ⟨⟨kw_88, kw_89, kw_65, kw_87⟩, ⟨by decide +kernel, by decide +kernel, by decide +kernel⟩⟩
theorem kt_53 : zFits jX2_mayBecome jX2_isAnyOfBay := ⟨by decide, by decide⟩
theorem km_X2_stateOf : zMv jX2_stateOf 1 := ⟨⟨kw_92, kw_93, kw_65, kw_91⟩, ⟨by decide +kernel, by decide +kernel, by decide +kernel⟩⟩
theorem kt_55 : zFits jX2_mayBecome jX2_stateOf := ⟨by decide, by decide⟩
theorem kt_56 : zFits jX2_withState jX2_init_ := ⟨by decide, by decide⟩
theorem kg_57 : zFg "ArcheryField$State" 17 9 1 := ⟨RX9, TX9, 5, rfl, by decide, inzX9, Or.inl kw_94⟩
theorem km_X9_find : zMv jX9_find 1 := ⟨⟨kw_97, kw_98, kw_99, kw_96⟩, ⟨by decide +kernel, by decide +kernel, by decide +kernel⟩⟩
theorem kt_59 : zFits jX3_init jX9_find := ⟨by decide, by decide⟩
theorem kg_60 : zFg "ArcheryField$Planner" 9 3 0 := ⟨RX3, TX3, 7, rfl, by decide, inzX3, Or.inl kw_100⟩
theorem kg_61 : zFg "ArcheryField$Planner" 21 3 3 := ⟨RX3, TX3, 7, rfl, by decide, inzX3, Or.inl kw_101⟩
theorem kg_62 : zFg "ArcheryField$Planner" 15 3 1 := ⟨RX3, TX3, 7, rfl, by decide, inzX3, Or.inl kw_102⟩
theorem kg_63 : zFg "ArcheryField$Planner" 52 0 0 := ⟨RX0, TX0, 3, rfl, by decide, inzX0, Or.inr ⟨_, kw_103⟩⟩
theorem kp_64 (nm : String) : zFp "ArcheryField$Planner" nm 21 3 3 .int := ⟨RX3, TX3, 7, tyX3, rfl, by decide, inzX3, tyX3_ok, nmX3, by decide +kernel, Or.inl ⟨rfl, kw_101⟩⟩
theorem kp_65 : zFp "ArcheryField$Planner" "<init>" 9 3 0 (.array .int) := ⟨RX3, TX3, 7, tyX3, rfl, by decide, inzX3, tyX3_ok, nmX3, by decide +kernel, Or.inr (Or.inr ⟨rfl, rfl, rfl, kw_100⟩)⟩
theorem kp_66 : zFp "ArcheryField$Planner" "<init>" 15 3 1 (.array .int) := ⟨RX3, TX3, 7, tyX3, rfl, by decide, inzX3, tyX3_ok, nmX3, by decide +kernel, Or.inr (Or.inr ⟨rfl, rfl, rfl, kw_102⟩)⟩
theorem kp_67 : zFp "ArcheryField$Planner" "<init>" 18 3 2 (.array .int) := ⟨RX3, TX3, 7, tyX3, rfl, by decide, inzX3, tyX3_ok, nmX3, by decide +kernel, Or.inr (Or.inr ⟨rfl, rfl, rfl, kw_105⟩)⟩
theorem kp_68 (nm : String) : zFp "ArcheryField$Planner" nm 25 3 6 .int := ⟨RX3, TX3, 7, tyX3, rfl, by decide, inzX3, tyX3_ok, nmX3, by decide +kernel, Or.inl ⟨rfl, kw_106⟩⟩
theorem kp_69 : zFp "ArcheryField$Planner" "<init>" 34 3 4 (.array .int) := ⟨RX3, TX3, 7, tyX3, rfl, by decide, inzX3, tyX3_ok, nmX3, by decide +kernel, Or.inr (Or.inr ⟨rfl, rfl, rfl, kw_110⟩)⟩
theorem kp_70 : zFp "ArcheryField$Planner" "<init>" 37 3 5 (.array .int) := ⟨RX3, TX3, 7, tyX3, rfl, by decide, inzX3, tyX3_ok, nmX3, by decide +kernel, Or.inr (Or.inr ⟨rfl, rfl, rfl, kw_111⟩)⟩
theorem kg_71 : zFg "ArcheryField$Planner" 34 3 4 := ⟨RX3, TX3, 7, rfl, by decide, inzX3, Or.inl kw_110⟩
theorem kt_72 : zFits jX3_init jJ7_fill_53178 := ⟨by decide, by decide⟩
theorem kg_73 : zFg "ArcheryField$Planner" 37 3 5 := ⟨RX3, TX3, 7, rfl, by decide, inzX3, Or.inl kw_111⟩
theorem km_X3_clubOn : zMv jX3_clubOn 1 := ⟨⟨kw_115, kw_116, kw_117, kw_114⟩, ⟨by decide +kernel, by decide +kernel, by decide +kernel⟩⟩
theorem kt_75 : zFits jX3_isParted jX3_clubOn := ⟨by decide, by decide⟩
theorem kg_76 : zFg "ArcheryField$Planner" 25 3 6 := ⟨RX3, TX3, 7, rfl, by decide, inzX3, Or.inl kw_106⟩
theorem kp_77 (nm : String) : zFp "ArcheryField$Planner" nm 25 3 6 .int := ⟨RX3, TX3, 7, tyX3, rfl, by decide, inzX3, tyX3_ok, nmX3, by decide +kernel, Or.inl ⟨rfl, kw_106⟩⟩
theorem km_X3_isParted : zMv jX3_isParted 2 := ⟨⟨kw_120, kw_121, kw_117, kw_119⟩, ⟨by decide +kernel, by decide +kernel, by decide +kernel⟩⟩
theorem kt_79 : zFits jX3_nextPlace jX3_isParted := ⟨by decide, by decide⟩
theorem kg_80 : zFg "ArcheryField$Planner" 18 3 2 := ⟨RX3, TX3, 7, rfl, by decide, inzX3, Or.inl kw_105⟩
theorem km_X3_nextPlace : zMv jX3_nextPlace 2 := ⟨⟨kw_125, kw_126, kw_117, kw_124⟩, ⟨by decide +kernel, by decide +kernel, by decide +kernel⟩⟩
theorem kt_82 : zFits jX3_search jX3_nextPlace := ⟨by decide, by decide⟩
theorem km_X3_lift : zMv jX3_lift 1 := ⟨⟨kw_129, kw_130, kw_117, kw_128⟩, ⟨by decide +kernel, by decide +kernel, by decide +kernel⟩⟩
theorem kt_84 : zFits jX3_search jX3_lift := ⟨by decide, by decide⟩
theorem km_X3_put : zMv jX3_put 2 := ⟨⟨kw_133, kw_134, kw_117, kw_132⟩, ⟨by decide +kernel, by decide +kernel, by decide +kernel⟩⟩
theorem kt_86 : zFits jX3_search jX3_put := ⟨by decide, by decide⟩
theorem kp_87 : zFp "ArcheryField$Quiver" "<init>" 11 4 0 (.array .int) := ⟨RX4, TX4, 5, tyX4, rfl, by decide, inzX4, tyX4_ok, nmX4, by decide +kernel, Or.inr (Or.inr ⟨rfl, rfl, rfl, kw_136⟩)⟩
theorem kp_88 : zFp "ArcheryField$Quiver" "<init>" 15 4 1 (.array .int) := ⟨RX4, TX4, 5, tyX4, rfl, by decide, inzX4, tyX4_ok, nmX4, by decide +kernel, Or.inr (Or.inr ⟨rfl, rfl, rfl, kw_137⟩)⟩
theorem kp_89 : zFp "ArcheryField$Quiver" "<init>" 18 4 2 (.array .int) := ⟨RX4, TX4, 5, tyX4, rfl, by decide, inzX4, tyX4_ok, nmX4, by decide +kernel, Or.inr (Or.inr ⟨rfl, rfl, rfl, kw_138⟩)⟩
theorem kp_90 (nm : String) : zFp "ArcheryField$Quiver" nm 21 4 3 .int := ⟨RX4, TX4, 5, tyX4, rfl, by decide, inzX4, tyX4_ok, nmX4, by decide +kernel, Or.inl ⟨rfl, kw_139⟩⟩
theorem kp_91 : zFp "ArcheryField$Quiver" "<init>" 25 4 4 (.array .int) := ⟨RX4, TX4, 5, tyX4, rfl, by decide, inzX4, tyX4_ok, nmX4, by decide +kernel, Or.inr (Or.inr ⟨rfl, rfl, rfl, kw_140⟩)⟩
theorem km_X11_isOnField : zMs jX11_isOnField 2 := ⟨⟨kw_143, kw_144, kw_142⟩, ⟨by decide +kernel, by decide +kernel, by decide +kernel⟩⟩
theorem kt_93 : zFits jX4_canBe jX11_isOnField := ⟨by decide, by decide⟩
theorem kg_94 : zFg "ArcheryField$Quiver" 21 4 3 := ⟨RX4, TX4, 5, rfl, by decide, inzX4, Or.inl kw_139⟩
theorem km_X4_canBe : zMs jX4_canBe 3 := ⟨⟨kw_147, kw_148, kw_146⟩, ⟨by decide +kernel, by decide +kernel, by decide +kernel⟩⟩
theorem kt_96 : zFits jX4_add jX4_canBe := ⟨by decide, by decide⟩
theorem kg_97 : zFg "ArcheryField$Quiver" 11 4 0 := ⟨RX4, TX4, 5, rfl, by decide, inzX4, Or.inl kw_136⟩
theorem kg_98 : zFg "ArcheryField$Quiver" 15 4 1 := ⟨RX4, TX4, 5, rfl, by decide, inzX4, Or.inl kw_137⟩
theorem kg_99 : zFg "ArcheryField$Quiver" 18 4 2 := ⟨RX4, TX4, 5, rfl, by decide, inzX4, Or.inl kw_138⟩
theorem kp_100 (nm : String) : zFp "ArcheryField$Quiver" nm 21 4 3 .int := ⟨RX4, TX4, 5, tyX4, rfl, by decide, inzX4, tyX4_ok, nmX4, by decide +kernel, Or.inl ⟨rfl, kw_139⟩⟩
theorem kg_101 : zFg "ArcheryField$Round" 43 6 10 := ⟨RX6, TX6, 11, rfl, by decide, inzX6, Or.inl kw_149⟩
theorem km_X6_isSet : zMv jX6_isSet 1 := ⟨⟨kw_152, kw_153, kw_154, kw_151⟩, ⟨by decide +kernel, by decide +kernel, by decide +kernel⟩⟩
theorem kt_103 : zFits jX6_setting jX6_isSet := ⟨by decide, by decide⟩
theorem kg_104 : zFg "ArcheryField$Round" 15 6 1 := ⟨RX6, TX6, 11, rfl, by decide, inzX6, Or.inl kw_155⟩
theorem kg_105 : zFg "ArcheryField$Round" 19 6 2 := ⟨RX6, TX6, 11, rfl, by decide, inzX6, Or.inl kw_156⟩
theorem km_X6_setting : zMv jX6_setting 1 := ⟨⟨kw_159, kw_160, kw_154, kw_158⟩, ⟨by decide +kernel, by decide +kernel, by decide +kernel⟩⟩
theorem kt_107 : zFits jX6_valueAt jX6_setting := ⟨by decide, by decide⟩
theorem kg_108 : zFg "ArcheryField$Round" 22 6 3 := ⟨RX6, TX6, 11, rfl, by decide, inzX6, Or.inl kw_161⟩
theorem kg_109 : zFg "ArcheryField$Round" 9 6 0 := ⟨RX6, TX6, 11, rfl, by decide, inzX6, Or.inl kw_162⟩
theorem kg_110 : zFg "ArcheryField$Round" 25 6 4 := ⟨RX6, TX6, 11, rfl, by decide, inzX6, Or.inl kw_163⟩
theorem kg_111 : zFg "ArcheryField$Round" 34 6 7 := ⟨RX6, TX6, 11, rfl, by decide, inzX6, Or.inl kw_164⟩
theorem kg_112 : zFg "ArcheryField$Quiver" 25 4 4 := ⟨RX4, TX4, 5, rfl, by decide, inzX4, Or.inl kw_140⟩
theorem km_X6_valueAt : zMv jX6_valueAt 3 := ⟨⟨kw_167, kw_168, kw_154, kw_166⟩, ⟨by decide +kernel, by decide +kernel, by decide +kernel⟩⟩
theorem kt_114 : zFits jX4_judgeOne jX6_valueAt := ⟨by decide, by decide⟩
theorem kt_115 : zFits jX4_judgeOne jX6_setting := ⟨by decide, by decide⟩
theorem km_X4_judgeIn : zMv jX4_judgeIn 2 := ⟨⟨kw_172, kw_173, kw_148, kw_171⟩, ⟨by decide +kernel, by decide +kernel, by decide +kernel⟩⟩
theorem kt_117 : zFits jX4_judgeOne jX4_judgeIn := ⟨by decide, by decide⟩
theorem km_X4_judgeOne : zMv jX4_judgeOne 3 := ⟨⟨kw_176, kw_177, kw_148, kw_175⟩, ⟨by decide +kernel, by decide +kernel, by decide +kernel⟩⟩
theorem kt_119 : zFits jX4_judge jX4_judgeOne := ⟨by decide, by decide⟩
theorem kp_120 : zFp "ArcheryField$Tape" "<init>" 11 10 0 (.array .byte) := ⟨RX10, TX10, 2, tyX10, rfl, by decide, inzX10, tyX10_ok, nmX10, by decide +kernel, Or.inr (Or.inr ⟨rfl, rfl, rfl, kw_180⟩)⟩
theorem kp_121 (nm : String) : zFp "ArcheryField$Tape" nm 15 10 1 .int := ⟨RX10, TX10, 2, tyX10, rfl, by decide, inzX10, tyX10_ok, nmX10, by decide +kernel, Or.inl ⟨rfl, kw_181⟩⟩
theorem kp_122 (nm : String) : zFp "ArcheryField$Round" nm 9 6 0 .int := ⟨RX6, TX6, 11, tyX6, rfl, by decide, inzX6, tyX6_ok, nmX6, by decide +kernel, Or.inl ⟨rfl, kw_162⟩⟩
theorem kp_123 : zFp "ArcheryField$Round" "<init>" 15 6 1 (.array .int) := ⟨RX6, TX6, 11, tyX6, rfl, by decide, inzX6, tyX6_ok, nmX6, by decide +kernel, Or.inr (Or.inr ⟨rfl, rfl, rfl, kw_155⟩)⟩
theorem kp_124 : zFp "ArcheryField$Round" "<init>" 19 6 2 (.array .int) := ⟨RX6, TX6, 11, tyX6, rfl, by decide, inzX6, tyX6_ok, nmX6, by decide +kernel, Or.inr (Or.inr ⟨rfl, rfl, rfl, kw_156⟩)⟩
theorem kp_125 : zFp "ArcheryField$Round" "<init>" 22 6 3 (.array .int) := ⟨RX6, TX6, 11, tyX6, rfl, by decide, inzX6, tyX6_ok, nmX6, by decide +kernel, Or.inr (Or.inr ⟨rfl, rfl, rfl, kw_161⟩)⟩
theorem kp_126 (nm : String) : zFp "ArcheryField$Round" nm 25 6 4 .int := ⟨RX6, TX6, 11, tyX6, rfl, by decide, inzX6, tyX6_ok, nmX6, by decide +kernel, Or.inl ⟨rfl, kw_163⟩⟩
theorem kp_127 : zFp "ArcheryField$Round" "<init>" 28 6 5 (.array .int) := ⟨RX6, TX6, 11, tyX6, rfl, by decide, inzX6, tyX6_ok, nmX6, by decide +kernel, Or.inr (Or.inr ⟨rfl, rfl, rfl, kw_183⟩)⟩
theorem kp_128 : zFp "ArcheryField$Round" "<init>" 31 6 6 (.array .int) := ⟨RX6, TX6, 11, tyX6, rfl, by decide, inzX6, tyX6_ok, nmX6, by decide +kernel, Or.inr (Or.inr ⟨rfl, rfl, rfl, kw_184⟩)⟩
theorem kp_129 : zFp "ArcheryField$Round" "<init>" 34 6 7 (.array .int) := ⟨RX6, TX6, 11, tyX6, rfl, by decide, inzX6, tyX6_ok, nmX6, by decide +kernel, Or.inr (Or.inr ⟨rfl, rfl, rfl, kw_164⟩)⟩
theorem kp_130 (nm : String) : zFp "ArcheryField$Round" nm 37 6 8 .int := ⟨RX6, TX6, 11, tyX6, rfl, by decide, inzX6, tyX6_ok, nmX6, by decide +kernel, Or.inl ⟨rfl, kw_185⟩⟩
theorem kp_131 : zFp "ArcheryField$Round" "<init>" 40 6 9 (.array .int) := ⟨RX6, TX6, 11, tyX6, rfl, by decide, inzX6, tyX6_ok, nmX6, by decide +kernel, Or.inr (Or.inr ⟨rfl, rfl, rfl, kw_186⟩)⟩
theorem kp_132 : zFp "ArcheryField$Round" "<init>" 43 6 10 (.array .int) := ⟨RX6, TX6, 11, tyX6, rfl, by decide, inzX6, tyX6_ok, nmX6, by decide +kernel, Or.inr (Or.inr ⟨rfl, rfl, rfl, kw_149⟩)⟩
theorem kn_133 : zFn "ArcheryField$Reader" 9 10 [zr none, zi 0] := ⟨RX10, TX10, 2, tyX10, rfl, inzX10, tyX10_ok, kw_188, kw_189, kw_190, rfl, fun g j hj => by rcases (show j = 0 ∨ j = 1 by omega) with rfl | rfl <;> rfl⟩
theorem km_X10_init : zMc jX10_init 0 := ⟨⟨kw_193, kw_190, kw_192⟩, rfl, rfl, ⟨by decide +kernel, by decide +kernel, by decide +kernel⟩⟩
theorem kt_135 : zFits jX5_init jX10_init := ⟨by decide, by decide⟩
theorem kp_136 : zFp "ArcheryField$Reader" "<init>" 12 5 0 (.object "ArcheryField$Tape") := ⟨RX5, TX5, 7, tyX5, rfl, by decide, inzX5, tyX5_ok, nmX5, by decide +kernel, Or.inr (Or.inr ⟨rfl, rfl, rfl, kw_194⟩)⟩
theorem kn_137 : zFn "ArcheryField$Reader" 18 6 [zi 0, zr none, zr none, zr none, zi 0, zr none, zr none, zr none, zi 0, zr none, zr none] := ⟨RX6, TX6, 11, tyX6, rfl, inzX6, tyX6_ok, kw_195, kw_196, kw_154, rfl, fun g j hj => by rcases (show j = 0 ∨ j = 1 ∨ j = 2 ∨ j = 3 ∨ j = 4 ∨ j = 5 ∨ j = 6 ∨ j = 7 ∨ j = 8 ∨ j = 9 ∨ j = 10 by omega) with rfl | rfl | rfl | rfl | rfl | rfl | rfl | rfl | rfl | rfl | rfl <;> rfl⟩
theorem km_X6_init : zMc jX6_init 0 := ⟨⟨kw_199, kw_154, kw_198⟩, rfl, rfl, ⟨by decide +kernel, by decide +kernel, by decide +kernel⟩⟩
theorem kt_139 : zFits jX5_init jX6_init := ⟨by decide, by decide⟩
theorem kp_140 (nm : String) : zFp "ArcheryField$Reader" nm 21 5 1 (.object "ArcheryField$Round") := ⟨RX5, TX5, 7, tyX5, rfl, by decide, inzX5, tyX5_ok, nmX5, by decide +kernel, Or.inl ⟨rfl, kw_200⟩⟩
theorem kp_141 (nm : String) : zFp "ArcheryField$Reader" nm 25 5 2 .int := ⟨RX5, TX5, 7, tyX5, rfl, by decide, inzX5, tyX5_ok, nmX5, by decide +kernel, Or.inl ⟨rfl, kw_201⟩⟩
theorem kp_142 (nm : String) : zFp "ArcheryField$Reader" nm 29 5 3 .int := ⟨RX5, TX5, 7, tyX5, rfl, by decide, inzX5, tyX5_ok, nmX5, by decide +kernel, Or.inl ⟨rfl, kw_202⟩⟩
theorem kp_143 (nm : String) : zFp "ArcheryField$Reader" nm 32 5 4 .int := ⟨RX5, TX5, 7, tyX5, rfl, by decide, inzX5, tyX5_ok, nmX5, by decide +kernel, Or.inl ⟨rfl, kw_203⟩⟩
theorem kp_144 (nm : String) : zFp "ArcheryField$Reader" nm 35 5 5 .int := ⟨RX5, TX5, 7, tyX5, rfl, by decide, inzX5, tyX5_ok, nmX5, by decide +kernel, Or.inl ⟨rfl, kw_204⟩⟩
theorem kp_145 (nm : String) : zFp "ArcheryField$Reader" nm 38 5 6 .int := ⟨RX5, TX5, 7, tyX5, rfl, by decide, inzX5, tyX5_ok, nmX5, by decide +kernel, Or.inl ⟨rfl, kw_205⟩⟩
theorem kg_146 : zFg "ArcheryField$Tape" 15 10 1 := ⟨RX10, TX10, 2, rfl, by decide, inzX10, Or.inl kw_181⟩
theorem kg_147 : zFg "ArcheryField$Tape" 11 10 0 := ⟨RX10, TX10, 2, rfl, by decide, inzX10, Or.inl kw_180⟩
theorem kg_148 : zFg "ArcheryField$Reader" 25 5 2 := ⟨RX5, TX5, 7, rfl, by decide, inzX5, Or.inl kw_201⟩
theorem kg_149 : zFg "ArcheryField$Reader" 12 5 0 := ⟨RX5, TX5, 7, rfl, by decide, inzX5, Or.inl kw_194⟩
theorem kg_150 : zFg "ArcheryField$Reader" 44 10 1 := ⟨RX10, TX10, 2, rfl, by decide, inzX10, Or.inl kw_206⟩
theorem km_X10_signAt : zMv jX10_signAt 1 := ⟨⟨kw_209, kw_210, kw_190, kw_208⟩, ⟨by decide +kernel, by decide +kernel, by decide +kernel⟩⟩
theorem kt_152 : zFits jX5_skipBlanks jX10_signAt := ⟨by decide, by decide⟩
theorem km_X5_isBlank : zMs jX5_isBlank 1 := ⟨⟨kw_213, kw_214, kw_212⟩, ⟨by decide +kernel, by decide +kernel, by decide +kernel⟩⟩
theorem kt_154 : zFits jX5_skipBlanks jX5_isBlank := ⟨by decide, by decide⟩
theorem kp_155 (nm : String) : zFp "ArcheryField$Reader" nm 25 5 2 .int := ⟨RX5, TX5, 7, tyX5, rfl, by decide, inzX5, tyX5_ok, nmX5, by decide +kernel, Or.inl ⟨rfl, kw_201⟩⟩
theorem kt_156 : zFits jX5_skipLetters jX10_signAt := ⟨by decide, by decide⟩
theorem km_X5_isLetter : zMs jX5_isLetter 1 := ⟨⟨kw_217, kw_214, kw_216⟩, ⟨by decide +kernel, by decide +kernel, by decide +kernel⟩⟩
theorem kt_158 : zFits jX5_skipLetters jX5_isLetter := ⟨by decide, by decide⟩
theorem kt_159 : zFits jX5_isSpelt jX10_signAt := ⟨by decide, by decide⟩
theorem kp_160 (nm : String) : zFp "ArcheryField$Round" nm 9 6 0 .int := ⟨RX6, TX6, 11, tyX6, rfl, by decide, inzX6, tyX6_ok, nmX6, by decide +kernel, Or.inl ⟨rfl, kw_162⟩⟩
theorem kp_161 (nm : String) : zFp "ArcheryField$Reader" nm 35 5 5 .int := ⟨RX5, TX5, 7, tyX5, rfl, by decide, inzX5, tyX5_ok, nmX5, by decide +kernel, Or.inl ⟨rfl, kw_204⟩⟩
theorem kp_162 (nm : String) : zFp "ArcheryField$Reader" nm 38 5 6 .int := ⟨RX5, TX5, 7, tyX5, rfl, by decide, inzX5, tyX5_ok, nmX5, by decide +kernel, Or.inl ⟨rfl, kw_205⟩⟩
theorem km_X5_skipBlanks : zMv jX5_skipBlanks 0 := ⟨⟨kw_222, kw_223, kw_214, kw_221⟩, ⟨by decide +kernel, by decide +kernel, by decide +kernel⟩⟩
theorem kt_164 : zFits jX5_isDigitNext jX5_skipBlanks := ⟨by decide, by decide⟩
theorem kt_165 : zFits jX5_isDigitNext jX10_signAt := ⟨by decide, by decide⟩
theorem km_X5_isDigit : zMs jX5_isDigit 1 := ⟨⟨kw_226, kw_214, kw_225⟩, ⟨by decide +kernel, by decide +kernel, by decide +kernel⟩⟩
theorem kt_167 : zFits jX5_isDigitNext jX5_isDigit := ⟨by decide, by decide⟩
theorem kg_168 : zFg "ArcheryField$Reader" 32 5 4 := ⟨RX5, TX5, 7, rfl, by decide, inzX5, Or.inl kw_203⟩
theorem km_X5_refuse : zMv jX5_refuse 2 := ⟨⟨kw_229, kw_230, kw_214, kw_228⟩, ⟨by decide +kernel, by decide +kernel, by decide +kernel⟩⟩
theorem kt_170 : zFits jX5_readNumber jX5_refuse := ⟨by decide, by decide⟩
theorem kg_171 : zFg "ArcheryField$Reader" 29 5 3 := ⟨RX5, TX5, 7, rfl, by decide, inzX5, Or.inl kw_202⟩
theorem kt_172 : zFits jX5_readNumber jX10_signAt := ⟨by decide, by decide⟩
theorem kt_173 : zFits jX5_readNumber jX5_isDigit := ⟨by decide, by decide⟩
theorem kp_174 (nm : String) : zFp "ArcheryField$Reader" nm 29 5 3 .int := ⟨RX5, TX5, 7, tyX5, rfl, by decide, inzX5, tyX5_ok, nmX5, by decide +kernel, Or.inl ⟨rfl, kw_202⟩⟩
theorem kt_175 : zFits jX5_readNumber jX5_skipBlanks := ⟨by decide, by decide⟩
theorem kp_176 (nm : String) : zFp "ArcheryField$Reader" nm 32 5 4 .int := ⟨RX5, TX5, 7, tyX5, rfl, by decide, inzX5, tyX5_ok, nmX5, by decide +kernel, Or.inl ⟨rfl, kw_203⟩⟩
theorem kt_177 : zFits jX5_readSign jX5_skipBlanks := ⟨by decide, by decide⟩
theorem kt_178 : zFits jX5_readSign jX10_signAt := ⟨by decide, by decide⟩
theorem kt_179 : zFits jX5_readSign jX5_refuse := ⟨by decide, by decide⟩
theorem km_X5_readNumber : zMv jX5_readNumber 2 := ⟨⟨kw_233, kw_234, kw_214, kw_232⟩, ⟨by decide +kernel, by decide +kernel, by decide +kernel⟩⟩
theorem kt_181 : zFits jX5_readFace jX5_readNumber := ⟨by decide, by decide⟩
theorem km_X5_readSign : zMv jX5_readSign 1 := ⟨⟨kw_237, kw_238, kw_214, kw_236⟩, ⟨by decide +kernel, by decide +kernel, by decide +kernel⟩⟩
theorem kt_183 : zFits jX5_readFace jX5_readSign := ⟨by decide, by decide⟩
theorem kg_184 : zFg "ArcheryField$Reader" 21 5 1 := ⟨RX5, TX5, 7, rfl, by decide, inzX5, Or.inl kw_200⟩
theorem km_X6_addLine : zMv jX6_addLine 2 := ⟨⟨kw_241, kw_242, kw_154, kw_240⟩, ⟨by decide +kernel, by decide +kernel, by decide +kernel⟩⟩
theorem kt_186 : zFits jX5_readFace jX6_addLine := ⟨by decide, by decide⟩
theorem km_X5_isDigitNext : zMv jX5_isDigitNext 0 := ⟨⟨kw_245, kw_246, kw_214, kw_244⟩, ⟨by decide +kernel, by decide +kernel, by decide +kernel⟩⟩
theorem kt_188 : zFits jX5_readFace jX5_isDigitNext := ⟨by decide, by decide⟩
theorem kt_189 : zFits jX5_readFace jX5_refuse := ⟨by decide, by decide⟩
theorem km_X6_addFace : zMv jX6_addFace 0 := ⟨⟨kw_249, kw_250, kw_154, kw_248⟩, ⟨by decide +kernel, by decide +kernel, by decide +kernel⟩⟩
theorem kt_191 : zFits jX5_readFace jX6_addFace := ⟨by decide, by decide⟩
theorem kg_192 : zFg "ArcheryField$Round" 28 6 5 := ⟨RX6, TX6, 11, rfl, by decide, inzX6, Or.inl kw_183⟩
theorem kg_193 : zFg "ArcheryField$Round" 31 6 6 := ⟨RX6, TX6, 11, rfl, by decide, inzX6, Or.inl kw_184⟩
theorem kp_194 (nm : String) : zFp "ArcheryField$Round" nm 25 6 4 .int := ⟨RX6, TX6, 11, tyX6, rfl, by decide, inzX6, tyX6_ok, nmX6, by decide +kernel, Or.inl ⟨rfl, kw_163⟩⟩
theorem kg_195 : zFg "ArcheryField$Reader" 55 6 4 := ⟨RX6, TX6, 11, rfl, by decide, inzX6, Or.inr ⟨_, kw_251⟩⟩
theorem kt_196 : zFits jX5_readLeg jX5_readNumber := ⟨by decide, by decide⟩
theorem km_X6_addLeg : zMv jX6_addLeg 3 := ⟨⟨kw_255, kw_256, kw_154, kw_254⟩, ⟨by decide +kernel, by decide +kernel, by decide +kernel⟩⟩
theorem kt_198 : zFits jX5_readLeg jX6_addLeg := ⟨by decide, by decide⟩
theorem kt_199 : zFits jX5_readLeg jX5_refuse := ⟨by decide, by decide⟩
theorem kg_200 : zFg "ArcheryField$Round" 37 6 8 := ⟨RX6, TX6, 11, rfl, by decide, inzX6, Or.inl kw_185⟩
theorem kg_201 : zFg "ArcheryField$Round" 40 6 9 := ⟨RX6, TX6, 11, rfl, by decide, inzX6, Or.inl kw_186⟩
theorem km_X6_canTie : zMv jX6_canTie 0 := ⟨⟨kw_259, kw_260, kw_154, kw_258⟩, ⟨by decide +kernel, by decide +kernel, by decide +kernel⟩⟩
theorem kt_203 : zFits jX5_mayTie jX6_canTie := ⟨by decide, by decide⟩
theorem kt_204 : zFits jX5_mayTie jX5_refuse := ⟨by decide, by decide⟩
theorem kt_205 : zFits jX6_addTie jX6_canTie := ⟨by decide, by decide⟩
theorem kp_206 (nm : String) : zFp "ArcheryField$Round" nm 37 6 8 .int := ⟨RX6, TX6, 11, tyX6, rfl, by decide, inzX6, tyX6_ok, nmX6, by decide +kernel, Or.inl ⟨rfl, kw_185⟩⟩
theorem kt_207 : zFits jX5_readOnce jX6_isSet := ⟨by decide, by decide⟩
theorem kt_208 : zFits jX5_readOnce jX5_readNumber := ⟨by decide, by decide⟩
theorem km_X6_set : zMv jX6_set 2 := ⟨⟨kw_265, kw_266, kw_154, kw_264⟩, ⟨by decide +kernel, by decide +kernel, by decide +kernel⟩⟩
theorem kt_210 : zFits jX5_readOnce jX6_set := ⟨by decide, by decide⟩
theorem kt_211 : zFits jX5_readOnce jX5_refuse := ⟨by decide, by decide⟩
theorem km_X5_skipLetters : zMv jX5_skipLetters 0 := ⟨⟨kw_269, kw_270, kw_214, kw_268⟩, ⟨by decide +kernel, by decide +kernel, by decide +kernel⟩⟩
theorem kt_213 : zFits jX5_readStatement jX5_skipLetters := ⟨by decide, by decide⟩
theorem km_X5_isSpelt : zMv jX5_isSpelt 2 := ⟨⟨kw_273, kw_274, kw_214, kw_272⟩, ⟨by decide +kernel, by decide +kernel, by decide +kernel⟩⟩
theorem kt_215 : zFits jX5_readStatement jX5_isSpelt := ⟨by decide, by decide⟩
theorem kt_216 : zFits jX5_readStatement jX5_refuse := ⟨by decide, by decide⟩
theorem km_X5_readOnce : zMv jX5_readOnce 3 := ⟨⟨kw_277, kw_278, kw_214, kw_276⟩, ⟨by decide +kernel, by decide +kernel, by decide +kernel⟩⟩
theorem kt_218 : zFits jX5_readStatement jX5_readOnce := ⟨by decide, by decide⟩
theorem km_X5_mayTie : zMv jX5_mayTie 1 := ⟨⟨kw_281, kw_282, kw_214, kw_280⟩, ⟨by decide +kernel, by decide +kernel, by decide +kernel⟩⟩
theorem kt_220 : zFits jX5_readStatement jX5_mayTie := ⟨by decide, by decide⟩
theorem km_X6_addTie : zMv jX6_addTie 1 := ⟨⟨kw_285, kw_286, kw_154, kw_284⟩, ⟨by decide +kernel, by decide +kernel, by decide +kernel⟩⟩
theorem kt_222 : zFits jX5_readStatement jX6_addTie := ⟨by decide, by decide⟩
theorem kt_223 : zFits jX5_readStatement jX5_readNumber := ⟨by decide, by decide⟩
theorem km_X5_readLeg : zMv jX5_readLeg 1 := ⟨⟨kw_289, kw_290, kw_214, kw_288⟩, ⟨by decide +kernel, by decide +kernel, by decide +kernel⟩⟩
theorem kt_225 : zFits jX5_readStatement jX5_readLeg := ⟨by decide, by decide⟩
theorem km_X5_readFace : zMv jX5_readFace 1 := ⟨⟨kw_293, kw_294, kw_214, kw_292⟩, ⟨by decide +kernel, by decide +kernel, by decide +kernel⟩⟩
theorem kt_227 : zFits jX5_readStatement jX5_readFace := ⟨by decide, by decide⟩
theorem kg_228 : zFg "ArcheryField$Reader" 35 5 5 := ⟨RX5, TX5, 7, rfl, by decide, inzX5, Or.inl kw_204⟩
theorem kt_229 : zFits jX5_read jX5_refuse := ⟨by decide, by decide⟩
theorem km_X5_readStatement : zMv jX5_readStatement 0 := ⟨⟨kw_297, kw_298, kw_214, kw_296⟩, ⟨by decide +kernel, by decide +kernel, by decide +kernel⟩⟩
theorem kt_231 : zFits jX5_read jX5_readStatement := ⟨by decide, by decide⟩
theorem kt_232 : zFits jX5_read jX5_readSign := ⟨by decide, by decide⟩
theorem kt_233 : zFits jX5_read jX5_skipBlanks := ⟨by decide, by decide⟩
theorem kt_234 : zFits jX5_read jX6_init := ⟨by decide, by decide⟩
theorem kp_235 (nm : String) : zFp "ArcheryField$Reader" nm 21 5 1 (.object "ArcheryField$Round") := ⟨RX5, TX5, 7, tyX5, rfl, by decide, inzX5, tyX5_ok, nmX5, by decide +kernel, Or.inl ⟨rfl, kw_200⟩⟩
theorem km_X6_countEnds : zMv jX6_countEnds 0 := ⟨⟨kw_301, kw_302, kw_154, kw_300⟩, ⟨by decide +kernel, by decide +kernel, by decide +kernel⟩⟩
theorem kt_237 : zFits jX6_tell jX6_countEnds := ⟨by decide, by decide⟩
theorem km_X6_countArrows : zMv jX6_countArrows 0 := ⟨⟨kw_305, kw_306, kw_154, kw_304⟩, ⟨by decide +kernel, by decide +kernel, by decide +kernel⟩⟩
theorem kt_239 : zFits jX6_tell jX6_countArrows := ⟨by decide, by decide⟩
theorem kt_240 : zFits jX6_tell jX6_setting := ⟨by decide, by decide⟩
theorem kg_241 : zFg "ArcheryField$Shots" 14 8 0 := ⟨RX8, TX8, 3, rfl, by decide, inzX8, Or.inl kw_307⟩
theorem kg_242 : zFg "ArcheryField$Shots" 21 8 2 := ⟨RX8, TX8, 3, rfl, by decide, inzX8, Or.inl kw_309⟩
theorem km_X8_squareOf : zMv jX8_squareOf 1 := ⟨⟨kw_312, kw_313, kw_314, kw_311⟩, ⟨by decide +kernel, by decide +kernel, by decide +kernel⟩⟩
theorem kt_244 : zFits jX6_compareOffs jX8_squareOf := ⟨by decide, by decide⟩
theorem kg_245 : zFg "ArcheryField$Shots" 18 8 1 := ⟨RX8, TX8, 3, rfl, by decide, inzX8, Or.inl kw_315⟩
theorem km_X8_lastSum : zMv jX8_lastSum 0 := ⟨⟨kw_318, kw_319, kw_314, kw_317⟩, ⟨by decide +kernel, by decide +kernel, by decide +kernel⟩⟩
theorem kt_247 : zFits jX6_compareBy jX8_lastSum := ⟨by decide, by decide⟩
theorem km_J6_compare_7cf53 : zMs jJ6_compare_7cf53 2 := ⟨⟨kw_322, kw_323, kw_321⟩, ⟨by decide +kernel, by decide +kernel, by decide +kernel⟩⟩
theorem kt_249 : zFits jX6_compareBy jJ6_compare_7cf53 := ⟨by decide, by decide⟩
theorem km_X6_compareOffs : zMs jX6_compareOffs 2 := ⟨⟨kw_326, kw_154, kw_325⟩, ⟨by decide +kernel, by decide +kernel, by decide +kernel⟩⟩
theorem kt_251 : zFits jX6_compareBy jX6_compareOffs := ⟨by decide, by decide⟩
theorem km_X8_countOf : zMv jX8_countOf 1 := ⟨⟨kw_329, kw_330, kw_314, kw_328⟩, ⟨by decide +kernel, by decide +kernel, by decide +kernel⟩⟩
theorem kt_253 : zFits jX6_compareBy jX8_countOf := ⟨by decide, by decide⟩
theorem km_X6_compareBy : zMs jX6_compareBy 3 := ⟨⟨kw_333, kw_154, kw_332⟩, ⟨by decide +kernel, by decide +kernel, by decide +kernel⟩⟩
theorem kt_255 : zFits jX6_compare jX6_compareBy := ⟨by decide, by decide⟩
theorem km_X8_total : zMv jX8_total 0 := ⟨⟨kw_336, kw_337, kw_314, kw_335⟩, ⟨by decide +kernel, by decide +kernel, by decide +kernel⟩⟩
theorem kt_257 : zFits jX6_compare jX8_total := ⟨by decide, by decide⟩
theorem kt_258 : zFits jX6_compare jJ6_compare_7cf53 := ⟨by decide, by decide⟩
theorem kp_259 : zFp "ArcheryField$Scores" "<init>" 14 7 0 (.array .int) := ⟨RX7, TX7, 1, tyX7, rfl, by decide, inzX7, tyX7_ok, nmX7, by decide +kernel, Or.inr (Or.inr ⟨rfl, rfl, rfl, kw_44⟩)⟩
theorem km_X7_init_ : zMc jX7_init_ 1 := ⟨⟨kw_341, kw_49, kw_340⟩, rfl, rfl, ⟨by decide +kernel, by decide +kernel, by decide +kernel⟩⟩
theorem kt_261 : zFits jX7_init jX7_init_ := ⟨by decide, by decide⟩
theorem kt_262 : zFits jX7_with jJ7_copyOf_59c91 := ⟨by decide, by decide⟩
theorem kn_263 : zFn "ArcheryField$Scores" 4 7 [zr none] := ⟨RX7, TX7, 1, tyX7, rfl, inzX7, tyX7_ok, kw_343, kw_344, kw_49, rfl, fun g j hj => by rcases (show j = 0 by omega) with rfl <;> rfl⟩
theorem kt_264 : zFits jX7_with jX7_init_ := ⟨by decide, by decide⟩
theorem kt_265 : zFits jX7_canStrike jX7_count := ⟨by decide, by decide⟩
theorem kk_266 : zMk "ArcheryField$Scores" 28 "[I" := ⟨kw_345, kw_32, kw_33, kw_34, kw_35, kw_36⟩
theorem kt_267 : zFits jX7_withStruck jX7_init_ := ⟨by decide, by decide⟩
theorem kt_268 : zFits jX7_withStruck jX7_count := ⟨by decide, by decide⟩
theorem kp_269 : zFp "ArcheryField$Shots" "<init>" 14 8 0 (.array .int) := ⟨RX8, TX8, 3, tyX8, rfl, by decide, inzX8, tyX8_ok, nmX8, by decide +kernel, Or.inr (Or.inr ⟨rfl, rfl, rfl, kw_307⟩)⟩
theorem kp_270 : zFp "ArcheryField$Shots" "<init>" 18 8 1 (.array .int) := ⟨RX8, TX8, 3, tyX8, rfl, by decide, inzX8, tyX8_ok, nmX8, by decide +kernel, Or.inr (Or.inr ⟨rfl, rfl, rfl, kw_315⟩)⟩
theorem kp_271 : zFp "ArcheryField$Shots" "<init>" 21 8 2 (.array .int) := ⟨RX8, TX8, 3, tyX8, rfl, by decide, inzX8, tyX8_ok, nmX8, by decide +kernel, Or.inr (Or.inr ⟨rfl, rfl, rfl, kw_309⟩)⟩
theorem km_X8_init_ : zMc jX8_init_ 3 := ⟨⟨kw_350, kw_314, kw_349⟩, rfl, rfl, ⟨by decide +kernel, by decide +kernel, by decide +kernel⟩⟩
theorem kt_273 : zFits jX8_init jX8_init_ := ⟨by decide, by decide⟩
theorem kt_274 : zFits jX8_joined jJ7_copyOf_59c91 := ⟨by decide, by decide⟩
theorem kn_275 : zFn "ArcheryField$Shots" 4 8 [zr none, zr none, zr none] := ⟨RX8, TX8, 3, tyX8, rfl, inzX8, tyX8_ok, kw_352, kw_353, kw_314, rfl, fun g j hj => by rcases (show j = 0 ∨ j = 1 ∨ j = 2 by omega) with rfl | rfl | rfl <;> rfl⟩
theorem km_X8_joined : zMs jX8_joined 2 := ⟨⟨kw_356, kw_314, kw_355⟩, ⟨by decide +kernel, by decide +kernel, by decide +kernel⟩⟩
theorem kt_277 : zFits jX8_withEnd jX8_joined := ⟨by decide, by decide⟩
theorem kt_278 : zFits jX8_withEnd jX8_init_ := ⟨by decide, by decide⟩
theorem kt_279 : zFits jX8_withEnd jJ7_copyOf_59c91 := ⟨by decide, by decide⟩
theorem kt_280 : zFits jX8_withoutLast jJ7_copyOf_59c91 := ⟨by decide, by decide⟩
theorem kt_281 : zFits jX8_withoutLast jX8_init_ := ⟨by decide, by decide⟩
theorem kt_282 : zFits jX8_withOff jX8_joined := ⟨by decide, by decide⟩
theorem kt_283 : zFits jX8_withOff jX8_init_ := ⟨by decide, by decide⟩
theorem kp_284 (nm : String) : zFp "ArcheryField$State" nm 9 9 0 (.object "ArcheryField$Round") := ⟨RX9, TX9, 5, tyX9, rfl, by decide, inzX9, tyX9_ok, nmX9, by decide +kernel, Or.inl ⟨rfl, kw_359⟩⟩
theorem kp_285 : zFp "ArcheryField$State" "<init>" 17 9 1 (.array (.object "ArcheryField$Archer")) := ⟨RX9, TX9, 5, tyX9, rfl, by decide, inzX9, tyX9_ok, nmX9, by decide +kernel, Or.inr (Or.inr ⟨rfl, rfl, rfl, kw_94⟩)⟩
theorem kn_286 : zFn "ArcheryField$State" 21 1 [zr none] := ⟨RX1, TX1, 1, tyX1, rfl, inzX1, tyX1_ok, kw_361, kw_43, kw_18, rfl, fun g j hj => by rcases (show j = 0 by omega) with rfl <;> rfl⟩
theorem km_X1_init : zMc jX1_init 0 := ⟨⟨kw_364, kw_18, kw_363⟩, rfl, rfl, ⟨by decide +kernel, by decide +kernel, by decide +kernel⟩⟩
theorem kt_288 : zFits jX9_init jX1_init := ⟨by decide, by decide⟩
theorem kp_289 (nm : String) : zFp "ArcheryField$State" nm 24 9 2 (.object "ArcheryField$Laws") := ⟨RX9, TX9, 5, tyX9, rfl, by decide, inzX9, tyX9_ok, nmX9, by decide +kernel, Or.inl ⟨rfl, kw_365⟩⟩
theorem kn_290 : zFn "ArcheryField$State" 28 2 [zr none, zr none, zr none] := ⟨RX2, TX2, 3, tyX2, rfl, inzX2, tyX2_ok, kw_366, kw_74, kw_65, rfl, fun g j hj => by rcases (show j = 0 ∨ j = 1 ∨ j = 2 by omega) with rfl | rfl | rfl <;> rfl⟩
theorem km_X2_init : zMc jX2_init 0 := ⟨⟨kw_369, kw_65, kw_368⟩, rfl, rfl, ⟨by decide +kernel, by decide +kernel, by decide +kernel⟩⟩
theorem kt_292 : zFits jX9_init jX2_init := ⟨by decide, by decide⟩
theorem kp_293 (nm : String) : zFp "ArcheryField$State" nm 31 9 3 (.object "ArcheryField$Line") := ⟨RX9, TX9, 5, tyX9, rfl, by decide, inzX9, tyX9_ok, nmX9, by decide +kernel, Or.inl ⟨rfl, kw_370⟩⟩
theorem kp_294 (nm : String) : zFp "ArcheryField$State" nm 35 9 4 .int := ⟨RX9, TX9, 5, tyX9, rfl, by decide, inzX9, tyX9_ok, nmX9, by decide +kernel, Or.inl ⟨rfl, kw_371⟩⟩
theorem kg_295 : zFg "ArcheryField$State" 9 9 0 := ⟨RX9, TX9, 5, rfl, by decide, inzX9, Or.inl kw_359⟩
theorem kk_296 : zMk "ArcheryField$State" 39 "[LArcheryField$Archer;" := ⟨kw_372, kw_373, kw_33, kw_34, kw_374, kw_375⟩
theorem kg_297 : zFg "ArcheryField$State" 24 9 2 := ⟨RX9, TX9, 5, rfl, by decide, inzX9, Or.inl kw_365⟩
theorem kg_298 : zFg "ArcheryField$State" 31 9 3 := ⟨RX9, TX9, 5, rfl, by decide, inzX9, Or.inl kw_370⟩
theorem kg_299 : zFg "ArcheryField$State" 35 9 4 := ⟨RX9, TX9, 5, rfl, by decide, inzX9, Or.inl kw_371⟩
theorem km_X0_with : zMv jX0_with 1 := ⟨⟨kw_379, kw_380, kw_8, kw_378⟩, ⟨by decide +kernel, by decide +kernel, by decide +kernel⟩⟩
theorem kt_301 : zFits jX9_forgetShots jX0_with := ⟨by decide, by decide⟩
theorem kn_302 : zFn "ArcheryField$State" 44 8 [zr none, zr none, zr none] := ⟨RX8, TX8, 3, tyX8, rfl, inzX8, tyX8_ok, kw_381, kw_353, kw_314, rfl, fun g j hj => by rcases (show j = 0 ∨ j = 1 ∨ j = 2 by omega) with rfl | rfl | rfl <;> rfl⟩
theorem km_X8_init : zMc jX8_init 0 := ⟨⟨kw_384, kw_314, kw_383⟩, rfl, rfl, ⟨by decide +kernel, by decide +kernel, by decide +kernel⟩⟩
theorem kt_304 : zFits jX9_forgetShots jX8_init := ⟨by decide, by decide⟩
theorem kp_305 (nm : String) : zFp "ArcheryField$Tape" nm 15 10 1 .int := ⟨RX10, TX10, 2, tyX10, rfl, by decide, inzX10, tyX10_ok, nmX10, by decide +kernel, Or.inl ⟨rfl, kw_181⟩⟩
theorem kn_306 : zFn "ArcheryField" 7 5 [zr none, zr none, zi 0, zi 0, zi 0, zi 0, zi 0] := ⟨RX5, TX5, 7, tyX5, rfl, inzX5, tyX5_ok, kw_386, kw_387, kw_214, rfl, fun g j hj => by rcases (show j = 0 ∨ j = 1 ∨ j = 2 ∨ j = 3 ∨ j = 4 ∨ j = 5 ∨ j = 6 by omega) with rfl | rfl | rfl | rfl | rfl | rfl | rfl <;> rfl⟩
theorem km_X5_init : zMc jX5_init 0 := ⟨⟨kw_390, kw_214, kw_389⟩, rfl, rfl, ⟨by decide +kernel, by decide +kernel, by decide +kernel⟩⟩
theorem kt_308 : zFits jX11_init jX5_init := ⟨by decide, by decide⟩
theorem kp_309 : zFp "ArcheryField" "<init>" 10 11 0 (.object "ArcheryField$Reader") := ⟨RX11, TX11, 6, tyX11, rfl, by decide, inzX11, tyX11_ok, nmX11, by decide +kernel, Or.inr (Or.inr ⟨rfl, rfl, rfl, kw_391⟩)⟩
theorem kg_310 : zFg "ArcheryField" 10 11 0 := ⟨RX11, TX11, 6, rfl, by decide, inzX11, Or.inl kw_391⟩
theorem kg_311 : zFg "ArcheryField" 16 5 0 := ⟨RX5, TX5, 7, rfl, by decide, inzX5, Or.inr ⟨_, kw_392⟩⟩
theorem kp_312 : zFp "ArcheryField" "<init>" 20 11 1 (.object "ArcheryField$Tape") := ⟨RX11, TX11, 6, tyX11, rfl, by decide, inzX11, tyX11_ok, nmX11, by decide +kernel, Or.inr (Or.inr ⟨rfl, rfl, rfl, kw_393⟩)⟩
theorem kn_313 : zFn "ArcheryField" 21 4 [zr none, zr none, zr none, zi 0, zr none] := ⟨RX4, TX4, 5, tyX4, rfl, inzX4, tyX4_ok, kw_394, kw_395, kw_148, rfl, fun g j hj => by rcases (show j = 0 ∨ j = 1 ∨ j = 2 ∨ j = 3 ∨ j = 4 by omega) with rfl | rfl | rfl | rfl | rfl <;> rfl⟩
theorem km_X4_init : zMc jX4_init 0 := ⟨⟨kw_398, kw_148, kw_397⟩, rfl, rfl, ⟨by decide +kernel, by decide +kernel, by decide +kernel⟩⟩
theorem kt_315 : zFits jX11_init jX4_init := ⟨by decide, by decide⟩
theorem kp_316 : zFp "ArcheryField" "<init>" 24 11 2 (.object "ArcheryField$Quiver") := ⟨RX11, TX11, 6, tyX11, rfl, by decide, inzX11, tyX11_ok, nmX11, by decide +kernel, Or.inr (Or.inr ⟨rfl, rfl, rfl, kw_399⟩)⟩
theorem kp_317 : zFp "ArcheryField" "<init>" 30 11 3 (.array (.object "ArcheryField$State")) := ⟨RX11, TX11, 6, tyX11, rfl, by decide, inzX11, tyX11_ok, nmX11, by decide +kernel, Or.inr (Or.inr ⟨rfl, rfl, rfl, kw_401⟩)⟩
theorem kp_318 (nm : String) : zFp "ArcheryField" nm 34 11 4 .int := ⟨RX11, TX11, 6, tyX11, rfl, by decide, inzX11, tyX11_ok, nmX11, by decide +kernel, Or.inl ⟨rfl, kw_402⟩⟩
theorem kn_319 : zFn "ArcheryField" 28 9 [zr none, zr none, zr none, zr none, zi 0] := ⟨RX9, TX9, 5, tyX9, rfl, inzX9, tyX9_ok, kw_400, kw_403, kw_99, rfl, fun g j hj => by rcases (show j = 0 ∨ j = 1 ∨ j = 2 ∨ j = 3 ∨ j = 4 by omega) with rfl | rfl | rfl | rfl | rfl <;> rfl⟩
theorem km_X9_init : zMc jX9_init 0 := ⟨⟨kw_406, kw_99, kw_405⟩, rfl, rfl, ⟨by decide +kernel, by decide +kernel, by decide +kernel⟩⟩
theorem kt_321 : zFits jX11_init jX9_init := ⟨by decide, by decide⟩
theorem kp_322 (nm : String) : zFp "ArcheryField" nm 39 11 5 (.object "ArcheryField$State") := ⟨RX11, TX11, 6, tyX11, rfl, by decide, inzX11, tyX11_ok, nmX11, by decide +kernel, Or.inl ⟨rfl, kw_407⟩⟩
theorem kg_323 : zFg "ArcheryField" 20 11 1 := ⟨RX11, TX11, 6, rfl, by decide, inzX11, Or.inl kw_393⟩
theorem kg_324 : zFg "ArcheryField" 43 10 1 := ⟨RX10, TX10, 2, rfl, by decide, inzX10, Or.inl kw_408⟩
theorem km_X10_append : zMv jX10_append 1 := ⟨⟨kw_411, kw_412, kw_190, kw_410⟩, ⟨by decide +kernel, by decide +kernel, by decide +kernel⟩⟩
theorem kt_326 : zFits jX11_feed jX10_append := ⟨by decide, by decide⟩
theorem kp_327 (nm : String) : zFp "ArcheryField" nm 43 10 1 .int := ⟨RX10, TX10, 2, tyX10, rfl, by decide, inzX10, tyX10_ok, nmX10, by decide +kernel, Or.inl ⟨rfl, kw_408⟩⟩
theorem kg_328 : zFg "ArcheryField" 30 11 3 := ⟨RX11, TX11, 6, rfl, by decide, inzX11, Or.inl kw_401⟩
theorem kg_329 : zFg "ArcheryField" 34 11 4 := ⟨RX11, TX11, 6, rfl, by decide, inzX11, Or.inl kw_402⟩
theorem kg_330 : zFg "ArcheryField" 39 11 5 := ⟨RX11, TX11, 6, rfl, by decide, inzX11, Or.inl kw_407⟩
theorem kp_331 (nm : String) : zFp "ArcheryField" nm 34 11 4 .int := ⟨RX11, TX11, 6, tyX11, rfl, by decide, inzX11, tyX11_ok, nmX11, by decide +kernel, Or.inl ⟨rfl, kw_402⟩⟩
theorem km_X9_init_ : zMc jX9_init_ 1 := ⟨⟨kw_415, kw_99, kw_414⟩, rfl, rfl, ⟨by decide +kernel, by decide +kernel, by decide +kernel⟩⟩
theorem kt_333 : zFits jX11_change jX9_init_ := ⟨by decide, by decide⟩
theorem kp_334 (nm : String) : zFp "ArcheryField" nm 39 11 5 (.object "ArcheryField$State") := ⟨RX11, TX11, 6, tyX11, rfl, by decide, inzX11, tyX11_ok, nmX11, by decide +kernel, Or.inl ⟨rfl, kw_407⟩⟩
theorem km_X5_read : zMv jX5_read 0 := ⟨⟨kw_418, kw_419, kw_214, kw_417⟩, ⟨by decide +kernel, by decide +kernel, by decide +kernel⟩⟩
theorem kt_336 : zFits jX11_round jX5_read := ⟨by decide, by decide⟩
theorem km_X11_change : zMv jX11_change 0 := ⟨⟨kw_422, kw_423, kw_144, kw_421⟩, ⟨by decide +kernel, by decide +kernel, by decide +kernel⟩⟩
theorem kt_338 : zFits jX11_round jX11_change := ⟨by decide, by decide⟩
theorem kp_339 (nm : String) : zFp "ArcheryField" nm 60 9 0 (.object "ArcheryField$Round") := ⟨RX9, TX9, 5, tyX9, rfl, by decide, inzX9, tyX9_ok, nmX9, by decide +kernel, Or.inr (Or.inl ⟨rfl, _, kw_424⟩)⟩
theorem km_X9_forgetShots : zMv jX9_forgetShots 0 := ⟨⟨kw_427, kw_428, kw_99, kw_426⟩, ⟨by decide +kernel, by decide +kernel, by decide +kernel⟩⟩
theorem kt_341 : zFits jX11_round jX9_forgetShots := ⟨by decide, by decide⟩
theorem kt_342 : zFits jX11_round jX6_countEnds := ⟨by decide, by decide⟩
theorem kg_343 : zFg "ArcheryField" 73 5 5 := ⟨RX5, TX5, 7, rfl, by decide, inzX5, Or.inr ⟨_, kw_430⟩⟩
theorem kg_344 : zFg "ArcheryField" 76 5 6 := ⟨RX5, TX5, 7, rfl, by decide, inzX5, Or.inr ⟨_, kw_431⟩⟩
theorem kg_345 : zFg "ArcheryField" 60 9 0 := ⟨RX9, TX9, 5, rfl, by decide, inzX9, Or.inr ⟨_, kw_424⟩⟩
theorem km_X6_tell : zMv jX6_tell 1 := ⟨⟨kw_434, kw_435, kw_154, kw_433⟩, ⟨by decide +kernel, by decide +kernel, by decide +kernel⟩⟩
theorem kt_347 : zFits jX11_of jX6_tell := ⟨by decide, by decide⟩
theorem km_X9_freeNumber : zMv jX9_freeNumber 0 := ⟨⟨kw_438, kw_439, kw_99, kw_437⟩, ⟨by decide +kernel, by decide +kernel, by decide +kernel⟩⟩
theorem kt_349 : zFits jX11_archer jX9_freeNumber := ⟨by decide, by decide⟩
theorem kt_350 : zFits jX11_archer jX11_change := ⟨by decide, by decide⟩
theorem kn_351 : zFn "ArcheryField" 86 0 [zi 0, zr none, zr none] := ⟨RX0, TX0, 3, tyX0, rfl, inzX0, tyX0_ok, kw_440, kw_7, kw_8, rfl, fun g j hj => by rcases (show j = 0 ∨ j = 1 ∨ j = 2 by omega) with rfl | rfl | rfl <;> rfl⟩
theorem kn_352 : zFn "ArcheryField" 88 8 [zr none, zr none, zr none] := ⟨RX8, TX8, 3, tyX8, rfl, inzX8, tyX8_ok, kw_441, kw_353, kw_314, rfl, fun g j hj => by rcases (show j = 0 ∨ j = 1 ∨ j = 2 by omega) with rfl | rfl | rfl <;> rfl⟩
theorem kt_353 : zFits jX11_archer jX8_init := ⟨by decide, by decide⟩
theorem kn_354 : zFn "ArcheryField" 91 7 [zr none] := ⟨RX7, TX7, 1, tyX7, rfl, inzX7, tyX7_ok, kw_443, kw_344, kw_49, rfl, fun g j hj => by rcases (show j = 0 by omega) with rfl <;> rfl⟩
theorem km_X7_init : zMc jX7_init 0 := ⟨⟨kw_446, kw_49, kw_445⟩, rfl, rfl, ⟨by decide +kernel, by decide +kernel, by decide +kernel⟩⟩
theorem kt_356 : zFits jX11_archer jX7_init := ⟨by decide, by decide⟩
theorem kt_357 : zFits jX11_archer jX0_init := ⟨by decide, by decide⟩
theorem km_X9_put : zMv jX9_put 2 := ⟨⟨kw_450, kw_451, kw_99, kw_449⟩, ⟨by decide +kernel, by decide +kernel, by decide +kernel⟩⟩
theorem kt_359 : zFits jX11_archer jX9_put := ⟨by decide, by decide⟩
theorem kt_360 : zFits jX11_leave jX9_find := ⟨by decide, by decide⟩
theorem kt_361 : zFits jX11_leave jX11_change := ⟨by decide, by decide⟩
theorem kt_362 : zFits jX11_leave jX9_put := ⟨by decide, by decide⟩
theorem kg_363 : zFg "ArcheryField" 105 9 3 := ⟨RX9, TX9, 5, rfl, by decide, inzX9, Or.inr ⟨_, kw_453⟩⟩
theorem km_X2_without : zMv jX2_without 1 := ⟨⟨kw_456, kw_457, kw_65, kw_455⟩, ⟨by decide +kernel, by decide +kernel, by decide +kernel⟩⟩
theorem kt_365 : zFits jX11_leave jX2_without := ⟨by decide, by decide⟩
theorem kp_366 (nm : String) : zFp "ArcheryField" nm 105 9 3 (.object "ArcheryField$Line") := ⟨RX9, TX9, 5, tyX9, rfl, by decide, inzX9, tyX9_ok, nmX9, by decide +kernel, Or.inr (Or.inl ⟨rfl, _, kw_453⟩)⟩
theorem kt_367 : zFits jX11_told jX9_find := ⟨by decide, by decide⟩
theorem kg_368 : zFg "ArcheryField" 115 0 0 := ⟨RX0, TX0, 3, rfl, by decide, inzX0, Or.inr ⟨_, kw_458⟩⟩
theorem kg_369 : zFg "ArcheryField" 118 0 1 := ⟨RX0, TX0, 3, rfl, by decide, inzX0, Or.inr ⟨_, kw_459⟩⟩
theorem km_X8_countEnds : zMv jX8_countEnds 0 := ⟨⟨kw_462, kw_463, kw_314, kw_461⟩, ⟨by decide +kernel, by decide +kernel, by decide +kernel⟩⟩
theorem kt_371 : zFits jX11_told jX8_countEnds := ⟨by decide, by decide⟩
theorem kt_372 : zFits jX11_told jX8_total := ⟨by decide, by decide⟩
theorem kt_373 : zFits jX11_told jX8_lastSum := ⟨by decide, by decide⟩
theorem km_X8_countOffs : zMv jX8_countOffs 0 := ⟨⟨kw_468, kw_469, kw_314, kw_467⟩, ⟨by decide +kernel, by decide +kernel, by decide +kernel⟩⟩
theorem kt_375 : zFits jX11_told jX8_countOffs := ⟨by decide, by decide⟩
theorem kg_376 : zFg "ArcheryField" 132 0 2 := ⟨RX0, TX0, 3, rfl, by decide, inzX0, Or.inr ⟨_, kw_470⟩⟩
theorem kt_377 : zFits jX11_told jX7_count := ⟨by decide, by decide⟩
theorem kt_378 : zFits jX11_told jX2_placeOf := ⟨by decide, by decide⟩
theorem kg_379 : zFg "ArcheryField" 24 11 2 := ⟨RX11, TX11, 6, rfl, by decide, inzX11, Or.inl kw_399⟩
theorem km_X4_add : zMv jX4_add 3 := ⟨⟨kw_475, kw_476, kw_148, kw_474⟩, ⟨by decide +kernel, by decide +kernel, by decide +kernel⟩⟩
theorem kt_381 : zFits jX11_arrow jX4_add := ⟨by decide, by decide⟩
theorem kg_382 : zFg "ArcheryField" 146 4 3 := ⟨RX4, TX4, 5, rfl, by decide, inzX4, Or.inr ⟨_, kw_477⟩⟩
theorem km_X4_empty : zMv jX4_empty 0 := ⟨⟨kw_480, kw_481, kw_148, kw_479⟩, ⟨by decide +kernel, by decide +kernel, by decide +kernel⟩⟩
theorem kt_384 : zFits jX11_shoot jX4_empty := ⟨by decide, by decide⟩
theorem kt_385 : zFits jX11_shoot jX9_find := ⟨by decide, by decide⟩
theorem kt_386 : zFits jX11_shoot jX8_countEnds := ⟨by decide, by decide⟩
theorem km_X6_legOf : zMv jX6_legOf 1 := ⟨⟨kw_484, kw_485, kw_154, kw_483⟩, ⟨by decide +kernel, by decide +kernel, by decide +kernel⟩⟩
theorem kt_388 : zFits jX11_shoot jX6_legOf := ⟨by decide, by decide⟩
theorem km_X6_arrowsOf : zMv jX6_arrowsOf 1 := ⟨⟨kw_488, kw_489, kw_154, kw_487⟩, ⟨by decide +kernel, by decide +kernel, by decide +kernel⟩⟩
theorem kt_390 : zFits jX11_shoot jX6_arrowsOf := ⟨by decide, by decide⟩
theorem km_X4_judge : zMv jX4_judge 3 := ⟨⟨kw_492, kw_493, kw_148, kw_491⟩, ⟨by decide +kernel, by decide +kernel, by decide +kernel⟩⟩
theorem kt_392 : zFits jX11_shoot jX4_judge := ⟨by decide, by decide⟩
theorem kt_393 : zFits jX11_shoot jX11_change := ⟨by decide, by decide⟩
theorem kg_394 : zFg "ArcheryField" 161 4 4 := ⟨RX4, TX4, 5, rfl, by decide, inzX4, Or.inr ⟨_, kw_494⟩⟩
theorem km_X8_withEnd : zMv jX8_withEnd 3 := ⟨⟨kw_497, kw_498, kw_314, kw_496⟩, ⟨by decide +kernel, by decide +kernel, by decide +kernel⟩⟩
theorem kt_396 : zFits jX11_shoot jX8_withEnd := ⟨by decide, by decide⟩
theorem kt_397 : zFits jX11_shoot jX0_with := ⟨by decide, by decide⟩
theorem kt_398 : zFits jX11_shoot jX9_put := ⟨by decide, by decide⟩
theorem kt_399 : zFits jX11_value jX9_find := ⟨by decide, by decide⟩
theorem km_X8_counted : zMv jX8_counted 1 := ⟨⟨kw_502, kw_503, kw_314, kw_501⟩, ⟨by decide +kernel, by decide +kernel, by decide +kernel⟩⟩
theorem kt_401 : zFits jX11_value jX8_counted := ⟨by decide, by decide⟩
theorem kt_402 : zFits jX11_take jX9_find := ⟨by decide, by decide⟩
theorem kt_403 : zFits jX11_take jX8_countEnds := ⟨by decide, by decide⟩
theorem kt_404 : zFits jX11_take jX6_legOf := ⟨by decide, by decide⟩
theorem kt_405 : zFits jX11_take jX6_arrowsOf := ⟨by decide, by decide⟩
theorem kt_406 : zFits jX11_take jX11_change := ⟨by decide, by decide⟩
theorem km_X8_withoutLast : zMv jX8_withoutLast 1 := ⟨⟨kw_506, kw_507, kw_314, kw_505⟩, ⟨by decide +kernel, by decide +kernel, by decide +kernel⟩⟩
theorem kt_408 : zFits jX11_take jX8_withoutLast := ⟨by decide, by decide⟩
theorem kt_409 : zFits jX11_take jX0_with := ⟨by decide, by decide⟩
theorem kt_410 : zFits jX11_take jX9_put := ⟨by decide, by decide⟩
theorem kt_411 : zFits jX11_off jX11_change := ⟨by decide, by decide⟩
theorem km_X8_withOff : zMv jX8_withOff 1 := ⟨⟨kw_510, kw_511, kw_314, kw_509⟩, ⟨by decide +kernel, by decide +kernel, by decide +kernel⟩⟩
theorem kt_413 : zFits jX11_off jX8_withOff := ⟨by decide, by decide⟩
theorem kt_414 : zFits jX11_off jX0_with := ⟨by decide, by decide⟩
theorem kt_415 : zFits jX11_off jX9_put := ⟨by decide, by decide⟩
theorem kt_416 : zFits jX11_off jX8_countOffs := ⟨by decide, by decide⟩
theorem kt_417 : zFits jX11_off jX9_find := ⟨by decide, by decide⟩
theorem kt_418 : zFits jX11_off jX8_countEnds := ⟨by decide, by decide⟩
theorem kt_419 : zFits jX11_off jX6_countEnds := ⟨by decide, by decide⟩
theorem kt_420 : zFits jX11_off jX11_isOnField := ⟨by decide, by decide⟩
theorem kt_421 : zFits jX11_ahead jX9_find := ⟨by decide, by decide⟩
theorem km_X6_compare : zMv jX6_compare 2 := ⟨⟨kw_516, kw_517, kw_154, kw_515⟩, ⟨by decide +kernel, by decide +kernel, by decide +kernel⟩⟩
theorem kt_423 : zFits jX11_ahead jX6_compare := ⟨by decide, by decide⟩
theorem kt_424 : zFits jX11_rank jX9_find := ⟨by decide, by decide⟩
theorem kt_425 : zFits jX11_rank jX6_compare := ⟨by decide, by decide⟩
theorem km_X11_isDay : zMs jX11_isDay 1 := ⟨⟨kw_521, kw_144, kw_520⟩, ⟨by decide +kernel, by decide +kernel, by decide +kernel⟩⟩
theorem kt_427 : zFits jX11_today jX11_isDay := ⟨by decide, by decide⟩
theorem kg_428 : zFg "ArcheryField" 196 9 4 := ⟨RX9, TX9, 5, rfl, by decide, inzX9, Or.inr ⟨_, kw_522⟩⟩
theorem kt_429 : zFits jX11_today jX11_change := ⟨by decide, by decide⟩
theorem kp_430 (nm : String) : zFp "ArcheryField" nm 196 9 4 .int := ⟨RX9, TX9, 5, tyX9, rfl, by decide, inzX9, tyX9_ok, nmX9, by decide +kernel, Or.inr (Or.inl ⟨rfl, _, kw_522⟩)⟩
theorem kt_431 : zFits jX11_score jX9_find := ⟨by decide, by decide⟩
theorem kt_432 : zFits jX11_score jX11_isDay := ⟨by decide, by decide⟩
theorem km_X11_isScore : zMs jX11_isScore 1 := ⟨⟨kw_525, kw_144, kw_524⟩, ⟨by decide +kernel, by decide +kernel, by decide +kernel⟩⟩
theorem kt_434 : zFits jX11_score jX11_isScore := ⟨by decide, by decide⟩
theorem kt_435 : zFits jX11_score jX7_count := ⟨by decide, by decide⟩
theorem kt_436 : zFits jX11_score jX11_change := ⟨by decide, by decide⟩
theorem km_X7_with : zMv jX7_with 3 := ⟨⟨kw_528, kw_529, kw_49, kw_527⟩, ⟨by decide +kernel, by decide +kernel, by decide +kernel⟩⟩
theorem kt_438 : zFits jX11_score jX7_with := ⟨by decide, by decide⟩
theorem km_X0_with_ : zMv jX0_with_ 1 := ⟨⟨kw_532, kw_533, kw_8, kw_531⟩, ⟨by decide +kernel, by decide +kernel, by decide +kernel⟩⟩
theorem kt_440 : zFits jX11_score jX0_with_ := ⟨by decide, by decide⟩
theorem kt_441 : zFits jX11_score jX9_put := ⟨by decide, by decide⟩
theorem kt_442 : zFits jX11_strike jX9_find := ⟨by decide, by decide⟩
theorem km_X7_canStrike : zMv jX7_canStrike 1 := ⟨⟨kw_536, kw_537, kw_49, kw_535⟩, ⟨by decide +kernel, by decide +kernel, by decide +kernel⟩⟩
theorem kt_444 : zFits jX11_strike jX7_canStrike := ⟨by decide, by decide⟩
theorem kt_445 : zFits jX11_strike jX11_change := ⟨by decide, by decide⟩
theorem km_X7_withStruck : zMv jX7_withStruck 2 := ⟨⟨kw_540, kw_541, kw_49, kw_539⟩, ⟨by decide +kernel, by decide +kernel, by decide +kernel⟩⟩
theorem kt_447 : zFits jX11_strike jX7_withStruck := ⟨by decide, by decide⟩
theorem kt_448 : zFits jX11_strike jX0_with_ := ⟨by decide, by decide⟩
theorem kt_449 : zFits jX11_strike jX9_put := ⟨by decide, by decide⟩
theorem kg_450 : zFg "ArcheryField" 215 9 2 := ⟨RX9, TX9, 5, rfl, by decide, inzX9, Or.inr ⟨_, kw_542⟩⟩
theorem km_X1_canAdd : zMv jX1_canAdd 2 := ⟨⟨kw_545, kw_546, kw_18, kw_544⟩, ⟨by decide +kernel, by decide +kernel, by decide +kernel⟩⟩
theorem kt_452 : zFits jX11_law jX1_canAdd := ⟨by decide, by decide⟩
theorem kt_453 : zFits jX11_law jX11_isScore := ⟨by decide, by decide⟩
theorem kt_454 : zFits jX11_law jX11_change := ⟨by decide, by decide⟩
theorem km_X1_with : zMv jX1_with 3 := ⟨⟨kw_549, kw_550, kw_18, kw_548⟩, ⟨by decide +kernel, by decide +kernel, by decide +kernel⟩⟩
theorem kt_456 : zFits jX11_law jX1_with := ⟨by decide, by decide⟩
theorem kp_457 (nm : String) : zFp "ArcheryField" nm 215 9 2 (.object "ArcheryField$Laws") := ⟨RX9, TX9, 5, tyX9, rfl, by decide, inzX9, tyX9_ok, nmX9, by decide +kernel, Or.inr (Or.inl ⟨rfl, _, kw_542⟩)⟩
theorem kt_458 : zFits jX11_law jX1_count := ⟨by decide, by decide⟩
theorem kt_459 : zFits jX11_kind jX9_find := ⟨by decide, by decide⟩
theorem kt_460 : zFits jX11_kind jX11_isDay := ⟨by decide, by decide⟩
theorem km_X1_classOf : zMv jX1_classOf 3 := ⟨⟨kw_554, kw_555, kw_18, kw_553⟩, ⟨by decide +kernel, by decide +kernel, by decide +kernel⟩⟩
theorem kt_462 : zFits jX11_kind jX1_classOf := ⟨by decide, by decide⟩
theorem kt_463 : zFits jX11_bay jX2_canAdd := ⟨by decide, by decide⟩
theorem kt_464 : zFits jX11_bay jX11_change := ⟨by decide, by decide⟩
theorem km_X2_withBay : zMv jX2_withBay 1 := ⟨⟨kw_559, kw_560, kw_65, kw_558⟩, ⟨by decide +kernel, by decide +kernel, by decide +kernel⟩⟩
theorem kt_466 : zFits jX11_bay jX2_withBay := ⟨by decide, by decide⟩
theorem kt_467 : zFits jX11_bay jX2_countLanes := ⟨by decide, by decide⟩
theorem km_X2_countPlaces : zMv jX2_countPlaces 0 := ⟨⟨kw_564, kw_565, kw_65, kw_563⟩, ⟨by decide +kernel, by decide +kernel, by decide +kernel⟩⟩
theorem kt_469 : zFits jX11_layout jX2_countPlaces := ⟨by decide, by decide⟩
theorem kn_470 : zFn "ArcheryField" 243 3 [zr none, zr none, zr none, zi 0, zr none, zr none, zi 0] := ⟨RX3, TX3, 7, tyX3, rfl, inzX3, tyX3_ok, kw_566, kw_567, kw_117, rfl, fun g j hj => by rcases (show j = 0 ∨ j = 1 ∨ j = 2 ∨ j = 3 ∨ j = 4 ∨ j = 5 ∨ j = 6 by omega) with rfl | rfl | rfl | rfl | rfl | rfl | rfl <;> rfl⟩
theorem km_X3_init : zMc jX3_init 2 := ⟨⟨kw_570, kw_117, kw_569⟩, rfl, rfl, ⟨by decide +kernel, by decide +kernel, by decide +kernel⟩⟩
theorem kt_472 : zFits jX11_layout jX3_init := ⟨by decide, by decide⟩
theorem km_X3_search : zMv jX3_search 0 := ⟨⟨kw_573, kw_574, kw_117, kw_572⟩, ⟨by decide +kernel, by decide +kernel, by decide +kernel⟩⟩
theorem kt_474 : zFits jX11_layout jX3_search := ⟨by decide, by decide⟩
theorem kt_475 : zFits jX11_layout jX11_change := ⟨by decide, by decide⟩
theorem kg_476 : zFg "ArcheryField" 251 3 4 := ⟨RX3, TX3, 7, rfl, by decide, inzX3, Or.inr ⟨_, kw_575⟩⟩
theorem km_X2_withSeats : zMv jX2_withSeats 1 := ⟨⟨kw_578, kw_579, kw_65, kw_577⟩, ⟨by decide +kernel, by decide +kernel, by decide +kernel⟩⟩
theorem kt_478 : zFits jX11_layout jX2_withSeats := ⟨by decide, by decide⟩
theorem km_X2_seatedOn : zMv jX2_seatedOn 1 := ⟨⟨kw_582, kw_583, kw_65, kw_581⟩, ⟨by decide +kernel, by decide +kernel, by decide +kernel⟩⟩
theorem kt_480 : zFits jX11_on jX2_seatedOn := ⟨by decide, by decide⟩
theorem km_X2_mayBecome : zMv jX2_mayBecome 2 := ⟨⟨kw_586, kw_587, kw_65, kw_585⟩, ⟨by decide +kernel, by decide +kernel, by decide +kernel⟩⟩
theorem kt_482 : zFits jX11_lane jX2_mayBecome := ⟨by decide, by decide⟩
theorem kt_483 : zFits jX11_lane jX2_stateOf := ⟨by decide, by decide⟩
theorem kt_484 : zFits jX11_lane jX11_change := ⟨by decide, by decide⟩
theorem km_X2_withState : zMv jX2_withState 2 := ⟨⟨kw_591, kw_592, kw_65, kw_590⟩, ⟨by decide +kernel, by decide +kernel, by decide +kernel⟩⟩
theorem kt_486 : zFits jX11_lane jX2_withState := ⟨by decide, by decide⟩
theorem kt_487 : zFits jX11_state jX2_stateOf := ⟨by decide, by decide⟩
theorem kg_488 : zFg "ArcheryFieldModel" 8 12 0 := ⟨RX12, TX12, 31, rfl, by decide, inzX12, Or.inl kw_593⟩
theorem kp_489 : zFp "ArcheryFieldModel" "<init>" 8 12 0 (.array .int) := ⟨RX12, TX12, 31, tyX12, rfl, by decide, inzX12, tyX12_ok, nmX12, by decide +kernel, Or.inr (Or.inr ⟨rfl, rfl, rfl, kw_593⟩)⟩
theorem kp_490 : zFp "ArcheryFieldModel" "<init>" 14 12 2 (.array .int) := ⟨RX12, TX12, 31, tyX12, rfl, by decide, inzX12, tyX12_ok, nmX12, by decide +kernel, Or.inr (Or.inr ⟨rfl, rfl, rfl, kw_596⟩)⟩
theorem kp_491 (nm : String) : zFp "ArcheryFieldModel" nm 17 12 12 .int := ⟨RX12, TX12, 31, tyX12, rfl, by decide, inzX12, tyX12_ok, nmX12, by decide +kernel, Or.inl ⟨rfl, kw_597⟩⟩
theorem kp_492 : zFp "ArcheryFieldModel" "<init>" 21 12 13 (.array .char) := ⟨RX12, TX12, 31, tyX12, rfl, by decide, inzX12, tyX12_ok, nmX12, by decide +kernel, Or.inr (Or.inr ⟨rfl, rfl, rfl, kw_599⟩)⟩
theorem kp_493 : zFp "ArcheryFieldModel" "<init>" 25 12 14 (.array .char) := ⟨RX12, TX12, 31, tyX12, rfl, by decide, inzX12, tyX12_ok, nmX12, by decide +kernel, Or.inr (Or.inr ⟨rfl, rfl, rfl, kw_600⟩)⟩
theorem kp_494 : zFp "ArcheryFieldModel" "<init>" 28 12 15 (.array .char) := ⟨RX12, TX12, 31, tyX12, rfl, by decide, inzX12, tyX12_ok, nmX12, by decide +kernel, Or.inr (Or.inr ⟨rfl, rfl, rfl, kw_601⟩)⟩
theorem kp_495 : zFp "ArcheryFieldModel" "<init>" 31 12 16 (.array .char) := ⟨RX12, TX12, 31, tyX12, rfl, by decide, inzX12, tyX12_ok, nmX12, by decide +kernel, Or.inr (Or.inr ⟨rfl, rfl, rfl, kw_602⟩)⟩
theorem kp_496 : zFp "ArcheryFieldModel" "<init>" 34 12 17 (.array .char) := ⟨RX12, TX12, 31, tyX12, rfl, by decide, inzX12, tyX12_ok, nmX12, by decide +kernel, Or.inr (Or.inr ⟨rfl, rfl, rfl, kw_603⟩)⟩
theorem kp_497 : zFp "ArcheryFieldModel" "<init>" 37 12 18 (.array .char) := ⟨RX12, TX12, 31, tyX12, rfl, by decide, inzX12, tyX12_ok, nmX12, by decide +kernel, Or.inr (Or.inr ⟨rfl, rfl, rfl, kw_604⟩)⟩
theorem kp_498 : zFp "ArcheryFieldModel" "<init>" 40 12 19 (.array .char) := ⟨RX12, TX12, 31, tyX12, rfl, by decide, inzX12, tyX12_ok, nmX12, by decide +kernel, Or.inr (Or.inr ⟨rfl, rfl, rfl, kw_605⟩)⟩
theorem kp_499 : zFp "ArcheryFieldModel" "<init>" 43 12 20 (.array .char) := ⟨RX12, TX12, 31, tyX12, rfl, by decide, inzX12, tyX12_ok, nmX12, by decide +kernel, Or.inr (Or.inr ⟨rfl, rfl, rfl, kw_606⟩)⟩
theorem kp_500 : zFp "ArcheryFieldModel" "<init>" 46 12 21 (.array .int) := ⟨RX12, TX12, 31, tyX12, rfl, by decide, inzX12, tyX12_ok, nmX12, by decide +kernel, Or.inr (Or.inr ⟨rfl, rfl, rfl, kw_607⟩)⟩
theorem kp_501 : zFp "ArcheryFieldModel" "<init>" 49 12 22 (.array .boolean) := ⟨RX12, TX12, 31, tyX12, rfl, by decide, inzX12, tyX12_ok, nmX12, by decide +kernel, Or.inr (Or.inr ⟨rfl, rfl, rfl, kw_609⟩)⟩
theorem kp_502 : zFp "ArcheryFieldModel" "<init>" 53 12 24 (.array .int) := ⟨RX12, TX12, 31, tyX12, rfl, by decide, inzX12, tyX12_ok, nmX12, by decide +kernel, Or.inr (Or.inr ⟨rfl, rfl, rfl, kw_610⟩)⟩
theorem kp_503 : zFp "ArcheryFieldModel" "<init>" 56 12 25 (.array .int) := ⟨RX12, TX12, 31, tyX12, rfl, by decide, inzX12, tyX12_ok, nmX12, by decide +kernel, Or.inr (Or.inr ⟨rfl, rfl, rfl, kw_611⟩)⟩
theorem kp_504 : zFp "ArcheryFieldModel" "<init>" 59 12 26 (.array .int) := ⟨RX12, TX12, 31, tyX12, rfl, by decide, inzX12, tyX12_ok, nmX12, by decide +kernel, Or.inr (Or.inr ⟨rfl, rfl, rfl, kw_612⟩)⟩
theorem kp_505 : zFp "ArcheryFieldModel" "<init>" 62 12 27 (.array .int) := ⟨RX12, TX12, 31, tyX12, rfl, by decide, inzX12, tyX12_ok, nmX12, by decide +kernel, Or.inr (Or.inr ⟨rfl, rfl, rfl, kw_613⟩)⟩
theorem kp_506 : zFp "ArcheryFieldModel" "<init>" 65 12 29 (.array .int) := ⟨RX12, TX12, 31, tyX12, rfl, by decide, inzX12, tyX12_ok, nmX12, by decide +kernel, Or.inr (Or.inr ⟨rfl, rfl, rfl, kw_614⟩)⟩
theorem kp_507 : zFp "ArcheryFieldModel" "<init>" 68 12 30 (.array .int) := ⟨RX12, TX12, 31, tyX12, rfl, by decide, inzX12, tyX12_ok, nmX12, by decide +kernel, Or.inr (Or.inr ⟨rfl, rfl, rfl, kw_615⟩)⟩
theorem kg_508 : zFg "ArcheryFieldModel" 71 12 1 := ⟨RX12, TX12, 31, rfl, by decide, inzX12, Or.inl kw_616⟩
theorem kp_509 (nm : String) : zFp "ArcheryFieldModel" nm 71 12 1 .int := ⟨RX12, TX12, 31, tyX12, rfl, by decide, inzX12, tyX12_ok, nmX12, by decide +kernel, Or.inl ⟨rfl, kw_616⟩⟩
theorem kg_510 : zFg "ArcheryFieldModel" 14 12 2 := ⟨RX12, TX12, 31, rfl, by decide, inzX12, Or.inl kw_596⟩
theorem kg_511 : zFg "ArcheryFieldModel" 74 12 3 := ⟨RX12, TX12, 31, rfl, by decide, inzX12, Or.inl kw_617⟩
theorem kp_512 (nm : String) : zFp "ArcheryFieldModel" nm 74 12 3 .int := ⟨RX12, TX12, 31, tyX12, rfl, by decide, inzX12, tyX12_ok, nmX12, by decide +kernel, Or.inl ⟨rfl, kw_617⟩⟩
theorem kg_513 : zFg "ArcheryFieldModel" 77 12 9 := ⟨RX12, TX12, 31, rfl, by decide, inzX12, Or.inl kw_618⟩
theorem kp_514 (nm : String) : zFp "ArcheryFieldModel" nm 77 12 9 .int := ⟨RX12, TX12, 31, tyX12, rfl, by decide, inzX12, tyX12_ok, nmX12, by decide +kernel, Or.inl ⟨rfl, kw_618⟩⟩
theorem kp_515 (nm : String) : zFp "ArcheryFieldModel" nm 80 12 10 .int := ⟨RX12, TX12, 31, tyX12, rfl, by decide, inzX12, tyX12_ok, nmX12, by decide +kernel, Or.inl ⟨rfl, kw_619⟩⟩
theorem kg_516 : zFg "ArcheryFieldModel" 83 12 4 := ⟨RX12, TX12, 31, rfl, by decide, inzX12, Or.inl kw_620⟩
theorem kp_517 (nm : String) : zFp "ArcheryFieldModel" nm 83 12 4 .int := ⟨RX12, TX12, 31, tyX12, rfl, by decide, inzX12, tyX12_ok, nmX12, by decide +kernel, Or.inl ⟨rfl, kw_620⟩⟩
theorem kg_518 : zFg "ArcheryFieldModel" 86 12 5 := ⟨RX12, TX12, 31, rfl, by decide, inzX12, Or.inl kw_621⟩
theorem km_X12_isLetter : zMs jX12_isLetter 1 := ⟨⟨kw_624, kw_625, kw_623⟩, ⟨by decide +kernel, by decide +kernel, by decide +kernel⟩⟩
theorem kt_520 : zFits jX12_next jX12_isLetter := ⟨by decide, by decide⟩
theorem km_X12_isDigit : zMs jX12_isDigit 1 := ⟨⟨kw_628, kw_625, kw_627⟩, ⟨by decide +kernel, by decide +kernel, by decide +kernel⟩⟩
theorem kt_522 : zFits jX12_next jX12_isDigit := ⟨by decide, by decide⟩
theorem kg_523 : zFg "ArcheryFieldModel" 89 12 7 := ⟨RX12, TX12, 31, rfl, by decide, inzX12, Or.inl kw_629⟩
theorem kg_524 : zFg "ArcheryFieldModel" 102 12 8 := ⟨RX12, TX12, 31, rfl, by decide, inzX12, Or.inl kw_630⟩
theorem kp_525 (nm : String) : zFp "ArcheryFieldModel" nm 102 12 8 .int := ⟨RX12, TX12, 31, tyX12, rfl, by decide, inzX12, tyX12_ok, nmX12, by decide +kernel, Or.inl ⟨rfl, kw_630⟩⟩
theorem kp_526 (nm : String) : zFp "ArcheryFieldModel" nm 99 12 6 .int := ⟨RX12, TX12, 31, tyX12, rfl, by decide, inzX12, tyX12_ok, nmX12, by decide +kernel, Or.inl ⟨rfl, kw_631⟩⟩
theorem kg_527 : zFg "ArcheryFieldModel" 99 12 6 := ⟨RX12, TX12, 31, rfl, by decide, inzX12, Or.inl kw_631⟩
theorem kp_528 (nm : String) : zFp "ArcheryFieldModel" nm 89 12 7 .int := ⟨RX12, TX12, 31, tyX12, rfl, by decide, inzX12, tyX12_ok, nmX12, by decide +kernel, Or.inl ⟨rfl, kw_629⟩⟩
theorem km_X12_fail : zMv jX12_fail 2 := ⟨⟨kw_634, kw_635, kw_625, kw_633⟩, ⟨by decide +kernel, by decide +kernel, by decide +kernel⟩⟩
theorem kt_530 : zFits jX12_numberOf jX12_fail := ⟨by decide, by decide⟩
theorem km_X12_next : zMv jX12_next 0 := ⟨⟨kw_638, kw_639, kw_625, kw_637⟩, ⟨by decide +kernel, by decide +kernel, by decide +kernel⟩⟩
theorem kt_532 : zFits jX12_numberOf jX12_next := ⟨by decide, by decide⟩
theorem kt_533 : zFits jX12_sign jX12_next := ⟨by decide, by decide⟩
theorem kt_534 : zFits jX12_sign jX12_fail := ⟨by decide, by decide⟩
theorem kg_535 : zFg "ArcheryFieldModel" 46 12 21 := ⟨RX12, TX12, 31, rfl, by decide, inzX12, Or.inl kw_607⟩
theorem kt_536 : zFits jX12_face jX12_next := ⟨by decide, by decide⟩
theorem km_X12_numberOf : zMv jX12_numberOf 2 := ⟨⟨kw_642, kw_643, kw_625, kw_641⟩, ⟨by decide +kernel, by decide +kernel, by decide +kernel⟩⟩
theorem kt_538 : zFits jX12_face jX12_numberOf := ⟨by decide, by decide⟩
theorem km_X12_sign : zMv jX12_sign 1 := ⟨⟨kw_646, kw_647, kw_625, kw_645⟩, ⟨by decide +kernel, by decide +kernel, by decide +kernel⟩⟩
theorem kt_540 : zFits jX12_face jX12_sign := ⟨by decide, by decide⟩
theorem kt_541 : zFits jX12_face jX12_fail := ⟨by decide, by decide⟩
theorem kt_542 : zFits jX12_leg jX12_sign := ⟨by decide, by decide⟩
theorem kt_543 : zFits jX12_leg jX12_fail := ⟨by decide, by decide⟩
theorem kt_544 : zFits jX12_leg jX12_numberOf := ⟨by decide, by decide⟩
theorem kt_545 : zFits jX12_tie jX12_sign := ⟨by decide, by decide⟩
theorem kt_546 : zFits jX12_tie jX12_numberOf := ⟨by decide, by decide⟩
theorem kt_547 : zFits jX12_tie jX12_fail := ⟨by decide, by decide⟩
theorem kt_548 : zFits jX12_once jX12_sign := ⟨by decide, by decide⟩
theorem kg_549 : zFg "ArcheryFieldModel" 49 12 22 := ⟨RX12, TX12, 31, rfl, by decide, inzX12, Or.inl kw_609⟩
theorem kt_550 : zFits jX12_once jX12_numberOf := ⟨by decide, by decide⟩
theorem kt_551 : zFits jX12_once jX12_fail := ⟨by decide, by decide⟩
theorem kg_552 : zFg "ArcheryFieldModel" 21 12 13 := ⟨RX12, TX12, 31, rfl, by decide, inzX12, Or.inl kw_599⟩
theorem km_X12_isWord : zMv jX12_isWord 1 := ⟨⟨kw_651, kw_652, kw_625, kw_650⟩, ⟨by decide +kernel, by decide +kernel, by decide +kernel⟩⟩
theorem kt_554 : zFits jX12_statement jX12_isWord := ⟨by decide, by decide⟩
theorem kg_555 : zFg "ArcheryFieldModel" 25 12 14 := ⟨RX12, TX12, 31, rfl, by decide, inzX12, Or.inl kw_600⟩
theorem kg_556 : zFg "ArcheryFieldModel" 28 12 15 := ⟨RX12, TX12, 31, rfl, by decide, inzX12, Or.inl kw_601⟩
theorem kg_557 : zFg "ArcheryFieldModel" 31 12 16 := ⟨RX12, TX12, 31, rfl, by decide, inzX12, Or.inl kw_602⟩
theorem kg_558 : zFg "ArcheryFieldModel" 34 12 17 := ⟨RX12, TX12, 31, rfl, by decide, inzX12, Or.inl kw_603⟩
theorem kg_559 : zFg "ArcheryFieldModel" 37 12 18 := ⟨RX12, TX12, 31, rfl, by decide, inzX12, Or.inl kw_604⟩
theorem kg_560 : zFg "ArcheryFieldModel" 40 12 19 := ⟨RX12, TX12, 31, rfl, by decide, inzX12, Or.inl kw_605⟩
theorem kg_561 : zFg "ArcheryFieldModel" 43 12 20 := ⟨RX12, TX12, 31, rfl, by decide, inzX12, Or.inl kw_606⟩
theorem kt_562 : zFits jX12_statement jX12_fail := ⟨by decide, by decide⟩
theorem km_X12_once : zMv jX12_once 3 := ⟨⟨kw_655, kw_656, kw_625, kw_654⟩, ⟨by decide +kernel, by decide +kernel, by decide +kernel⟩⟩
theorem kt_564 : zFits jX12_statement jX12_once := ⟨by decide, by decide⟩
theorem km_X12_tie : zMv jX12_tie 1 := ⟨⟨kw_659, kw_660, kw_625, kw_658⟩, ⟨by decide +kernel, by decide +kernel, by decide +kernel⟩⟩
theorem kt_566 : zFits jX12_statement jX12_tie := ⟨by decide, by decide⟩
theorem km_X12_leg : zMv jX12_leg 0 := ⟨⟨kw_663, kw_664, kw_625, kw_662⟩, ⟨by decide +kernel, by decide +kernel, by decide +kernel⟩⟩
theorem kt_568 : zFits jX12_statement jX12_leg := ⟨by decide, by decide⟩
theorem km_X12_face : zMv jX12_face 0 := ⟨⟨kw_667, kw_668, kw_625, kw_666⟩, ⟨by decide +kernel, by decide +kernel, by decide +kernel⟩⟩
theorem kt_570 : zFits jX12_statement jX12_face := ⟨by decide, by decide⟩
theorem km_X12_of : zMv jX12_of 1 := ⟨⟨kw_671, kw_672, kw_625, kw_670⟩, ⟨by decide +kernel, by decide +kernel, by decide +kernel⟩⟩
theorem kt_572 : zFits jX12_round jX12_of := ⟨by decide, by decide⟩
theorem kp_573 (nm : String) : zFp "ArcheryFieldModel" nm 141 12 11 .int := ⟨RX12, TX12, 31, tyX12, rfl, by decide, inzX12, tyX12_ok, nmX12, by decide +kernel, Or.inl ⟨rfl, kw_673⟩⟩
theorem kg_574 : zFg "ArcheryFieldModel" 80 12 10 := ⟨RX12, TX12, 31, rfl, by decide, inzX12, Or.inl kw_619⟩
theorem kp_575 (nm : String) : zFp "ArcheryFieldModel" nm 17 12 12 .int := ⟨RX12, TX12, 31, tyX12, rfl, by decide, inzX12, tyX12_ok, nmX12, by decide +kernel, Or.inl ⟨rfl, kw_597⟩⟩
theorem km_X12_keeps : zMv jX12_keeps 0 := ⟨⟨kw_676, kw_677, kw_625, kw_675⟩, ⟨by decide +kernel, by decide +kernel, by decide +kernel⟩⟩
theorem kt_577 : zFits jX12_round jX12_keeps := ⟨by decide, by decide⟩
theorem kt_578 : zFits jX12_round jX12_fail := ⟨by decide, by decide⟩
theorem km_X12_statement : zMv jX12_statement 0 := ⟨⟨kw_680, kw_681, kw_625, kw_679⟩, ⟨by decide +kernel, by decide +kernel, by decide +kernel⟩⟩
theorem kt_580 : zFits jX12_round jX12_statement := ⟨by decide, by decide⟩
theorem kt_581 : zFits jX12_round jX12_next := ⟨by decide, by decide⟩
theorem kp_582 (nm : String) : zFp "ArcheryFieldModel" nm 86 12 5 .int := ⟨RX12, TX12, 31, tyX12, rfl, by decide, inzX12, tyX12_ok, nmX12, by decide +kernel, Or.inl ⟨rfl, kw_621⟩⟩
theorem kg_583 : zFg "ArcheryFieldModel" 17 12 12 := ⟨RX12, TX12, 31, rfl, by decide, inzX12, Or.inl kw_597⟩
theorem kg_584 : zFg "ArcheryFieldModel" 141 12 11 := ⟨RX12, TX12, 31, rfl, by decide, inzX12, Or.inl kw_673⟩
theorem kt_585 : zFits jX12_archer jX12_keeps := ⟨by decide, by decide⟩
theorem km_X12_isArcher : zMv jX12_isArcher 1 := ⟨⟨kw_684, kw_685, kw_625, kw_683⟩, ⟨by decide +kernel, by decide +kernel, by decide +kernel⟩⟩
theorem kt_587 : zFits jX12_leave jX12_isArcher := ⟨by decide, by decide⟩
theorem kt_588 : zFits jX12_leave jX12_keeps := ⟨by decide, by decide⟩
theorem km_X12_legOf : zMv jX12_legOf 1 := ⟨⟨kw_688, kw_689, kw_625, kw_687⟩, ⟨by decide +kernel, by decide +kernel, by decide +kernel⟩⟩
theorem kt_590 : zFits jX12_arrowsOf jX12_legOf := ⟨by decide, by decide⟩
theorem km_X12_arrowsOf : zMv jX12_arrowsOf 1 := ⟨⟨kw_692, kw_693, kw_625, kw_691⟩, ⟨by decide +kernel, by decide +kernel, by decide +kernel⟩⟩
theorem kt_592 : zFits jX12_lastEnd jX12_arrowsOf := ⟨by decide, by decide⟩
theorem km_X12_sum : zMv jX12_sum 3 := ⟨⟨kw_696, kw_697, kw_625, kw_695⟩, ⟨by decide +kernel, by decide +kernel, by decide +kernel⟩⟩
theorem kt_594 : zFits jX12_lastEnd jX12_sum := ⟨by decide, by decide⟩
theorem kt_595 : zFits jX12_total jX12_arrowsOf := ⟨by decide, by decide⟩
theorem kt_596 : zFits jX12_total jX12_sum := ⟨by decide, by decide⟩
theorem kt_597 : zFits jX12_told jX12_isArcher := ⟨by decide, by decide⟩
theorem km_X12_total : zMv jX12_total 1 := ⟨⟨kw_700, kw_701, kw_625, kw_699⟩, ⟨by decide +kernel, by decide +kernel, by decide +kernel⟩⟩
theorem kt_599 : zFits jX12_told jX12_total := ⟨by decide, by decide⟩
theorem km_X12_lastEnd : zMv jX12_lastEnd 1 := ⟨⟨kw_704, kw_705, kw_625, kw_703⟩, ⟨by decide +kernel, by decide +kernel, by decide +kernel⟩⟩
theorem kt_601 : zFits jX12_told jX12_lastEnd := ⟨by decide, by decide⟩
theorem kg_602 : zFg "ArcheryFieldModel" 53 12 24 := ⟨RX12, TX12, 31, rfl, by decide, inzX12, Or.inl kw_610⟩
theorem kg_603 : zFg "ArcheryFieldModel" 170 12 23 := ⟨RX12, TX12, 31, rfl, by decide, inzX12, Or.inl kw_706⟩
theorem kg_604 : zFg "ArcheryFieldModel" 56 12 25 := ⟨RX12, TX12, 31, rfl, by decide, inzX12, Or.inl kw_611⟩
theorem kg_605 : zFg "ArcheryFieldModel" 59 12 26 := ⟨RX12, TX12, 31, rfl, by decide, inzX12, Or.inl kw_612⟩
theorem kp_606 (nm : String) : zFp "ArcheryFieldModel" nm 170 12 23 .int := ⟨RX12, TX12, 31, tyX12, rfl, by decide, inzX12, tyX12_ok, nmX12, by decide +kernel, Or.inl ⟨rfl, kw_706⟩⟩
theorem km_X12_isFar : zMs jX12_isFar 1 := ⟨⟨kw_709, kw_625, kw_708⟩, ⟨by decide +kernel, by decide +kernel, by decide +kernel⟩⟩
theorem kt_608 : zFits jX12_arrow jX12_isFar := ⟨by decide, by decide⟩
theorem kg_609 : zFg "ArcheryFieldModel" 62 12 27 := ⟨RX12, TX12, 31, rfl, by decide, inzX12, Or.inl kw_613⟩
theorem km_X12_hit : zMv jX12_hit 3 := ⟨⟨kw_712, kw_713, kw_625, kw_711⟩, ⟨by decide +kernel, by decide +kernel, by decide +kernel⟩⟩
theorem kt_611 : zFits jX12_shoot jX12_hit := ⟨by decide, by decide⟩
theorem kt_612 : zFits jX12_shoot jX12_keeps := ⟨by decide, by decide⟩
theorem kt_613 : zFits jX12_shoot jX12_arrowsOf := ⟨by decide, by decide⟩
theorem kt_614 : zFits jX12_shoot jX12_isArcher := ⟨by decide, by decide⟩
theorem kt_615 : zFits jX12_shoot jX12_of := ⟨by decide, by decide⟩
theorem kt_616 : zFits jX12_shoot jX12_legOf := ⟨by decide, by decide⟩
theorem kt_617 : zFits jX12_value jX12_isArcher := ⟨by decide, by decide⟩
theorem kt_618 : zFits jX12_value jX12_arrowsOf := ⟨by decide, by decide⟩
theorem kt_619 : zFits jX12_take jX12_isArcher := ⟨by decide, by decide⟩
theorem kt_620 : zFits jX12_take jX12_keeps := ⟨by decide, by decide⟩
theorem kt_621 : zFits jX12_off jX12_keeps := ⟨by decide, by decide⟩
theorem kt_622 : zFits jX12_off jX12_isFar := ⟨by decide, by decide⟩
theorem kt_623 : zFits jX12_off jX12_isArcher := ⟨by decide, by decide⟩
theorem kt_624 : zFits jX12_off jX12_of := ⟨by decide, by decide⟩
theorem kt_625 : zFits jX12_most jX12_arrowsOf := ⟨by decide, by decide⟩
theorem km_X12_square : zMv jX12_square 2 := ⟨⟨kw_717, kw_718, kw_625, kw_716⟩, ⟨by decide +kernel, by decide +kernel, by decide +kernel⟩⟩
theorem kt_627 : zFits jX12_ahead jX12_square := ⟨by decide, by decide⟩
theorem km_X12_most : zMv jX12_most 2 := ⟨⟨kw_721, kw_722, kw_625, kw_720⟩, ⟨by decide +kernel, by decide +kernel, by decide +kernel⟩⟩
theorem kt_629 : zFits jX12_ahead jX12_most := ⟨by decide, by decide⟩
theorem km_X12_signOf : zMs jX12_signOf 1 := ⟨⟨kw_725, kw_625, kw_724⟩, ⟨by decide +kernel, by decide +kernel, by decide +kernel⟩⟩
theorem kt_631 : zFits jX12_ahead jX12_signOf := ⟨by decide, by decide⟩
theorem kt_632 : zFits jX12_ahead jX12_lastEnd := ⟨by decide, by decide⟩
theorem kt_633 : zFits jX12_ahead jX12_isArcher := ⟨by decide, by decide⟩
theorem kt_634 : zFits jX12_ahead jX12_total := ⟨by decide, by decide⟩
theorem kt_635 : zFits jX12_rank jX12_isArcher := ⟨by decide, by decide⟩
theorem km_X12_ahead : zMv jX12_ahead 2 := ⟨⟨kw_728, kw_729, kw_625, kw_727⟩, ⟨by decide +kernel, by decide +kernel, by decide +kernel⟩⟩
theorem kt_637 : zFits jX12_rank jX12_ahead := ⟨by decide, by decide⟩
theorem km_X12_isDay : zMs jX12_isDay 1 := ⟨⟨kw_733, kw_625, kw_732⟩, ⟨by decide +kernel, by decide +kernel, by decide +kernel⟩⟩
theorem kt_639 : zFits jX12_today jX12_isDay := ⟨by decide, by decide⟩
theorem kt_640 : zFits jX12_today jX12_keeps := ⟨by decide, by decide⟩
theorem kt_641 : zFits jX12_score jX12_isArcher := ⟨by decide, by decide⟩
theorem kt_642 : zFits jX12_score jX12_isDay := ⟨by decide, by decide⟩
theorem kt_643 : zFits jX12_score jX12_keeps := ⟨by decide, by decide⟩
theorem kt_644 : zFits jX12_strike jX12_isArcher := ⟨by decide, by decide⟩
theorem kt_645 : zFits jX12_strike jX12_keeps := ⟨by decide, by decide⟩
theorem kt_646 : zFits jX12_law jX12_keeps := ⟨by decide, by decide⟩
theorem kt_647 : zFits jX12_kind jX12_isArcher := ⟨by decide, by decide⟩
theorem kt_648 : zFits jX12_kind jX12_isDay := ⟨by decide, by decide⟩
theorem kt_649 : zFits jX12_bay jX12_keeps := ⟨by decide, by decide⟩
theorem kg_650 : zFg "ArcheryFieldModel" 68 12 30 := ⟨RX12, TX12, 31, rfl, by decide, inzX12, Or.inl kw_615⟩
theorem kg_651 : zFg "ArcheryFieldModel" 65 12 29 := ⟨RX12, TX12, 31, rfl, by decide, inzX12, Or.inl kw_614⟩
theorem kg_652 : zFg "ArcheryFieldModel" 196 12 28 := ⟨RX12, TX12, 31, rfl, by decide, inzX12, Or.inl kw_734⟩
theorem kt_653 : zFits jX12_layout jX12_keeps := ⟨by decide, by decide⟩
theorem km_X12_isFree : zMv jX12_isFree 1 := ⟨⟨kw_737, kw_738, kw_625, kw_736⟩, ⟨by decide +kernel, by decide +kernel, by decide +kernel⟩⟩
theorem kt_655 : zFits jX12_layout jX12_isFree := ⟨by decide, by decide⟩
theorem km_X12_isParted : zMv jX12_isParted 1 := ⟨⟨kw_741, kw_742, kw_625, kw_740⟩, ⟨by decide +kernel, by decide +kernel, by decide +kernel⟩⟩
theorem kt_657 : zFits jX12_layout jX12_isParted := ⟨by decide, by decide⟩
theorem kt_658 : zFits jX12_layout jX12_isArcher := ⟨by decide, by decide⟩
theorem kp_659 (nm : String) : zFp "ArcheryFieldModel" nm 196 12 28 .int := ⟨RX12, TX12, 31, tyX12, rfl, by decide, inzX12, tyX12_ok, nmX12, by decide +kernel, Or.inl ⟨rfl, kw_734⟩⟩
theorem kt_660 : zFits jX12_on jX12_isArcher := ⟨by decide, by decide⟩
theorem kt_661 : zFits jX12_lane jX12_keeps := ⟨by decide, by decide⟩
theorem km_X11_feed : zMv jX11_feed 5 := ⟨⟨kw_745, kw_746, kw_144, kw_744⟩, ⟨by decide +kernel, by decide +kernel, by decide +kernel⟩⟩
theorem kt_663 : zFits jL_law jX11_feed := ⟨by decide, by decide⟩
theorem km_X12_feed : zMv jX12_feed 5 := ⟨⟨kw_749, kw_750, kw_625, kw_748⟩, ⟨by decide +kernel, by decide +kernel, by decide +kernel⟩⟩
theorem kt_665 : zFits jL_law jX12_feed := ⟨by decide, by decide⟩
theorem km_X11_end : zMv jX11_end 1 := ⟨⟨kw_753, kw_754, kw_144, kw_752⟩, ⟨by decide +kernel, by decide +kernel, by decide +kernel⟩⟩
theorem kt_667 : zFits jL_law jX11_end := ⟨by decide, by decide⟩
theorem km_X12_end : zMv jX12_end 1 := ⟨⟨kw_757, kw_758, kw_625, kw_756⟩, ⟨by decide +kernel, by decide +kernel, by decide +kernel⟩⟩
theorem kt_669 : zFits jL_law jX12_end := ⟨by decide, by decide⟩
theorem km_X11_round : zMv jX11_round 0 := ⟨⟨kw_761, kw_762, kw_144, kw_760⟩, ⟨by decide +kernel, by decide +kernel, by decide +kernel⟩⟩
theorem kt_671 : zFits jL_law jX11_round := ⟨by decide, by decide⟩
theorem km_X12_round : zMv jX12_round 0 := ⟨⟨kw_765, kw_766, kw_625, kw_764⟩, ⟨by decide +kernel, by decide +kernel, by decide +kernel⟩⟩
theorem kt_673 : zFits jL_law jX12_round := ⟨by decide, by decide⟩
theorem km_X11_fault : zMv jX11_fault 1 := ⟨⟨kw_769, kw_770, kw_144, kw_768⟩, ⟨by decide +kernel, by decide +kernel, by decide +kernel⟩⟩
theorem kt_675 : zFits jL_law jX11_fault := ⟨by decide, by decide⟩
theorem km_X12_fault : zMv jX12_fault 1 := ⟨⟨kw_773, kw_774, kw_625, kw_772⟩, ⟨by decide +kernel, by decide +kernel, by decide +kernel⟩⟩
theorem kt_677 : zFits jL_law jX12_fault := ⟨by decide, by decide⟩
theorem km_X11_of : zMv jX11_of 1 := ⟨⟨kw_777, kw_778, kw_144, kw_776⟩, ⟨by decide +kernel, by decide +kernel, by decide +kernel⟩⟩
theorem kt_679 : zFits jL_law jX11_of := ⟨by decide, by decide⟩
theorem kt_680 : zFits jL_law jX12_of := ⟨by decide, by decide⟩
theorem km_X11_archer : zMv jX11_archer 1 := ⟨⟨kw_782, kw_783, kw_144, kw_781⟩, ⟨by decide +kernel, by decide +kernel, by decide +kernel⟩⟩
theorem kt_682 : zFits jL_law jX11_archer := ⟨by decide, by decide⟩
theorem km_X12_archer : zMv jX12_archer 1 := ⟨⟨kw_786, kw_787, kw_625, kw_785⟩, ⟨by decide +kernel, by decide +kernel, by decide +kernel⟩⟩
theorem kt_684 : zFits jL_law jX12_archer := ⟨by decide, by decide⟩
theorem km_X11_leave : zMv jX11_leave 1 := ⟨⟨kw_790, kw_791, kw_144, kw_789⟩, ⟨by decide +kernel, by decide +kernel, by decide +kernel⟩⟩
theorem kt_686 : zFits jL_law jX11_leave := ⟨by decide, by decide⟩
theorem km_X12_leave : zMv jX12_leave 1 := ⟨⟨kw_794, kw_795, kw_625, kw_793⟩, ⟨by decide +kernel, by decide +kernel, by decide +kernel⟩⟩
theorem kt_688 : zFits jL_law jX12_leave := ⟨by decide, by decide⟩
theorem km_X11_told : zMv jX11_told 2 := ⟨⟨kw_798, kw_799, kw_144, kw_797⟩, ⟨by decide +kernel, by decide +kernel, by decide +kernel⟩⟩
theorem kt_690 : zFits jL_law jX11_told := ⟨by decide, by decide⟩
theorem km_X12_told : zMv jX12_told 2 := ⟨⟨kw_802, kw_803, kw_625, kw_801⟩, ⟨by decide +kernel, by decide +kernel, by decide +kernel⟩⟩
theorem kt_692 : zFits jL_law jX12_told := ⟨by decide, by decide⟩
theorem km_X11_arrow : zMv jX11_arrow 3 := ⟨⟨kw_806, kw_807, kw_144, kw_805⟩, ⟨by decide +kernel, by decide +kernel, by decide +kernel⟩⟩
theorem kt_694 : zFits jL_law jX11_arrow := ⟨by decide, by decide⟩
theorem km_X12_arrow : zMv jX12_arrow 3 := ⟨⟨kw_810, kw_811, kw_625, kw_809⟩, ⟨by decide +kernel, by decide +kernel, by decide +kernel⟩⟩
theorem kt_696 : zFits jL_law jX12_arrow := ⟨by decide, by decide⟩
theorem km_X11_shoot : zMv jX11_shoot 1 := ⟨⟨kw_814, kw_815, kw_144, kw_813⟩, ⟨by decide +kernel, by decide +kernel, by decide +kernel⟩⟩
theorem kt_698 : zFits jL_law jX11_shoot := ⟨by decide, by decide⟩
theorem km_X12_shoot : zMv jX12_shoot 1 := ⟨⟨kw_818, kw_819, kw_625, kw_817⟩, ⟨by decide +kernel, by decide +kernel, by decide +kernel⟩⟩
theorem kt_700 : zFits jL_law jX12_shoot := ⟨by decide, by decide⟩
theorem km_X11_value : zMv jX11_value 2 := ⟨⟨kw_822, kw_823, kw_144, kw_821⟩, ⟨by decide +kernel, by decide +kernel, by decide +kernel⟩⟩
theorem kt_702 : zFits jL_law jX11_value := ⟨by decide, by decide⟩
theorem km_X12_value : zMv jX12_value 2 := ⟨⟨kw_826, kw_827, kw_625, kw_825⟩, ⟨by decide +kernel, by decide +kernel, by decide +kernel⟩⟩
theorem kt_704 : zFits jL_law jX12_value := ⟨by decide, by decide⟩
theorem km_X11_take : zMv jX11_take 1 := ⟨⟨kw_830, kw_831, kw_144, kw_829⟩, ⟨by decide +kernel, by decide +kernel, by decide +kernel⟩⟩
theorem kt_706 : zFits jL_law jX11_take := ⟨by decide, by decide⟩
theorem km_X12_take : zMv jX12_take 1 := ⟨⟨kw_834, kw_835, kw_625, kw_833⟩, ⟨by decide +kernel, by decide +kernel, by decide +kernel⟩⟩
theorem kt_708 : zFits jL_law jX12_take := ⟨by decide, by decide⟩
theorem km_X11_off : zMv jX11_off 4 := ⟨⟨kw_838, kw_839, kw_144, kw_837⟩, ⟨by decide +kernel, by decide +kernel, by decide +kernel⟩⟩
theorem kt_710 : zFits jL_law jX11_off := ⟨by decide, by decide⟩
theorem km_X12_off : zMv jX12_off 4 := ⟨⟨kw_842, kw_843, kw_625, kw_841⟩, ⟨by decide +kernel, by decide +kernel, by decide +kernel⟩⟩
theorem kt_712 : zFits jL_law jX12_off := ⟨by decide, by decide⟩
theorem km_X11_ahead : zMv jX11_ahead 2 := ⟨⟨kw_846, kw_847, kw_144, kw_845⟩, ⟨by decide +kernel, by decide +kernel, by decide +kernel⟩⟩
theorem kt_714 : zFits jL_law jX11_ahead := ⟨by decide, by decide⟩
theorem kt_715 : zFits jL_law jX12_ahead := ⟨by decide, by decide⟩
theorem km_X11_rank : zMv jX11_rank 1 := ⟨⟨kw_851, kw_852, kw_144, kw_850⟩, ⟨by decide +kernel, by decide +kernel, by decide +kernel⟩⟩
theorem kt_717 : zFits jL_law jX11_rank := ⟨by decide, by decide⟩
theorem km_X12_rank : zMv jX12_rank 1 := ⟨⟨kw_855, kw_856, kw_625, kw_854⟩, ⟨by decide +kernel, by decide +kernel, by decide +kernel⟩⟩
theorem kt_719 : zFits jL_law jX12_rank := ⟨by decide, by decide⟩
theorem km_X11_today : zMv jX11_today 1 := ⟨⟨kw_859, kw_860, kw_144, kw_858⟩, ⟨by decide +kernel, by decide +kernel, by decide +kernel⟩⟩
theorem kt_721 : zFits jL_law jX11_today := ⟨by decide, by decide⟩
theorem km_X12_today : zMv jX12_today 1 := ⟨⟨kw_863, kw_864, kw_625, kw_862⟩, ⟨by decide +kernel, by decide +kernel, by decide +kernel⟩⟩
theorem kt_723 : zFits jL_law jX12_today := ⟨by decide, by decide⟩
theorem km_X11_score : zMv jX11_score 3 := ⟨⟨kw_867, kw_868, kw_144, kw_866⟩, ⟨by decide +kernel, by decide +kernel, by decide +kernel⟩⟩
theorem kt_725 : zFits jL_law jX11_score := ⟨by decide, by decide⟩
theorem km_X12_score : zMv jX12_score 3 := ⟨⟨kw_871, kw_872, kw_625, kw_870⟩, ⟨by decide +kernel, by decide +kernel, by decide +kernel⟩⟩
theorem kt_727 : zFits jL_law jX12_score := ⟨by decide, by decide⟩
theorem km_X11_strike : zMv jX11_strike 2 := ⟨⟨kw_875, kw_876, kw_144, kw_874⟩, ⟨by decide +kernel, by decide +kernel, by decide +kernel⟩⟩
theorem kt_729 : zFits jL_law jX11_strike := ⟨by decide, by decide⟩
theorem km_X12_strike : zMv jX12_strike 2 := ⟨⟨kw_879, kw_880, kw_625, kw_878⟩, ⟨by decide +kernel, by decide +kernel, by decide +kernel⟩⟩
theorem kt_731 : zFits jL_law jX12_strike := ⟨by decide, by decide⟩
theorem km_X11_law : zMv jX11_law 3 := ⟨⟨kw_883, kw_884, kw_144, kw_882⟩, ⟨by decide +kernel, by decide +kernel, by decide +kernel⟩⟩
theorem kt_733 : zFits jL_law jX11_law := ⟨by decide, by decide⟩
theorem km_X12_law : zMv jX12_law 3 := ⟨⟨kw_887, kw_888, kw_625, kw_886⟩, ⟨by decide +kernel, by decide +kernel, by decide +kernel⟩⟩
theorem kt_735 : zFits jL_law jX12_law := ⟨by decide, by decide⟩
theorem km_X11_kind : zMv jX11_kind 3 := ⟨⟨kw_891, kw_892, kw_144, kw_890⟩, ⟨by decide +kernel, by decide +kernel, by decide +kernel⟩⟩
theorem kt_737 : zFits jL_law jX11_kind := ⟨by decide, by decide⟩
theorem km_X12_kind : zMv jX12_kind 3 := ⟨⟨kw_895, kw_896, kw_625, kw_894⟩, ⟨by decide +kernel, by decide +kernel, by decide +kernel⟩⟩
theorem kt_739 : zFits jL_law jX12_kind := ⟨by decide, by decide⟩
theorem km_X11_bay : zMv jX11_bay 1 := ⟨⟨kw_899, kw_900, kw_144, kw_898⟩, ⟨by decide +kernel, by decide +kernel, by decide +kernel⟩⟩
theorem kt_741 : zFits jL_law jX11_bay := ⟨by decide, by decide⟩
theorem km_X12_bay : zMv jX12_bay 1 := ⟨⟨kw_903, kw_904, kw_625, kw_902⟩, ⟨by decide +kernel, by decide +kernel, by decide +kernel⟩⟩
theorem kt_743 : zFits jL_law jX12_bay := ⟨by decide, by decide⟩
theorem km_X11_layout : zMv jX11_layout 0 := ⟨⟨kw_907, kw_908, kw_144, kw_906⟩, ⟨by decide +kernel, by decide +kernel, by decide +kernel⟩⟩
theorem kt_745 : zFits jL_law jX11_layout := ⟨by decide, by decide⟩
theorem km_X12_layout : zMv jX12_layout 0 := ⟨⟨kw_911, kw_912, kw_625, kw_910⟩, ⟨by decide +kernel, by decide +kernel, by decide +kernel⟩⟩
theorem kt_747 : zFits jL_law jX12_layout := ⟨by decide, by decide⟩
theorem km_X11_on : zMv jX11_on 1 := ⟨⟨kw_915, kw_916, kw_144, kw_914⟩, ⟨by decide +kernel, by decide +kernel, by decide +kernel⟩⟩
theorem kt_749 : zFits jL_law jX11_on := ⟨by decide, by decide⟩
theorem km_X12_on : zMv jX12_on 1 := ⟨⟨kw_919, kw_920, kw_625, kw_918⟩, ⟨by decide +kernel, by decide +kernel, by decide +kernel⟩⟩
theorem kt_751 : zFits jL_law jX12_on := ⟨by decide, by decide⟩
theorem km_X11_lane : zMv jX11_lane 2 := ⟨⟨kw_923, kw_924, kw_144, kw_922⟩, ⟨by decide +kernel, by decide +kernel, by decide +kernel⟩⟩
theorem kt_753 : zFits jL_law jX11_lane := ⟨by decide, by decide⟩
theorem km_X12_lane : zMv jX12_lane 2 := ⟨⟨kw_927, kw_928, kw_625, kw_926⟩, ⟨by decide +kernel, by decide +kernel, by decide +kernel⟩⟩
theorem kt_755 : zFits jL_law jX12_lane := ⟨by decide, by decide⟩
theorem km_X11_state : zMv jX11_state 1 := ⟨⟨kw_931, kw_932, kw_144, kw_930⟩, ⟨by decide +kernel, by decide +kernel, by decide +kernel⟩⟩
theorem kt_757 : zFits jL_law jX11_state := ⟨by decide, by decide⟩
theorem km_X12_state : zMv jX12_state 1 := ⟨⟨kw_935, kw_936, kw_625, kw_934⟩, ⟨by decide +kernel, by decide +kernel, by decide +kernel⟩⟩
theorem kt_759 : zFits jL_law jX12_state := ⟨by decide, by decide⟩
theorem km_X11_undo : zMv jX11_undo 0 := ⟨⟨kw_939, kw_940, kw_144, kw_938⟩, ⟨by decide +kernel, by decide +kernel, by decide +kernel⟩⟩
theorem kt_761 : zFits jL_law jX11_undo := ⟨by decide, by decide⟩
theorem km_X12_undo : zMv jX12_undo 0 := ⟨⟨kw_943, kw_944, kw_625, kw_942⟩, ⟨by decide +kernel, by decide +kernel, by decide +kernel⟩⟩
theorem kt_763 : zFits jL_law jX12_undo := ⟨by decide, by decide⟩
theorem kn_764 : zFn "ArcheryFieldLaw" 7 11 [zr none, zr none, zr none, zr none, zi 0, zr none] := ⟨RX11, TX11, 6, tyX11, rfl, inzX11, tyX11_ok, kw_945, kw_946, kw_144, rfl, fun g j hj => by rcases (show j = 0 ∨ j = 1 ∨ j = 2 ∨ j = 3 ∨ j = 4 ∨ j = 5 by omega) with rfl | rfl | rfl | rfl | rfl | rfl <;> rfl⟩
theorem km_X11_init : zMc jX11_init 0 := ⟨⟨kw_949, kw_144, kw_948⟩, rfl, rfl, ⟨by decide +kernel, by decide +kernel, by decide +kernel⟩⟩
theorem kt_766 : zFits jL_law jX11_init := ⟨by decide, by decide⟩
theorem kn_767 : zFn "ArcheryFieldLaw" 10 12 [zr none, zi 0, zr none, zi 0, zi 0, zi 0, zi 0, zi 0, zi 0, zi 0, zi 0, zi 0, zi 0, zr none, zr none, zr none, zr none, zr none, zr none, zr none, zr none, zr none, zr none, zi 0, zr none, zr none, zr none, zr none, zi 0, zr none, zr none] := ⟨RX12, TX12, 31, tyX12, rfl, inzX12, tyX12_ok, kw_950, kw_951, kw_625, rfl, fun g j hj => by rcases (show j = 0 ∨ j = 1 ∨ j = 2 ∨ j = 3 ∨ j = 4 ∨ j = 5 ∨ j = 6 ∨ j = 7 ∨ j = 8 ∨ j = 9 ∨ j = 10 ∨ j = 11 ∨ j = 12 ∨ j = 13 ∨ j = 14 ∨ j = 15 ∨ j = 16 ∨ j = 17 ∨ j = 18 ∨ j = 19 ∨ j = 20 ∨ j = 21 ∨ j = 22 ∨ j = 23 ∨ j = 24 ∨ j = 25 ∨ j = 26 ∨ j = 27 ∨ j = 28 ∨ j = 29 ∨ j = 30 by omega) with rfl | rfl | rfl | rfl | rfl | rfl | rfl | rfl | rfl | rfl | rfl | rfl | rfl | rfl | rfl | rfl | rfl | rfl | rfl | rfl | rfl | rfl | rfl | rfl | rfl | rfl | rfl | rfl | rfl | rfl | rfl <;> rfl⟩
theorem km_X12_init : zMc jX12_init 0 := ⟨⟨kw_954, kw_625, kw_953⟩, rfl, rfl, ⟨by decide +kernel, by decide +kernel, by decide +kernel⟩⟩
theorem kt_769 : zFits jL_law jX12_init := ⟨by decide, by decide⟩
end
section
abbrev jJ0_coder_7d493 : zJ := (yJ0_coder_7d493, cJ0_coder_7d493, 1, (some .byte), 0, 0)
abbrev jJ0_isLatin1_aae02 : zJ := (yJ0_isLatin1_aae02, cJ0_isLatin1_aae02, 1, (some .boolean), 0, 0)
abbrev jJ3_checkIndex_8e157 : zJ := (yJ3_checkIndex_8e157, cJ3_checkIndex_8e157, 3, (some .int), 0, 0)
abbrev jJ0_checkIndex_df160 : zJ := (yJ0_checkIndex_df160, cJ0_checkIndex_df160, 2, none, 1, 22)
abbrev jJ1_charAt_3b067 : zJ := (yJ1_charAt_3b067, cJ1_charAt_3b067, 2, (some .char), 2, 43)
theorem ks_0 : Cond.code yJ0_coder_7d493 cJ0_coder_7d493 1 (some .byte) ∈ zWd := zWd_mem (zm2 (List.mem_of_getElem? (i := 37) rfl)) (by decide +kernel)
theorem ks_1 : Cond.instanceMethod ⟨"java/lang/String", "coder", "()B"⟩ ∈ zWd := zWd_mem (zm2 (List.mem_of_getElem? (i := 35) rfl)) (by decide +kernel)
theorem ks_2 : Cond.selects "java/lang/String" ⟨"java/lang/String", "coder", "()B"⟩ ⟨"java/lang/String", "coder", "()B"⟩ ∈ zWd := zWd_mem (zm2 (List.mem_of_getElem? (i := 36) rfl)) (by decide +kernel)
theorem ks_3 : Cond.initialized "java/lang/String" ∈ zWd := zWd_mem (zm1 (List.mem_of_getElem? (i := 10) rfl)) (by decide +kernel)
theorem ks_4 : Cond.code yJ0_isLatin1_aae02 cJ0_isLatin1_aae02 1 (some .boolean) ∈ zWd := zWd_mem (zm2 (List.mem_of_getElem? (i := 47) rfl)) (by decide +kernel)
theorem ks_5 : Cond.instanceMethod ⟨"java/lang/String", "isLatin1", "()Z"⟩ ∈ zWd := zWd_mem (zm2 (List.mem_of_getElem? (i := 45) rfl)) (by decide +kernel)
theorem ks_6 : Cond.selects "java/lang/String" ⟨"java/lang/String", "isLatin1", "()Z"⟩ ⟨"java/lang/String", "isLatin1", "()Z"⟩ ∈ zWd := zWd_mem (zm2 (List.mem_of_getElem? (i := 46) rfl)) (by decide +kernel)
theorem ks_7 : Cond.code yJ3_checkIndex_8e157 cJ3_checkIndex_8e157 3 (some .int) ∈ zWd := zWd_mem (zm2 (List.mem_of_getElem? (i := 58) rfl)) (by decide +kernel)
theorem ks_8 : Cond.static ⟨"jdk/internal/util/Preconditions", "checkIndex", "(IILjava/util/function/BiFunction;)I"⟩ ∈ zWd := zWd_mem (zm2 (List.mem_of_getElem? (i := 57) rfl)) (by decide +kernel)
theorem ks_9 : Cond.initialized "jdk/internal/util/Preconditions" ∈ zWd := zWd_mem (zm1 (List.mem_of_getElem? (i := 12) rfl)) (by decide +kernel)
theorem ks_10 : Cond.code yJ0_checkIndex_df160 cJ0_checkIndex_df160 2 none ∈ zWd := zWd_mem (zm2 (List.mem_of_getElem? (i := 53) rfl)) (by decide +kernel)
theorem ks_11 : Cond.static ⟨"java/lang/String", "checkIndex", "(II)V"⟩ ∈ zWd := zWd_mem (zm2 (List.mem_of_getElem? (i := 52) rfl)) (by decide +kernel)
theorem ks_12 : Cond.code yJ1_charAt_3b067 cJ1_charAt_3b067 2 (some .char) ∈ zWd := zWd_mem (zm2 (List.mem_of_getElem? (i := 50) rfl)) (by decide +kernel)
theorem ks_13 : Cond.static ⟨"java/lang/StringLatin1", "charAt", "([BI)C"⟩ ∈ zWd := zWd_mem (zm2 (List.mem_of_getElem? (i := 49) rfl)) (by decide +kernel)
theorem ks_14 : Cond.initialized "java/lang/StringLatin1" ∈ zWd := zWd_mem (zm1 (List.mem_of_getElem? (i := 11) rfl)) (by decide +kernel)
theorem ks_15 : Cond.code yJ0_length_8abf5 cJ0_length_8abf5 1 (some .int) ∈ zWd := zWd_mem (zm2 (List.mem_of_getElem? (i := 33) rfl)) (by decide +kernel)
theorem ks_16 : Cond.instanceMethod ⟨"java/lang/String", "length", "()I"⟩ ∈ zWd := zWd_mem (zm2 (List.mem_of_getElem? (i := 31) rfl)) (by decide +kernel)
theorem ks_17 : Cond.selects "java/lang/String" ⟨"java/lang/String", "length", "()I"⟩ ⟨"java/lang/String", "length", "()I"⟩ ∈ zWd := zWd_mem (zm2 (List.mem_of_getElem? (i := 32) rfl)) (by decide +kernel)
theorem ks_18 : Cond.code yJ0_charAt_5068e cJ0_charAt_5068e 2 (some .char) ∈ zWd := zWd_mem (zm2 (List.mem_of_getElem? (i := 43) rfl)) (by decide +kernel)
theorem ks_19 : Cond.instanceMethod ⟨"java/lang/String", "charAt", "(I)C"⟩ ∈ zWd := zWd_mem (zm2 (List.mem_of_getElem? (i := 41) rfl)) (by decide +kernel)
theorem ks_20 : Cond.selects "java/lang/String" ⟨"java/lang/String", "charAt", "(I)C"⟩ ⟨"java/lang/String", "charAt", "(I)C"⟩ ∈ zWd := zWd_mem (zm2 (List.mem_of_getElem? (i := 42) rfl)) (by decide +kernel)
theorem ks_21 : Cond.fieldLink "java/lang/String" 38 "java/lang/String" "COMPACT_STRINGS" "Z" ∈ zWd := zWd_mem (zm2 (List.mem_of_getElem? (i := 38) rfl)) (by decide +kernel)
theorem ks_22 : Cond.fieldLink "java/lang/String" 15 "java/lang/String" "coder" "B" ∈ zWd := zWd_mem (zm6 (List.mem_of_getElem? (i := 0) rfl)) (by decide +kernel)
theorem ks_23 : Cond.fieldLink "java/lang/String" 9 "java/lang/String" "value" "[B" ∈ zWd := zWd_mem (zm5 (List.mem_of_getElem? (i := 239) rfl)) (by decide +kernel)
theorem ks_24 : Cond.fieldLink "java/lang/String" 1053 "jdk/internal/util/Preconditions" "SIOOBE_FORMATTER" "Ljava/util/function/BiFunction;" ∈ zWd := zWd_mem (zm2 (List.mem_of_getElem? (i := 54) rfl)) (by decide +kernel)
theorem ks_25 : Cond.methodLink "java/lang/String" 335 ⟨"java/lang/String", "coder", "()B"⟩ ∈ zWd := zWd_mem (zm2 (List.mem_of_getElem? (i := 34) rfl)) (by decide +kernel)
theorem ks_26 : Cond.methodLink "java/lang/String" 492 ⟨"java/lang/String", "isLatin1", "()Z"⟩ ∈ zWd := zWd_mem (zm2 (List.mem_of_getElem? (i := 44) rfl)) (by decide +kernel)
theorem ks_27 : Cond.methodLink "java/lang/String" 495 ⟨"java/lang/StringLatin1", "charAt", "([BI)C"⟩ ∈ zWd := zWd_mem (zm2 (List.mem_of_getElem? (i := 48) rfl)) (by decide +kernel)
theorem ks_28 : Cond.methodLink "java/lang/StringLatin1" 9 ⟨"java/lang/String", "checkIndex", "(II)V"⟩ ∈ zWd := zWd_mem (zm2 (List.mem_of_getElem? (i := 51) rfl)) (by decide +kernel)
theorem ks_29 : Cond.methodLink "java/lang/String" 1059 ⟨"jdk/internal/util/Preconditions", "checkIndex", "(IILjava/util/function/BiFunction;)I"⟩ ∈ zWd := zWd_mem (zm2 (List.mem_of_getElem? (i := 56) rfl)) (by decide +kernel)
theorem ky_J0_coder_7d493 : zMv jJ0_coder_7d493 0 := ⟨⟨ks_1, ks_2, ks_3, ks_0⟩, ⟨by decide +kernel, by decide +kernel, by decide +kernel⟩⟩
theorem ky_J0_isLatin1_aae02 : zMv jJ0_isLatin1_aae02 0 := ⟨⟨ks_5, ks_6, ks_3, ks_4⟩, ⟨by decide +kernel, by decide +kernel, by decide +kernel⟩⟩
theorem ky_J3_checkIndex_8e157 : zMs jJ3_checkIndex_8e157 3 := ⟨⟨ks_8, ks_9, ks_7⟩, ⟨by decide +kernel, by decide +kernel, by decide +kernel⟩⟩
theorem ky_J0_checkIndex_df160 : zMs jJ0_checkIndex_df160 2 := ⟨⟨ks_11, ks_3, ks_10⟩, ⟨by decide +kernel, by decide +kernel, by decide +kernel⟩⟩
theorem ky_J1_charAt_3b067 : zMs jJ1_charAt_3b067 2 := ⟨⟨ks_13, ks_14, ks_12⟩, ⟨by decide +kernel, by decide +kernel, by decide +kernel⟩⟩
theorem ky_J0_length_8abf5 : zMv jJ0_length_8abf5 0 := ⟨⟨ks_16, ks_17, ks_3, ks_15⟩, ⟨by decide +kernel, by decide +kernel, by decide +kernel⟩⟩
theorem ky_J0_charAt_5068e : zMv jJ0_charAt_5068e 1 := ⟨⟨ks_19, ks_20, ks_3, ks_18⟩, ⟨by decide +kernel, by decide +kernel, by decide +kernel⟩⟩
theorem dJ0_coder_7d493_0 : decode cJ0_coder_7d493 0 = .ok (.getstatic 38, 3) := by decide +kernel
theorem dJ0_coder_7d493_3 : decode cJ0_coder_7d493 3 = .ok (.ifCond .eq 10, 3) := by decide +kernel
theorem dJ0_coder_7d493_6 : decode cJ0_coder_7d493 6 = .ok (.aload_n 0, 1) := by decide +kernel
theorem dJ0_coder_7d493_7 : decode cJ0_coder_7d493 7 = .ok (.getfield 15, 3) := by decide +kernel
theorem dJ0_coder_7d493_10 : decode cJ0_coder_7d493 10 = .ok (.goto 4, 3) := by decide +kernel
theorem dJ0_coder_7d493_13 : decode cJ0_coder_7d493 13 = .ok (.iconst 1, 1) := by decide +kernel
theorem dJ0_coder_7d493_14 : decode cJ0_coder_7d493 14 = .ok (.ireturn, 1) := by decide +kernel
theorem dJ0_isLatin1_aae02_0 : decode cJ0_isLatin1_aae02 0 = .ok (.getstatic 38, 3) := by decide +kernel
theorem dJ0_isLatin1_aae02_3 : decode cJ0_isLatin1_aae02 3 = .ok (.ifCond .eq 14, 3) := by decide +kernel
theorem dJ0_isLatin1_aae02_6 : decode cJ0_isLatin1_aae02 6 = .ok (.aload_n 0, 1) := by decide +kernel
theorem dJ0_isLatin1_aae02_7 : decode cJ0_isLatin1_aae02 7 = .ok (.getfield 15, 3) := by decide +kernel
theorem dJ0_isLatin1_aae02_10 : decode cJ0_isLatin1_aae02 10 = .ok (.ifCond .ne 7, 3) := by decide +kernel
theorem dJ0_isLatin1_aae02_13 : decode cJ0_isLatin1_aae02 13 = .ok (.iconst 1, 1) := by decide +kernel
theorem dJ0_isLatin1_aae02_14 : decode cJ0_isLatin1_aae02 14 = .ok (.goto 4, 3) := by decide +kernel
theorem dJ0_isLatin1_aae02_17 : decode cJ0_isLatin1_aae02 17 = .ok (.iconst 0, 1) := by decide +kernel
theorem dJ0_isLatin1_aae02_18 : decode cJ0_isLatin1_aae02 18 = .ok (.ireturn, 1) := by decide +kernel
theorem dJ3_checkIndex_8e157_0 : decode cJ3_checkIndex_8e157 0 = .ok (.iload_n 0, 1) := by decide +kernel
theorem dJ3_checkIndex_8e157_1 : decode cJ3_checkIndex_8e157 1 = .ok (.ifCond .lt 8, 3) := by decide +kernel
theorem dJ3_checkIndex_8e157_4 : decode cJ3_checkIndex_8e157 4 = .ok (.iload_n 0, 1) := by decide +kernel
theorem dJ3_checkIndex_8e157_5 : decode cJ3_checkIndex_8e157 5 = .ok (.iload_n 1, 1) := by decide +kernel
theorem dJ3_checkIndex_8e157_6 : decode cJ3_checkIndex_8e157 6 = .ok (.if_icmp .lt 10, 3) := by decide +kernel
theorem dJ3_checkIndex_8e157_9 : decode cJ3_checkIndex_8e157 9 = .ok (.aload_n 2, 1) := by decide +kernel
theorem dJ3_checkIndex_8e157_10 : decode cJ3_checkIndex_8e157 10 = .ok (.iload_n 0, 1) := by decide +kernel
theorem dJ3_checkIndex_8e157_11 : decode cJ3_checkIndex_8e157 11 = .ok (.iload_n 1, 1) := by decide +kernel
theorem dJ3_checkIndex_8e157_12 : decode cJ3_checkIndex_8e157 12 = .ok (.invokestatic 95, 3) := by decide +kernel
theorem dJ3_checkIndex_8e157_15 : decode cJ3_checkIndex_8e157 15 = .ok (.athrow, 1) := by decide +kernel
theorem dJ3_checkIndex_8e157_16 : decode cJ3_checkIndex_8e157 16 = .ok (.iload_n 0, 1) := by decide +kernel
theorem dJ3_checkIndex_8e157_17 : decode cJ3_checkIndex_8e157 17 = .ok (.ireturn, 1) := by decide +kernel
theorem dJ0_checkIndex_df160_0 : decode cJ0_checkIndex_df160 0 = .ok (.iload_n 0, 1) := by decide +kernel
theorem dJ0_checkIndex_df160_1 : decode cJ0_checkIndex_df160 1 = .ok (.iload_n 1, 1) := by decide +kernel
theorem dJ0_checkIndex_df160_2 : decode cJ0_checkIndex_df160 2 = .ok (.getstatic 1053, 3) := by decide +kernel
theorem dJ0_checkIndex_df160_5 : decode cJ0_checkIndex_df160 5 = .ok (.invokestatic 1059, 3) := by decide +kernel
theorem dJ0_checkIndex_df160_8 : decode cJ0_checkIndex_df160 8 = .ok (.pop, 1) := by decide +kernel
theorem dJ0_checkIndex_df160_9 : decode cJ0_checkIndex_df160 9 = .ok (.return_, 1) := by decide +kernel
theorem dJ1_charAt_3b067_0 : decode cJ1_charAt_3b067 0 = .ok (.iload_n 1, 1) := by decide +kernel
theorem dJ1_charAt_3b067_1 : decode cJ1_charAt_3b067 1 = .ok (.aload_n 0, 1) := by decide +kernel
theorem dJ1_charAt_3b067_2 : decode cJ1_charAt_3b067 2 = .ok (.arraylength, 1) := by decide +kernel
theorem dJ1_charAt_3b067_3 : decode cJ1_charAt_3b067 3 = .ok (.invokestatic 9, 3) := by decide +kernel
theorem dJ1_charAt_3b067_6 : decode cJ1_charAt_3b067 6 = .ok (.aload_n 0, 1) := by decide +kernel
theorem dJ1_charAt_3b067_7 : decode cJ1_charAt_3b067 7 = .ok (.iload_n 1, 1) := by decide +kernel
theorem dJ1_charAt_3b067_8 : decode cJ1_charAt_3b067 8 = .ok (.baload, 1) := by decide +kernel
theorem dJ1_charAt_3b067_9 : decode cJ1_charAt_3b067 9 = .ok (.sipush 255, 3) := by decide +kernel
theorem dJ1_charAt_3b067_12 : decode cJ1_charAt_3b067 12 = .ok (.iand, 1) := by decide +kernel
theorem dJ1_charAt_3b067_13 : decode cJ1_charAt_3b067 13 = .ok (.i2c, 1) := by decide +kernel
theorem dJ1_charAt_3b067_14 : decode cJ1_charAt_3b067 14 = .ok (.ireturn, 1) := by decide +kernel
theorem dJ0_length_8abf5_0 : decode cJ0_length_8abf5 0 = .ok (.aload_n 0, 1) := by decide +kernel
theorem dJ0_length_8abf5_1 : decode cJ0_length_8abf5 1 = .ok (.getfield 9, 3) := by decide +kernel
theorem dJ0_length_8abf5_4 : decode cJ0_length_8abf5 4 = .ok (.arraylength, 1) := by decide +kernel
theorem dJ0_length_8abf5_5 : decode cJ0_length_8abf5 5 = .ok (.aload_n 0, 1) := by decide +kernel
theorem dJ0_length_8abf5_6 : decode cJ0_length_8abf5 6 = .ok (.invokevirtual 335, 3) := by decide +kernel
theorem dJ0_length_8abf5_9 : decode cJ0_length_8abf5 9 = .ok (.ishr, 1) := by decide +kernel
theorem dJ0_length_8abf5_10 : decode cJ0_length_8abf5 10 = .ok (.ireturn, 1) := by decide +kernel
theorem dJ0_charAt_5068e_0 : decode cJ0_charAt_5068e 0 = .ok (.aload_n 0, 1) := by decide +kernel
theorem dJ0_charAt_5068e_1 : decode cJ0_charAt_5068e 1 = .ok (.invokevirtual 492, 3) := by decide +kernel
theorem dJ0_charAt_5068e_4 : decode cJ0_charAt_5068e 4 = .ok (.ifCond .eq 12, 3) := by decide +kernel
theorem dJ0_charAt_5068e_7 : decode cJ0_charAt_5068e 7 = .ok (.aload_n 0, 1) := by decide +kernel
theorem dJ0_charAt_5068e_8 : decode cJ0_charAt_5068e 8 = .ok (.getfield 9, 3) := by decide +kernel
theorem dJ0_charAt_5068e_11 : decode cJ0_charAt_5068e 11 = .ok (.iload_n 1, 1) := by decide +kernel
theorem dJ0_charAt_5068e_12 : decode cJ0_charAt_5068e 12 = .ok (.invokestatic 495, 3) := by decide +kernel
theorem dJ0_charAt_5068e_15 : decode cJ0_charAt_5068e 15 = .ok (.ireturn, 1) := by decide +kernel
theorem dJ0_charAt_5068e_16 : decode cJ0_charAt_5068e 16 = .ok (.aload_n 0, 1) := by decide +kernel
theorem dJ0_charAt_5068e_17 : decode cJ0_charAt_5068e 17 = .ok (.getfield 9, 3) := by decide +kernel
theorem dJ0_charAt_5068e_20 : decode cJ0_charAt_5068e 20 = .ok (.iload_n 1, 1) := by decide +kernel
theorem dJ0_charAt_5068e_21 : decode cJ0_charAt_5068e 21 = .ok (.invokestatic 498, 3) := by decide +kernel
theorem dJ0_charAt_5068e_24 : decode cJ0_charAt_5068e 24 = .ok (.ireturn, 1) := by decide +kernel
section zstrs
variable {g : zG} {J J' : zJ} {h0 : zH} {pc idx k n : Nat} {L : List (Option zV)} {st rest as : List zV} {h h1 : zH} {r r1 : Option zV} {h' : zH} {x i : Int32}
theorem zt_comp (ho : J.1.cls = "java/lang/String") (hl : Cond.fieldLink "java/lang/String" idx "java/lang/String" "COMPACT_STRINGS" "Z" ∈ zWd) (hd : decode J.2.1 pc = .ok (.getstatic idx, 3)) (kk : zR g J h0 (pc + 3) L (zi 1 :: st) h r h') : zR g J h0 pc L st h r h' :=
  zR.step (fun X _ _ _ _ hT hL kk => va_gets (own := "java/lang/String") X.1 X.2.1 X.2.2.2.2.2.2.1.2.2.2.2.1 hT.2.2 (by rw [← ho]; exact X.2.2.2.1) (X.2.2.2.2.1 _ hl) (fun _ q => q) hd (kk _ hL)) kk
theorem zt_coder (hk : k < 8) (ho : J.1.cls = "java/lang/String") (hl : Cond.fieldLink "java/lang/String" idx "java/lang/String" "coder" "B" ∈ zWd) (hd : decode J.2.1 pc = .ok (.getfield idx, 3)) (kk : zR g J h0 (pc + 3) L (zi 0 :: st) h r h') : zR g J h0 pc L (zs k :: st) h r h' :=
  zR.step (fun X _ _ _ _ hT hL kk => vk_getf (own := "java/lang/String") X.1 X.2.1 (X.2.2.2.2.2.2.1.2.2.2.2.2.2.1.1 k hk).2.1 hT.2.2 (by rw [← ho]; exact X.2.2.2.1) (X.2.2.2.2.1 _ hl) (fun _ q => q) hd (kk _ hL)) kk
theorem zt_value (hk : k < 8) (ho : J.1.cls = "java/lang/String") (hl : Cond.fieldLink "java/lang/String" idx "java/lang/String" "value" "[B" ∈ zWd) (hd : decode J.2.1 pc = .ok (.getfield idx, 3)) (kk : zR g J h0 (pc + 3) L (zs (16 + k) :: st) h r h') : zR g J h0 pc L (zs k :: st) h r h' :=
  zR.step (fun X _ _ _ _ hT hL kk => vk_getf (own := "java/lang/String") X.1 X.2.1 (X.2.2.2.2.2.2.1.2.2.2.2.2.2.1.1 k hk).2.2.1 hT.2.2 (by rw [← ho]; exact X.2.2.2.1) (X.2.2.2.2.1 _ hl) (fun _ q => q) hd (kk _ hL)) kk
theorem zt_len (hk : k < 8) (hd : decode J.2.1 pc = .ok (.arraylength, 1)) (kk : zR g J h0 (pc + 1) L (zi (nI (zSl.getD k 0)) :: st) h r h') : zR g J h0 pc L (zs (16 + k) :: st) h r h' :=
  zR.step (fun X _ _ _ _ hT hL kk => va_tlen X.1 X.2.1 (X.2.2.2.2.2.2.1.2.2.2.2.2.2.1.1 k hk).2.2.2 hT.2.2 rfl hd (kk _ hL)) kk
theorem zt_ld (hk : k < 8) (hin : vp_in i (zSl.getD k 0)) (hd : decode J.2.1 pc = .ok (.baload, 1)) (kk : zR g J h0 (pc + 1) L (zi ((zSb.getD k []).getD i.toNatClampNeg 0) :: st) h r h') : zR g J h0 pc L (zi i :: zs (16 + k) :: st) h r h' :=
  zR.step (fun X _ _ _ _ hT hL kk => va_tb X.1 X.2.1 (X.2.2.2.2.2.2.1.2.2.2.2.2.2.1.1 k hk).2.2.2 hT.2.2 hin rfl hd (kk _ hL)) kk
theorem zt_fmt (ho : J.1.cls = "java/lang/String") (hl : Cond.fieldLink "java/lang/String" idx "jdk/internal/util/Preconditions" "SIOOBE_FORMATTER" "Ljava/util/function/BiFunction;" ∈ zWd) (hd : decode J.2.1 pc = .ok (.getstatic idx, 3)) (k1 : zR g J h0 (pc + 3) L (zr none :: st) h r h') (k2 : zR g J h0 (pc + 3) L (zs 32 :: st) h r h') : zR g J h0 pc L st h r h' := by
  refine ⟨k1.1, k1.2.1, fun a1 a2 p l e R s m args below meth c Q X hs f1 f2 f3 f4 hr H locs ls hT hL => ?_⟩
  rcases X.2.2.2.2.2.2.1.2.2.2.2.2.2.2.2.2 with hZ | hZ
  · exact va_gets (own := "java/lang/String") X.1 X.2.1 hZ hT.2.2 (by rw [← ho]; exact X.2.2.2.1) (X.2.2.2.2.1 _ hl) (fun _ q => q) hd (k1.2.2 a1 a2 p l e R s m args below meth c Q X hs f1 f2 f3 f4 hr H locs ls hT hL)
  · exact va_gets (own := "java/lang/String") X.1 X.2.1 hZ hT.2.2 (by rw [← ho]; exact X.2.2.2.1) (X.2.2.2.2.1 _ hl) (fun _ q => q) hd (k2.2.2 a1 a2 p l e R s m args below meth c Q X hs f1 f2 f3 f4 hr H locs ls hT hL)
theorem zt_i2c (hd : decode J.2.1 pc = .ok (.i2c, 1)) (kk : zR g J h0 (pc + 1) L (zi (x.toUInt32 % 65536).toInt32 :: st) h r h') : zR g J h0 pc L (zi x :: st) h r h' :=
  zR.step (fun X _ _ _ _ hT hL kk => lv_i2c X.1 X.2.1 hd rfl (kk _ hL)) kk
theorem zt_call (hk : k < 8) (hcl : J'.1.cls = "java/lang/String") (hl : Cond.methodLink J.1.cls idx J'.1 ∈ zWd) (hM : zMv J' n) (hF : zFits J J') (hd : decode J.2.1 pc = .ok (.invokevirtual idx, 3)) (hn : as.length = n) (hrest : rest.length ≤ 8) (hst : as.reverse ++ zs k :: rest = st) (hc : zCa g J' (zs k :: as) h r1 h1)
    (kk : zR g J h0 (pc + 3) L (r1.toList ++ rest) h1 r h') : zR g J h0 pc L st h r h' := by
  subst hst
  refine zR.stepC hc.1 (fun {p l e R s m args below meth c H locs cells slots ls} X b1 b2 hT hL b3 b4 => ?_) kk
  obtain ⟨⟨m1, m2, m3, m4⟩, m5, m6, m7⟩ := hM
  have hgood : GoodIn zWd (wsV J.1.cls idx J'.1.cls J'.1 (zWs J')) := zgood (fun w hw => by
    simp only [wsV, zWs, List.cons_append, List.nil_append, List.mem_cons] at hw
    rcases hw with rfl | rfl | rfl | rfl | rfl | hw
    · exact hl
    · exact m1
    · exact m2
    · exact m3
    · exact m4
    · exact hw)
  have hrec := vk_recv X.2.2.2.2.2.2.1.2.2.2.2.2.2.1 hk hT.2.2
  rw [← hcl] at hrec
  have e1 : ((as.reverse ++ zs k :: rest).map (zv g)) = (as.map (zv g)).reverse ++ .ref (g.2.2.2.1 k) :: rest.map (zv g) := by
    simp [List.map_reverse, zv]
  rw [e1]
  exact va_runV (As := as.map (zv g)) (rest := rest.map (zv g)) (b := g.2.2.2.1 k) ⟨X.1, X.2.1, X.2.2.1, X.2.2.2.1, X.2.2.2.2.1⟩ (hc.2 l) (cwV n X.2.2.2.2.1 hgood rfl rfl rfl ⟨rfl, m5, m6, m7⟩ ⟨Nat.le_trans hF.1 b1, Nat.le_trans hF.2 b2⟩) ⟨zblind g h _, hrec, fun U hU hW => zpre (as := zs k :: as) X hT U hU hW⟩ rfl (by simpa using hn) hL.1 rfl (lv_room (by rw [zsum]; exact hrest)) hd ⟨b3, b4⟩
end zstrs

theorem zt_c_coder {g : zG} (hg : g.2.1.map (fun q => q.2) = zty) {k : Nat} (hk : k < 8) (h : zH) : zCa g jJ0_coder_7d493 [zs k] h (some (zi 0)) h := by
  refine zCa.of hg (by decide +kernel) (Nat.le_of_ble_eq_true rfl) ?_
  refine zt_comp rfl ks_21 dJ0_coder_7d493_0 ?_
  refine zr_ifeq_f 13 dJ0_coder_7d493_3 (by decide) (by decide) ?_
  refine zr_aload_n (v := .inr k) dJ0_coder_7d493_6 rfl rfl ?_
  refine zt_coder hk rfl ks_22 dJ0_coder_7d493_7 ?_
  refine zr_goto (tgt := 14) dJ0_coder_7d493_10 (by decide) ?_
  exact zr_ret _ rfl dJ0_coder_7d493_14
theorem zt_c_isLatin1 {g : zG} (hg : g.2.1.map (fun q => q.2) = zty) {k : Nat} (hk : k < 8) (h : zH) : zCa g jJ0_isLatin1_aae02 [zs k] h (some (zi 1)) h := by
  refine zCa.of hg (by decide +kernel) (Nat.le_of_ble_eq_true rfl) ?_
  refine zt_comp rfl ks_21 dJ0_isLatin1_aae02_0 ?_
  refine zr_ifeq_f 17 dJ0_isLatin1_aae02_3 (by decide) (by decide) ?_
  refine zr_aload_n (v := .inr k) dJ0_isLatin1_aae02_6 rfl rfl ?_
  refine zt_coder hk rfl ks_22 dJ0_isLatin1_aae02_7 ?_
  refine zr_ifne_f 17 dJ0_isLatin1_aae02_10 (by decide) rfl ?_
  refine zr_iconst (v := 1) dJ0_isLatin1_aae02_13 (by decide) ?_
  refine zr_goto (tgt := 18) dJ0_isLatin1_aae02_14 (by decide) ?_
  exact zr_ret _ rfl dJ0_isLatin1_aae02_18
theorem zt_c_pre {g : zG} (hg : g.2.1.map (fun q => q.2) = zty) {i n : Int32} {v : zV} (h1 : ¬ i < 0) (h2 : i < n) (h : zH) : zCa g jJ3_checkIndex_8e157 [zi i, zi n, v] h (some (zi i)) h := by
  refine zCa.of hg (by decide +kernel) (Nat.le_of_ble_eq_true rfl) ?_
  refine zr_iload_n (x := i) dJ3_checkIndex_8e157_0 rfl rfl ?_
  refine zr_iflt_f 9 dJ3_checkIndex_8e157_1 (by decide) h1 ?_
  refine zr_iload_n (x := i) dJ3_checkIndex_8e157_4 rfl rfl ?_
  refine zr_iload_n (x := n) dJ3_checkIndex_8e157_5 rfl rfl ?_
  refine zr_iclt_t (tgt := 16) dJ3_checkIndex_8e157_6 (by decide) h2 ?_
  refine zr_iload_n (x := i) dJ3_checkIndex_8e157_16 rfl rfl ?_
  exact zr_ret _ rfl dJ3_checkIndex_8e157_17
theorem zt_c_chk {g : zG} (hg : g.2.1.map (fun q => q.2) = zty) {i n : Int32} (h1 : ¬ i < 0) (h2 : i < n) (h : zH) : zCa g jJ0_checkIndex_df160 [zi i, zi n] h none h := by
  refine zCa.of hg (by decide +kernel) (Nat.le_of_ble_eq_true rfl) ?_
  refine zr_iload_n (x := i) dJ0_checkIndex_df160_0 rfl rfl ?_
  refine zr_iload_n (x := n) dJ0_checkIndex_df160_1 rfl rfl ?_
  have key : ∀ v : zV, zR g jJ0_checkIndex_df160 h 5 [some (zi i), some (zi n)] [v, zi n, zi i] h none h := by
    intro v
    refine zq_callS (J' := jJ3_checkIndex_8e157) (as := [zi i, zi n, v]) (rest := []) (r1 := some (zi i)) ks_29 ky_J3_checkIndex_8e157 ⟨by decide, by decide⟩ dJ0_checkIndex_df160_5 rfl (Nat.le_of_ble_eq_true rfl) rfl (zt_c_pre hg h1 h2 h) ?_
    refine zr_pop dJ0_checkIndex_df160_8 ?_
    exact zr_ret none trivial dJ0_checkIndex_df160_9
  exact zt_fmt rfl ks_24 dJ0_checkIndex_df160_2 (key _) (key _)
theorem zt_c_lat {g : zG} (hg : g.2.1.map (fun q => q.2) = zty) {k : Nat} (hk : k < 8) {i : Int32} (h1 : vp_in i (zSl.getD k 0)) (h : zH) : zCa g jJ1_charAt_3b067 [zs (16 + k), zi i] h (some (zi ((zSb.getD k []).getD i.toNatClampNeg 0))) h := by
  have hb : zSl.getD k 0 < 2 ^ 31 := by
    rcases (show k = 0 ∨ k = 1 ∨ k = 2 ∨ k = 3 ∨ k = 4 ∨ k = 5 ∨ k = 6 ∨ k = 7 by omega) with rfl | rfl | rfl | rfl | rfl | rfl | rfl | rfl <;> decide
  obtain ⟨j, hj, rfl⟩ := vp_in_of h1 hb
  rw [nI_clamp (by omega)]
  have hx : (((zSb.getD k []).getD j 0 &&& (255 : Int32)).toUInt32 % 65536).toInt32 = (zSb.getD k []).getD j 0 ∧ narrow .char (.int ((zSb.getD k []).getD j 0)) = .int ((zSb.getD k []).getD j 0) := by
    have hj7 : j < 7 := by
      have : zSl.getD k 0 ≤ 7 := by
        rcases (show k = 0 ∨ k = 1 ∨ k = 2 ∨ k = 3 ∨ k = 4 ∨ k = 5 ∨ k = 6 ∨ k = 7 by omega) with rfl | rfl | rfl | rfl | rfl | rfl | rfl | rfl <;> decide
      omega
    rcases (show k = 0 ∨ k = 1 ∨ k = 2 ∨ k = 3 ∨ k = 4 ∨ k = 5 ∨ k = 6 ∨ k = 7 by omega) with rfl | rfl | rfl | rfl | rfl | rfl | rfl | rfl <;> rcases (show j = 0 ∨ j = 1 ∨ j = 2 ∨ j = 3 ∨ j = 4 ∨ j = 5 ∨ j = 6 by omega) with rfl | rfl | rfl | rfl | rfl | rfl | rfl <;> decide
  refine zCa.of hg (by decide +kernel) (Nat.le_of_ble_eq_true rfl) ?_
  refine zr_iload_n (x := nI j) dJ1_charAt_3b067_0 rfl rfl ?_
  refine zr_aload_n (v := .inr (16 + k)) dJ1_charAt_3b067_1 rfl rfl ?_
  refine zt_len hk dJ1_charAt_3b067_2 ?_
  refine zq_callS (J' := jJ0_checkIndex_df160) (as := [zi (nI j), zi (nI (zSl.getD k 0))]) (rest := []) (r1 := none) ks_28 ky_J0_checkIndex_df160 ⟨by decide, by decide⟩ dJ1_charAt_3b067_3 rfl (Nat.le_of_ble_eq_true rfl) rfl (zt_c_chk hg (nI_pos (by omega)) (nI_lt hj (by omega)) h) ?_
  refine zr_aload_n (v := .inr (16 + k)) dJ1_charAt_3b067_6 rfl rfl ?_
  refine zr_iload_n (x := nI j) dJ1_charAt_3b067_7 rfl rfl ?_
  refine zt_ld hk h1 dJ1_charAt_3b067_8 ?_
  rw [nI_clamp (by omega)]
  refine zr_sipush (v := (255 : Int32)) dJ1_charAt_3b067_9 (by decide) ?_
  refine zr_iand dJ1_charAt_3b067_12 ?_
  refine zt_i2c dJ1_charAt_3b067_13 ?_
  rw [hx.1]
  exact zr_ret _ hx.2 dJ1_charAt_3b067_14
theorem zt_c_len {g : zG} (hg : g.2.1.map (fun q => q.2) = zty) {k : Nat} (hk : k < 8) (h : zH) : zCa g jJ0_length_8abf5 [zs k] h (some (zi (nI (zSl.getD k 0)))) h := by
  have hx : nI (zSl.getD k 0) >>> ((0 : Int32) &&& 31) = nI (zSl.getD k 0) := by
    rcases (show k = 0 ∨ k = 1 ∨ k = 2 ∨ k = 3 ∨ k = 4 ∨ k = 5 ∨ k = 6 ∨ k = 7 by omega) with rfl | rfl | rfl | rfl | rfl | rfl | rfl | rfl <;> decide
  refine zCa.of hg (by decide +kernel) (Nat.le_of_ble_eq_true rfl) ?_
  refine zr_aload_n (v := .inr k) dJ0_length_8abf5_0 rfl rfl ?_
  refine zt_value hk rfl ks_23 dJ0_length_8abf5_1 ?_
  refine zt_len hk dJ0_length_8abf5_4 ?_
  refine zr_aload_n (v := .inr k) dJ0_length_8abf5_5 rfl rfl ?_
  refine zt_call (J' := jJ0_coder_7d493) (as := []) (rest := [zi (nI (zSl.getD k 0))]) (r1 := some (zi 0)) hk rfl ks_25 ky_J0_coder_7d493 ⟨by decide, by decide⟩ dJ0_length_8abf5_6 rfl (Nat.le_of_ble_eq_true rfl) rfl (zt_c_coder hg hk h) ?_
  refine zr_ishr dJ0_length_8abf5_9 ?_
  rw [hx]
  exact zr_ret _ rfl dJ0_length_8abf5_10
theorem zt_c_at {g : zG} (hg : g.2.1.map (fun q => q.2) = zty) {k : Nat} (hk : k < 8) {i : Int32} (h1 : vp_in i (zSl.getD k 0)) (h : zH) : zCa g jJ0_charAt_5068e [zs k, zi i] h (some (zi ((zSb.getD k []).getD i.toNatClampNeg 0))) h := by
  have hl := zt_c_lat hg hk h1 h
  have hok : narrow .char (.int ((zSb.getD k []).getD i.toNatClampNeg 0)) = .int ((zSb.getD k []).getD i.toNatClampNeg 0) := by
    have hb : zSl.getD k 0 ≤ 7 := by
      rcases (show k = 0 ∨ k = 1 ∨ k = 2 ∨ k = 3 ∨ k = 4 ∨ k = 5 ∨ k = 6 ∨ k = 7 by omega) with rfl | rfl | rfl | rfl | rfl | rfl | rfl | rfl <;> decide
    obtain ⟨j, hj, rfl⟩ := vp_in_of h1 (by omega)
    rw [nI_clamp (by omega)]
    have hj7 : j < 7 := by omega
    rcases (show k = 0 ∨ k = 1 ∨ k = 2 ∨ k = 3 ∨ k = 4 ∨ k = 5 ∨ k = 6 ∨ k = 7 by omega) with rfl | rfl | rfl | rfl | rfl | rfl | rfl | rfl <;> rcases (show j = 0 ∨ j = 1 ∨ j = 2 ∨ j = 3 ∨ j = 4 ∨ j = 5 ∨ j = 6 by omega) with rfl | rfl | rfl | rfl | rfl | rfl | rfl <;> decide
  refine zCa.of hg (by decide +kernel) (Nat.le_of_ble_eq_true rfl) ?_
  refine zr_aload_n (v := .inr k) dJ0_charAt_5068e_0 rfl rfl ?_
  refine zt_call (J' := jJ0_isLatin1_aae02) (as := []) (rest := []) (r1 := some (zi 1)) hk rfl ks_26 ky_J0_isLatin1_aae02 ⟨by decide, by decide⟩ dJ0_charAt_5068e_1 rfl (Nat.le_of_ble_eq_true rfl) rfl (zt_c_isLatin1 hg hk h) ?_
  refine zr_ifeq_f 16 dJ0_charAt_5068e_4 (by decide) (by decide) ?_
  refine zr_aload_n (v := .inr k) dJ0_charAt_5068e_7 rfl rfl ?_
  refine zt_value hk rfl ks_23 dJ0_charAt_5068e_8 ?_
  refine zr_iload_n (x := i) dJ0_charAt_5068e_11 rfl rfl ?_
  refine zq_callS (J' := jJ1_charAt_3b067) (as := [zs (16 + k), zi i]) (rest := []) (r1 := some (zi ((zSb.getD k []).getD i.toNatClampNeg 0))) ks_27 ky_J1_charAt_3b067 ⟨by decide, by decide⟩ dJ0_charAt_5068e_12 rfl (Nat.le_of_ble_eq_true rfl) rfl hl ?_
  exact zr_ret _ hok dJ0_charAt_5068e_15
section zstr2
variable {g : zG} {J : zJ} {h0 : zH} {pc idx k : Nat} {L : List (Option zV)} {st : List zV} {h : zH} {r : Option zV} {h' : zH} {x i : Int32}
theorem zq_strlen (hg : g.2.1.map (fun q => q.2) = zty) (hl : Cond.methodLink J.1.cls idx yJ0_length_8abf5 ∈ zWd) (hf : zFits J jJ0_length_8abf5) (hs : st.length ≤ 8) (hd : decode J.2.1 pc = .ok (.invokevirtual idx, 3)) (hx : zstl k = some x) (kk : zR g J h0 (pc + 3) L (zi x :: st) h r h') : zR g J h0 pc L (zs k :: st) h r h' := by
  unfold zstl at hx
  split at hx
  · next hk =>
    cases hx
    exact zt_call (J' := jJ0_length_8abf5) (as := []) (rest := st) (r1 := some (zi (nI (zSl.getD k 0)))) hk rfl hl ky_J0_length_8abf5 hf hd rfl hs rfl (zt_c_len hg hk h) kk
  · cases hx
theorem zq_strat (hg : g.2.1.map (fun q => q.2) = zty) (hl : Cond.methodLink J.1.cls idx yJ0_charAt_5068e ∈ zWd) (hf : zFits J jJ0_charAt_5068e) (hs : st.length ≤ 8) (hd : decode J.2.1 pc = .ok (.invokevirtual idx, 3)) (hx : zstc k i = some x) (kk : zR g J h0 (pc + 3) L (zi x :: st) h r h') : zR g J h0 pc L (zi i :: zs k :: st) h r h' := by
  unfold zstc at hx
  split at hx
  · next hk =>
    cases hx
    exact zt_call (J' := jJ0_charAt_5068e) (as := [zi i]) (rest := st) (r1 := some (zi ((zSb.getD k []).getD i.toNatClampNeg 0))) hk.1 rfl hl ky_J0_charAt_5068e hf hd rfl hs rfl (zt_c_at hg hk.1 hk.2 h) kk
  · cases hx
end zstr2
end
