-- ===== PART A: goes FIRST, ahead of the names: the tables' words, and 'selects' of the private methods out of them =====
/-- a private method of a class that the tables say can be made, by its rows of tables_1 -/
def lw_okq (q : MethodName × Nat) : Prop := (q.1.cls ≠ "java/lang/invoke/MethodHandle" ∧ q.1.cls ≠ "java/lang/invoke/VarHandle") ∧ Cond.instantiable q.1.cls q.2 ∈ tables_1 ∧ Cond.privateMethod q.1 ∈ tables_1 ∧ Cond.instanceMethod q.1 ∈ tables_1
theorem lw_p0 : lw_okq (⟨"ArcheryField$Reader", "skipBlanks", "()V"⟩, 7) := ⟨⟨by decide +kernel, by decide +kernel⟩, List.mem_of_getElem? (i := 31) (by decide +kernel), List.mem_of_getElem? (i := 244) (by decide +kernel), List.mem_of_getElem? (i := 245) (by decide +kernel)⟩
theorem lw_p1 : lw_okq (⟨"ArcheryField$Reader", "readStatement", "()Z"⟩, 7) := ⟨⟨by decide +kernel, by decide +kernel⟩, List.mem_of_getElem? (i := 31) (by decide +kernel), List.mem_of_getElem? (i := 255) (by decide +kernel), List.mem_of_getElem? (i := 256) (by decide +kernel)⟩
theorem lw_p2 : lw_okq (⟨"ArcheryField$Reader", "skipLetters", "()V"⟩, 7) := ⟨⟨by decide +kernel, by decide +kernel⟩, List.mem_of_getElem? (i := 31) (by decide +kernel), List.mem_of_getElem? (i := 259) (by decide +kernel), List.mem_of_getElem? (i := 260) (by decide +kernel)⟩
theorem lw_p3 : lw_okq (⟨"ArcheryField$Reader", "isSpelt", "(ILjava/lang/String;)Z"⟩, 7) := ⟨⟨by decide +kernel, by decide +kernel⟩, List.mem_of_getElem? (i := 31) (by decide +kernel), List.mem_of_getElem? (i := 267) (by decide +kernel), List.mem_of_getElem? (i := 268) (by decide +kernel)⟩
theorem lw_p4 : lw_okq (⟨"ArcheryField$Reader", "readFace", "(I)Z"⟩, 7) := ⟨⟨by decide +kernel, by decide +kernel⟩, List.mem_of_getElem? (i := 31) (by decide +kernel), List.mem_of_getElem? (i := 319) (by decide +kernel), List.mem_of_getElem? (i := 320) (by decide +kernel)⟩
theorem lw_p5 : lw_okq (⟨"ArcheryField$Reader", "refuse", "(II)Z"⟩, 7) := ⟨⟨by decide +kernel, by decide +kernel⟩, List.mem_of_getElem? (i := 31) (by decide +kernel), List.mem_of_getElem? (i := 327) (by decide +kernel), List.mem_of_getElem? (i := 328) (by decide +kernel)⟩
theorem lw_p6 : lw_okq (⟨"ArcheryField$Reader", "isDigitNext", "()Z"⟩, 7) := ⟨⟨by decide +kernel, by decide +kernel⟩, List.mem_of_getElem? (i := 31) (by decide +kernel), List.mem_of_getElem? (i := 331) (by decide +kernel), List.mem_of_getElem? (i := 332) (by decide +kernel)⟩
theorem lw_p7 : lw_okq (⟨"ArcheryField$Reader", "readNumber", "(II)Z"⟩, 7) := ⟨⟨by decide +kernel, by decide +kernel⟩, List.mem_of_getElem? (i := 31) (by decide +kernel), List.mem_of_getElem? (i := 338) (by decide +kernel), List.mem_of_getElem? (i := 339) (by decide +kernel)⟩
theorem lw_p8 : lw_okq (⟨"ArcheryField$Reader", "readSign", "(C)Z"⟩, 7) := ⟨⟨by decide +kernel, by decide +kernel⟩, List.mem_of_getElem? (i := 31) (by decide +kernel), List.mem_of_getElem? (i := 342) (by decide +kernel), List.mem_of_getElem? (i := 343) (by decide +kernel)⟩
theorem lw_p9 : lw_okq (⟨"ArcheryField$Reader", "readLeg", "(I)Z"⟩, 7) := ⟨⟨by decide +kernel, by decide +kernel⟩, List.mem_of_getElem? (i := 31) (by decide +kernel), List.mem_of_getElem? (i := 351) (by decide +kernel), List.mem_of_getElem? (i := 352) (by decide +kernel)⟩
theorem lw_p10 : lw_okq (⟨"ArcheryField$Reader", "mayTie", "(I)Z"⟩, 7) := ⟨⟨by decide +kernel, by decide +kernel⟩, List.mem_of_getElem? (i := 31) (by decide +kernel), List.mem_of_getElem? (i := 361) (by decide +kernel), List.mem_of_getElem? (i := 362) (by decide +kernel)⟩
theorem lw_p11 : lw_okq (⟨"ArcheryField$Reader", "readOnce", "(III)Z"⟩, 7) := ⟨⟨by decide +kernel, by decide +kernel⟩, List.mem_of_getElem? (i := 31) (by decide +kernel), List.mem_of_getElem? (i := 377) (by decide +kernel), List.mem_of_getElem? (i := 378) (by decide +kernel)⟩
theorem lw_p12 : lw_okq (⟨"ArcheryField", "change", "()LArcheryField$State;"⟩, 6) := ⟨⟨by decide +kernel, by decide +kernel⟩, List.mem_of_getElem? (i := 23) (by decide +kernel), List.mem_of_getElem? (i := 391) (by decide +kernel), List.mem_of_getElem? (i := 392) (by decide +kernel)⟩
theorem lw_p13 : lw_okq (⟨"ArcheryField$Quiver", "judgeOne", "(LArcheryField$Round;II)I"⟩, 5) := ⟨⟨by decide +kernel, by decide +kernel⟩, List.mem_of_getElem? (i := 120) (by decide +kernel), List.mem_of_getElem? (i := 588) (by decide +kernel), List.mem_of_getElem? (i := 589) (by decide +kernel)⟩
theorem lw_p14 : lw_okq (⟨"ArcheryField$Quiver", "judgeIn", "(II)I"⟩, 5) := ⟨⟨by decide +kernel, by decide +kernel⟩, List.mem_of_getElem? (i := 120) (by decide +kernel), List.mem_of_getElem? (i := 597) (by decide +kernel), List.mem_of_getElem? (i := 598) (by decide +kernel)⟩
theorem lw_p15 : lw_okq (⟨"ArcheryField$Scores", "standsFor", "(III)Z"⟩, 1) := ⟨⟨by decide +kernel, by decide +kernel⟩, List.mem_of_getElem? (i := 489) (by decide +kernel), List.mem_of_getElem? (i := 753) (by decide +kernel), List.mem_of_getElem? (i := 754) (by decide +kernel)⟩
def lw_privs_1 : List (MethodName × Nat) := [(⟨"ArcheryField$Reader", "skipBlanks", "()V"⟩, 7), (⟨"ArcheryField$Reader", "readStatement", "()Z"⟩, 7), (⟨"ArcheryField$Reader", "skipLetters", "()V"⟩, 7), (⟨"ArcheryField$Reader", "isSpelt", "(ILjava/lang/String;)Z"⟩, 7), (⟨"ArcheryField$Reader", "readFace", "(I)Z"⟩, 7), (⟨"ArcheryField$Reader", "refuse", "(II)Z"⟩, 7), (⟨"ArcheryField$Reader", "isDigitNext", "()Z"⟩, 7), (⟨"ArcheryField$Reader", "readNumber", "(II)Z"⟩, 7), (⟨"ArcheryField$Reader", "readSign", "(C)Z"⟩, 7), (⟨"ArcheryField$Reader", "readLeg", "(I)Z"⟩, 7), (⟨"ArcheryField$Reader", "mayTie", "(I)Z"⟩, 7), (⟨"ArcheryField$Reader", "readOnce", "(III)Z"⟩, 7), (⟨"ArcheryField", "change", "()LArcheryField$State;"⟩, 6), (⟨"ArcheryField$Quiver", "judgeOne", "(LArcheryField$Round;II)I"⟩, 5), (⟨"ArcheryField$Quiver", "judgeIn", "(II)I"⟩, 5), (⟨"ArcheryField$Scores", "standsFor", "(III)Z"⟩, 1)]
theorem lw_r1 : ∀ q ∈ lw_privs_1, lw_okq q := List.forall_mem_cons.mpr ⟨lw_p0, List.forall_mem_cons.mpr ⟨lw_p1, List.forall_mem_cons.mpr ⟨lw_p2, List.forall_mem_cons.mpr ⟨lw_p3, List.forall_mem_cons.mpr ⟨lw_p4, List.forall_mem_cons.mpr ⟨lw_p5, List.forall_mem_cons.mpr ⟨lw_p6, List.forall_mem_cons.mpr ⟨lw_p7, List.forall_mem_cons.mpr ⟨lw_p8, List.forall_mem_cons.mpr ⟨lw_p9, List.forall_mem_cons.mpr ⟨lw_p10, List.forall_mem_cons.mpr ⟨lw_p11, List.forall_mem_cons.mpr ⟨lw_p12, List.forall_mem_cons.mpr ⟨lw_p13, List.forall_mem_cons.mpr ⟨lw_p14, List.forall_mem_cons.mpr ⟨lw_p15, fun _ h => absurd h List.not_mem_nil⟩⟩⟩⟩⟩⟩⟩⟩⟩⟩⟩⟩⟩⟩⟩⟩
theorem lw_p16 : lw_okq (⟨"ArcheryField$Planner", "nextPlace", "(II)I"⟩, 7) := ⟨⟨by decide +kernel, by decide +kernel⟩, List.mem_of_getElem? (i := 787) (by decide +kernel), List.mem_of_getElem? (i := 824) (by decide +kernel), List.mem_of_getElem? (i := 825) (by decide +kernel)⟩
theorem lw_p17 : lw_okq (⟨"ArcheryField$Planner", "isParted", "(II)Z"⟩, 7) := ⟨⟨by decide +kernel, by decide +kernel⟩, List.mem_of_getElem? (i := 787) (by decide +kernel), List.mem_of_getElem? (i := 828) (by decide +kernel), List.mem_of_getElem? (i := 829) (by decide +kernel)⟩
theorem lw_p18 : lw_okq (⟨"ArcheryField$Planner", "clubOn", "(I)I"⟩, 7) := ⟨⟨by decide +kernel, by decide +kernel⟩, List.mem_of_getElem? (i := 787) (by decide +kernel), List.mem_of_getElem? (i := 832) (by decide +kernel), List.mem_of_getElem? (i := 833) (by decide +kernel)⟩
theorem lw_p19 : lw_okq (⟨"ArcheryField$Planner", "put", "(II)V"⟩, 7) := ⟨⟨by decide +kernel, by decide +kernel⟩, List.mem_of_getElem? (i := 787) (by decide +kernel), List.mem_of_getElem? (i := 836) (by decide +kernel), List.mem_of_getElem? (i := 837) (by decide +kernel)⟩
theorem lw_p20 : lw_okq (⟨"ArcheryField$Planner", "lift", "(I)V"⟩, 7) := ⟨⟨by decide +kernel, by decide +kernel⟩, List.mem_of_getElem? (i := 787) (by decide +kernel), List.mem_of_getElem? (i := 840) (by decide +kernel), List.mem_of_getElem? (i := 841) (by decide +kernel)⟩
theorem lw_p21 : lw_okq (⟨"ArcheryField$Line", "isAnyOfBay", "(II)Z"⟩, 3) := ⟨⟨by decide +kernel, by decide +kernel⟩, List.mem_of_getElem? (i := 166) (by decide +kernel), List.mem_of_getElem? (i := 868) (by decide +kernel), List.mem_of_getElem? (i := 869) (by decide +kernel)⟩
theorem lw_p22 : lw_okq (⟨"ArcheryFieldModel", "next", "()V"⟩, 31) := ⟨⟨by decide +kernel, by decide +kernel⟩, List.mem_of_getElem? (i := 885) (by decide +kernel), List.mem_of_getElem? (i := 1004) (by decide +kernel), List.mem_of_getElem? (i := 1005) (by decide +kernel)⟩
theorem lw_p23 : lw_okq (⟨"ArcheryFieldModel", "statement", "()V"⟩, 31) := ⟨⟨by decide +kernel, by decide +kernel⟩, List.mem_of_getElem? (i := 885) (by decide +kernel), List.mem_of_getElem? (i := 1014) (by decide +kernel), List.mem_of_getElem? (i := 1015) (by decide +kernel)⟩
theorem lw_p24 : lw_okq (⟨"ArcheryFieldModel", "fail", "(II)V"⟩, 31) := ⟨⟨by decide +kernel, by decide +kernel⟩, List.mem_of_getElem? (i := 885) (by decide +kernel), List.mem_of_getElem? (i := 1018) (by decide +kernel), List.mem_of_getElem? (i := 1019) (by decide +kernel)⟩
theorem lw_p25 : lw_okq (⟨"ArcheryFieldModel", "isWord", "([C)Z"⟩, 31) := ⟨⟨by decide +kernel, by decide +kernel⟩, List.mem_of_getElem? (i := 885) (by decide +kernel), List.mem_of_getElem? (i := 1022) (by decide +kernel), List.mem_of_getElem? (i := 1023) (by decide +kernel)⟩
theorem lw_p26 : lw_okq (⟨"ArcheryFieldModel", "face", "()V"⟩, 31) := ⟨⟨by decide +kernel, by decide +kernel⟩, List.mem_of_getElem? (i := 885) (by decide +kernel), List.mem_of_getElem? (i := 1026) (by decide +kernel), List.mem_of_getElem? (i := 1027) (by decide +kernel)⟩
theorem lw_p27 : lw_okq (⟨"ArcheryFieldModel", "sign", "(I)V"⟩, 31) := ⟨⟨by decide +kernel, by decide +kernel⟩, List.mem_of_getElem? (i := 885) (by decide +kernel), List.mem_of_getElem? (i := 1030) (by decide +kernel), List.mem_of_getElem? (i := 1031) (by decide +kernel)⟩
theorem lw_p28 : lw_okq (⟨"ArcheryFieldModel", "numberOf", "(II)I"⟩, 31) := ⟨⟨by decide +kernel, by decide +kernel⟩, List.mem_of_getElem? (i := 885) (by decide +kernel), List.mem_of_getElem? (i := 1034) (by decide +kernel), List.mem_of_getElem? (i := 1035) (by decide +kernel)⟩
theorem lw_p29 : lw_okq (⟨"ArcheryFieldModel", "leg", "()V"⟩, 31) := ⟨⟨by decide +kernel, by decide +kernel⟩, List.mem_of_getElem? (i := 885) (by decide +kernel), List.mem_of_getElem? (i := 1038) (by decide +kernel), List.mem_of_getElem? (i := 1039) (by decide +kernel)⟩
theorem lw_p30 : lw_okq (⟨"ArcheryFieldModel", "tie", "(I)V"⟩, 31) := ⟨⟨by decide +kernel, by decide +kernel⟩, List.mem_of_getElem? (i := 885) (by decide +kernel), List.mem_of_getElem? (i := 1043) (by decide +kernel), List.mem_of_getElem? (i := 1044) (by decide +kernel)⟩
theorem lw_p31 : lw_okq (⟨"ArcheryFieldModel", "once", "(III)V"⟩, 31) := ⟨⟨by decide +kernel, by decide +kernel⟩, List.mem_of_getElem? (i := 885) (by decide +kernel), List.mem_of_getElem? (i := 1047) (by decide +kernel), List.mem_of_getElem? (i := 1048) (by decide +kernel)⟩
def lw_privs_2 : List (MethodName × Nat) := [(⟨"ArcheryField$Planner", "nextPlace", "(II)I"⟩, 7), (⟨"ArcheryField$Planner", "isParted", "(II)Z"⟩, 7), (⟨"ArcheryField$Planner", "clubOn", "(I)I"⟩, 7), (⟨"ArcheryField$Planner", "put", "(II)V"⟩, 7), (⟨"ArcheryField$Planner", "lift", "(I)V"⟩, 7), (⟨"ArcheryField$Line", "isAnyOfBay", "(II)Z"⟩, 3), (⟨"ArcheryFieldModel", "next", "()V"⟩, 31), (⟨"ArcheryFieldModel", "statement", "()V"⟩, 31), (⟨"ArcheryFieldModel", "fail", "(II)V"⟩, 31), (⟨"ArcheryFieldModel", "isWord", "([C)Z"⟩, 31), (⟨"ArcheryFieldModel", "face", "()V"⟩, 31), (⟨"ArcheryFieldModel", "sign", "(I)V"⟩, 31), (⟨"ArcheryFieldModel", "numberOf", "(II)I"⟩, 31), (⟨"ArcheryFieldModel", "leg", "()V"⟩, 31), (⟨"ArcheryFieldModel", "tie", "(I)V"⟩, 31), (⟨"ArcheryFieldModel", "once", "(III)V"⟩, 31)]
theorem lw_r2 : ∀ q ∈ lw_privs_2, lw_okq q := List.forall_mem_cons.mpr ⟨lw_p16, List.forall_mem_cons.mpr ⟨lw_p17, List.forall_mem_cons.mpr ⟨lw_p18, List.forall_mem_cons.mpr ⟨lw_p19, List.forall_mem_cons.mpr ⟨lw_p20, List.forall_mem_cons.mpr ⟨lw_p21, List.forall_mem_cons.mpr ⟨lw_p22, List.forall_mem_cons.mpr ⟨lw_p23, List.forall_mem_cons.mpr ⟨lw_p24, List.forall_mem_cons.mpr ⟨lw_p25, List.forall_mem_cons.mpr ⟨lw_p26, List.forall_mem_cons.mpr ⟨lw_p27, List.forall_mem_cons.mpr ⟨lw_p28, List.forall_mem_cons.mpr ⟨lw_p29, List.forall_mem_cons.mpr ⟨lw_p30, List.forall_mem_cons.mpr ⟨lw_p31, fun _ h => absurd h List.not_mem_nil⟩⟩⟩⟩⟩⟩⟩⟩⟩⟩⟩⟩⟩⟩⟩⟩
theorem lw_p32 : lw_okq (⟨"ArcheryFieldModel", "keeps", "()V"⟩, 31) := ⟨⟨by decide +kernel, by decide +kernel⟩, List.mem_of_getElem? (i := 885) (by decide +kernel), List.mem_of_getElem? (i := 1051) (by decide +kernel), List.mem_of_getElem? (i := 1052) (by decide +kernel)⟩
theorem lw_p33 : lw_okq (⟨"ArcheryFieldModel", "isArcher", "(I)Z"⟩, 31) := ⟨⟨by decide +kernel, by decide +kernel⟩, List.mem_of_getElem? (i := 885) (by decide +kernel), List.mem_of_getElem? (i := 1072) (by decide +kernel), List.mem_of_getElem? (i := 1073) (by decide +kernel)⟩
theorem lw_p34 : lw_okq (⟨"ArcheryFieldModel", "total", "(I)I"⟩, 31) := ⟨⟨by decide +kernel, by decide +kernel⟩, List.mem_of_getElem? (i := 885) (by decide +kernel), List.mem_of_getElem? (i := 1080) (by decide +kernel), List.mem_of_getElem? (i := 1081) (by decide +kernel)⟩
theorem lw_p35 : lw_okq (⟨"ArcheryFieldModel", "arrowsOf", "(I)I"⟩, 31) := ⟨⟨by decide +kernel, by decide +kernel⟩, List.mem_of_getElem? (i := 885) (by decide +kernel), List.mem_of_getElem? (i := 1084) (by decide +kernel), List.mem_of_getElem? (i := 1085) (by decide +kernel)⟩
theorem lw_p36 : lw_okq (⟨"ArcheryFieldModel", "legOf", "(I)I"⟩, 31) := ⟨⟨by decide +kernel, by decide +kernel⟩, List.mem_of_getElem? (i := 885) (by decide +kernel), List.mem_of_getElem? (i := 1088) (by decide +kernel), List.mem_of_getElem? (i := 1089) (by decide +kernel)⟩
theorem lw_p37 : lw_okq (⟨"ArcheryFieldModel", "sum", "(III)I"⟩, 31) := ⟨⟨by decide +kernel, by decide +kernel⟩, List.mem_of_getElem? (i := 885) (by decide +kernel), List.mem_of_getElem? (i := 1092) (by decide +kernel), List.mem_of_getElem? (i := 1093) (by decide +kernel)⟩
theorem lw_p38 : lw_okq (⟨"ArcheryFieldModel", "lastEnd", "(I)I"⟩, 31) := ⟨⟨by decide +kernel, by decide +kernel⟩, List.mem_of_getElem? (i := 885) (by decide +kernel), List.mem_of_getElem? (i := 1096) (by decide +kernel), List.mem_of_getElem? (i := 1097) (by decide +kernel)⟩
theorem lw_p39 : lw_okq (⟨"ArcheryFieldModel", "hit", "(III)I"⟩, 31) := ⟨⟨by decide +kernel, by decide +kernel⟩, List.mem_of_getElem? (i := 885) (by decide +kernel), List.mem_of_getElem? (i := 1111) (by decide +kernel), List.mem_of_getElem? (i := 1112) (by decide +kernel)⟩
theorem lw_p40 : lw_okq (⟨"ArcheryFieldModel", "most", "(II)I"⟩, 31) := ⟨⟨by decide +kernel, by decide +kernel⟩, List.mem_of_getElem? (i := 885) (by decide +kernel), List.mem_of_getElem? (i := 1135) (by decide +kernel), List.mem_of_getElem? (i := 1136) (by decide +kernel)⟩
theorem lw_p41 : lw_okq (⟨"ArcheryFieldModel", "square", "(II)I"⟩, 31) := ⟨⟨by decide +kernel, by decide +kernel⟩, List.mem_of_getElem? (i := 885) (by decide +kernel), List.mem_of_getElem? (i := 1139) (by decide +kernel), List.mem_of_getElem? (i := 1140) (by decide +kernel)⟩
theorem lw_p42 : lw_okq (⟨"ArcheryFieldModel", "isFree", "(I)Z"⟩, 31) := ⟨⟨by decide +kernel, by decide +kernel⟩, List.mem_of_getElem? (i := 885) (by decide +kernel), List.mem_of_getElem? (i := 1180) (by decide +kernel), List.mem_of_getElem? (i := 1181) (by decide +kernel)⟩
theorem lw_p43 : lw_okq (⟨"ArcheryFieldModel", "isParted", "(I)Z"⟩, 31) := ⟨⟨by decide +kernel, by decide +kernel⟩, List.mem_of_getElem? (i := 885) (by decide +kernel), List.mem_of_getElem? (i := 1184) (by decide +kernel), List.mem_of_getElem? (i := 1185) (by decide +kernel)⟩
def lw_privs_3 : List (MethodName × Nat) := [(⟨"ArcheryFieldModel", "keeps", "()V"⟩, 31), (⟨"ArcheryFieldModel", "isArcher", "(I)Z"⟩, 31), (⟨"ArcheryFieldModel", "total", "(I)I"⟩, 31), (⟨"ArcheryFieldModel", "arrowsOf", "(I)I"⟩, 31), (⟨"ArcheryFieldModel", "legOf", "(I)I"⟩, 31), (⟨"ArcheryFieldModel", "sum", "(III)I"⟩, 31), (⟨"ArcheryFieldModel", "lastEnd", "(I)I"⟩, 31), (⟨"ArcheryFieldModel", "hit", "(III)I"⟩, 31), (⟨"ArcheryFieldModel", "most", "(II)I"⟩, 31), (⟨"ArcheryFieldModel", "square", "(II)I"⟩, 31), (⟨"ArcheryFieldModel", "isFree", "(I)Z"⟩, 31), (⟨"ArcheryFieldModel", "isParted", "(I)Z"⟩, 31)]
theorem lw_r3 : ∀ q ∈ lw_privs_3, lw_okq q := List.forall_mem_cons.mpr ⟨lw_p32, List.forall_mem_cons.mpr ⟨lw_p33, List.forall_mem_cons.mpr ⟨lw_p34, List.forall_mem_cons.mpr ⟨lw_p35, List.forall_mem_cons.mpr ⟨lw_p36, List.forall_mem_cons.mpr ⟨lw_p37, List.forall_mem_cons.mpr ⟨lw_p38, List.forall_mem_cons.mpr ⟨lw_p39, List.forall_mem_cons.mpr ⟨lw_p40, List.forall_mem_cons.mpr ⟨lw_p41, List.forall_mem_cons.mpr ⟨lw_p42, List.forall_mem_cons.mpr ⟨lw_p43, fun _ h => absurd h List.not_mem_nil⟩⟩⟩⟩⟩⟩⟩⟩⟩⟩⟩⟩
def lw_privs : List (MethodName × Nat) := lw_privs_1 ++ (lw_privs_2 ++ (lw_privs_3))
def lw_tbl : List Cond := k2_sels lw_privs ++ tables_1
theorem lw_privs_ok : ∀ q ∈ lw_privs, lw_okq q := by
  show ∀ q ∈ lw_privs_1 ++ (lw_privs_2 ++ (lw_privs_3)), lw_okq q
  exact List.forall_mem_append.mpr ⟨lw_r1, List.forall_mem_append.mpr ⟨lw_r2, lw_r3⟩⟩
def RX0 : String := "ArcheryField$Archer"
def TX0 : u_T := fun k => match k with
  | 0 => ("ArcheryField$Archer", "club", "I", true)
  | 1 => ("ArcheryField$Archer", "shots", "LArcheryField$Shots;", true)
  | _ => ("ArcheryField$Archer", "scores", "LArcheryField$Scores;", true)
def tyX0 : Nat → FieldType := fun k => match k with
  | 0 => .int
  | 1 => .object "ArcheryField$Shots"
  | _ => .object "ArcheryField$Scores"
abbrev wsX00 : List Cond := u_ws RX0 TX0 3
theorem nmX0 : ∀ a, a < 3 → ∀ b, b < 3 → a ≠ b → (TX0 a).2.1 ≠ (TX0 b).2.1 := by decide +kernel
theorem tyX0_ok : ∀ k, k < 3 → parseFieldDescriptor (TX0 k).2.2.1 = some (tyX0 k) := by decide +kernel
abbrev cX0_init : ByteArray := prog_2_method_1_code
def yX0_init : MethodName := ⟨RX0, "<init>", "(ILArcheryField$Shots;LArcheryField$Scores;)V"⟩
abbrev cX0_with : ByteArray := prog_2_method_2_code
def yX0_with : MethodName := ⟨RX0, "with", "(LArcheryField$Shots;)LArcheryField$Archer;"⟩
abbrev cX0_with_ : ByteArray := prog_2_method_3_code
def yX0_with_ : MethodName := ⟨RX0, "with", "(LArcheryField$Scores;)LArcheryField$Archer;"⟩
def RX1 : String := "ArcheryField$Laws"
def TX1 : u_T := fun k => match k with
  | _ => ("ArcheryField$Laws", "rows", "[I", true)
def tyX1 : Nat → FieldType := fun k => match k with
  | _ => .array .int
abbrev wsX10 : List Cond := u_ws RX1 TX1 1
theorem nmX1 : ∀ a, a < 1 → ∀ b, b < 1 → a ≠ b → (TX1 a).2.1 ≠ (TX1 b).2.1 := by decide +kernel
theorem tyX1_ok : ∀ k, k < 1 → parseFieldDescriptor (TX1 k).2.2.1 = some (tyX1 k) := by decide +kernel
abbrev cX1_init : ByteArray := prog_3_method_1_code
def yX1_init : MethodName := ⟨RX1, "<init>", "()V"⟩
abbrev cX1_init_ : ByteArray := prog_3_method_2_code
def yX1_init_ : MethodName := ⟨RX1, "<init>", "([I)V"⟩
abbrev cX1_count : ByteArray := prog_3_method_3_code
def yX1_count : MethodName := ⟨RX1, "count", "()I"⟩
abbrev cX1_canAdd : ByteArray := prog_3_method_4_code
def yX1_canAdd : MethodName := ⟨RX1, "canAdd", "(II)Z"⟩
abbrev cX1_with : ByteArray := prog_3_method_5_code
def yX1_with : MethodName := ⟨RX1, "with", "(III)LArcheryField$Laws;"⟩
abbrev cX1_classOf : ByteArray := prog_3_method_6_code
def yX1_classOf : MethodName := ⟨RX1, "classOf", "(LArcheryField$Scores;II)I"⟩
def RX2 : String := "ArcheryField$Line"
def TX2 : u_T := fun k => match k with
  | 0 => ("ArcheryField$Line", "bays", "[I", true)
  | 1 => ("ArcheryField$Line", "states", "[I", true)
  | _ => ("ArcheryField$Line", "seats", "[I", true)
def tyX2 : Nat → FieldType := fun k => match k with
  | 0 => .array .int
  | 1 => .array .int
  | _ => .array .int
abbrev wsX20 : List Cond := u_ws RX2 TX2 3
theorem nmX2 : ∀ a, a < 3 → ∀ b, b < 3 → a ≠ b → (TX2 a).2.1 ≠ (TX2 b).2.1 := by decide +kernel
theorem tyX2_ok : ∀ k, k < 3 → parseFieldDescriptor (TX2 k).2.2.1 = some (tyX2 k) := by decide +kernel
abbrev cX2_init : ByteArray := prog_4_method_1_code
def yX2_init : MethodName := ⟨RX2, "<init>", "()V"⟩
abbrev cX2_init_ : ByteArray := prog_4_method_2_code
def yX2_init_ : MethodName := ⟨RX2, "<init>", "([I[I[I)V"⟩
abbrev cX2_countLanes : ByteArray := prog_4_method_3_code
def yX2_countLanes : MethodName := ⟨RX2, "countLanes", "()I"⟩
abbrev cX2_countPlaces : ByteArray := prog_4_method_4_code
def yX2_countPlaces : MethodName := ⟨RX2, "countPlaces", "()I"⟩
abbrev cX2_canAdd : ByteArray := prog_4_method_5_code
def yX2_canAdd : MethodName := ⟨RX2, "canAdd", "(I)Z"⟩
abbrev cX2_withBay : ByteArray := prog_4_method_6_code
def yX2_withBay : MethodName := ⟨RX2, "withBay", "(I)LArcheryField$Line;"⟩
abbrev cX2_withSeats : ByteArray := prog_4_method_7_code
def yX2_withSeats : MethodName := ⟨RX2, "withSeats", "([I)LArcheryField$Line;"⟩
abbrev cX2_without : ByteArray := prog_4_method_8_code
def yX2_without : MethodName := ⟨RX2, "without", "(I)LArcheryField$Line;"⟩
abbrev cX2_placeOf : ByteArray := prog_4_method_9_code
def yX2_placeOf : MethodName := ⟨RX2, "placeOf", "(I)I"⟩
abbrev cX2_seatedOn : ByteArray := prog_4_method_10_code
def yX2_seatedOn : MethodName := ⟨RX2, "seatedOn", "(I)I"⟩
abbrev cX2_stateOf : ByteArray := prog_4_method_11_code
def yX2_stateOf : MethodName := ⟨RX2, "stateOf", "(I)I"⟩
abbrev cX2_mayBecome : ByteArray := prog_4_method_12_code
def yX2_mayBecome : MethodName := ⟨RX2, "mayBecome", "(II)Z"⟩
abbrev cX2_isAnyOfBay : ByteArray := prog_4_method_13_code
def yX2_isAnyOfBay : MethodName := ⟨RX2, "isAnyOfBay", "(II)Z"⟩
abbrev cX2_withState : ByteArray := prog_4_method_14_code
def yX2_withState : MethodName := ⟨RX2, "withState", "(II)LArcheryField$Line;"⟩
def RX3 : String := "ArcheryField$Planner"
def TX3 : u_T := fun k => match k with
  | 0 => ("ArcheryField$Planner", "numbers", "[I", true)
  | 1 => ("ArcheryField$Planner", "clubs", "[I", true)
  | 2 => ("ArcheryField$Planner", "placed", "[I", true)
  | 3 => ("ArcheryField$Planner", "archers", "I", false)
  | 4 => ("ArcheryField$Planner", "seats", "[I", true)
  | 5 => ("ArcheryField$Planner", "seatClubs", "[I", true)
  | _ => ("ArcheryField$Planner", "tries", "I", false)
def tyX3 : Nat → FieldType := fun k => match k with
  | 0 => .array .int
  | 1 => .array .int
  | 2 => .array .int
  | 3 => .int
  | 4 => .array .int
  | 5 => .array .int
  | _ => .int
abbrev wsX30 : List Cond := u_ws RX3 TX3 7
theorem nmX3 : ∀ a, a < 7 → ∀ b, b < 7 → a ≠ b → (TX3 a).2.1 ≠ (TX3 b).2.1 := by decide +kernel
theorem tyX3_ok : ∀ k, k < 7 → parseFieldDescriptor (TX3 k).2.2.1 = some (tyX3 k) := by decide +kernel
abbrev cX3_init : ByteArray := prog_5_method_1_code
def yX3_init : MethodName := ⟨RX3, "<init>", "(LArcheryField$State;I)V"⟩
abbrev cX3_search : ByteArray := prog_5_method_2_code
def yX3_search : MethodName := ⟨RX3, "search", "()I"⟩
abbrev cX3_nextPlace : ByteArray := prog_5_method_3_code
def yX3_nextPlace : MethodName := ⟨RX3, "nextPlace", "(II)I"⟩
abbrev cX3_isParted : ByteArray := prog_5_method_4_code
def yX3_isParted : MethodName := ⟨RX3, "isParted", "(II)Z"⟩
abbrev cX3_clubOn : ByteArray := prog_5_method_5_code
def yX3_clubOn : MethodName := ⟨RX3, "clubOn", "(I)I"⟩
abbrev cX3_put : ByteArray := prog_5_method_6_code
def yX3_put : MethodName := ⟨RX3, "put", "(II)V"⟩
abbrev cX3_lift : ByteArray := prog_5_method_7_code
def yX3_lift : MethodName := ⟨RX3, "lift", "(I)V"⟩
def RX4 : String := "ArcheryField$Quiver"
def TX4 : u_T := fun k => match k with
  | 0 => ("ArcheryField$Quiver", "kinds", "[I", true)
  | 1 => ("ArcheryField$Quiver", "xs", "[I", true)
  | 2 => ("ArcheryField$Quiver", "ys", "[I", true)
  | 3 => ("ArcheryField$Quiver", "count", "I", false)
  | _ => ("ArcheryField$Quiver", "judged", "[I", true)
def tyX4 : Nat → FieldType := fun k => match k with
  | 0 => .array .int
  | 1 => .array .int
  | 2 => .array .int
  | 3 => .int
  | _ => .array .int
abbrev wsX40 : List Cond := u_ws RX4 TX4 5
theorem nmX4 : ∀ a, a < 5 → ∀ b, b < 5 → a ≠ b → (TX4 a).2.1 ≠ (TX4 b).2.1 := by decide +kernel
theorem tyX4_ok : ∀ k, k < 5 → parseFieldDescriptor (TX4 k).2.2.1 = some (tyX4 k) := by decide +kernel
abbrev cX4_init : ByteArray := prog_6_method_1_code
def yX4_init : MethodName := ⟨RX4, "<init>", "()V"⟩
abbrev cX4_add : ByteArray := prog_6_method_2_code
def yX4_add : MethodName := ⟨RX4, "add", "(III)Z"⟩
abbrev cX4_canBe : ByteArray := prog_6_method_3_code
def yX4_canBe : MethodName := ⟨RX4, "canBe", "(III)Z"⟩
abbrev cX4_empty : ByteArray := prog_6_method_4_code
def yX4_empty : MethodName := ⟨RX4, "empty", "()I"⟩
abbrev cX4_judge : ByteArray := prog_6_method_5_code
def yX4_judge : MethodName := ⟨RX4, "judge", "(LArcheryField$Round;II)I"⟩
abbrev cX4_judgeOne : ByteArray := prog_6_method_6_code
def yX4_judgeOne : MethodName := ⟨RX4, "judgeOne", "(LArcheryField$Round;II)I"⟩
abbrev cX4_judgeIn : ByteArray := prog_6_method_7_code
def yX4_judgeIn : MethodName := ⟨RX4, "judgeIn", "(II)I"⟩
def RX5 : String := "ArcheryField$Reader"
def TX5 : u_T := fun k => match k with
  | 0 => ("ArcheryField$Reader", "tape", "LArcheryField$Tape;", true)
  | 1 => ("ArcheryField$Reader", "draft", "LArcheryField$Round;", false)
  | 2 => ("ArcheryField$Reader", "at", "I", false)
  | 3 => ("ArcheryField$Reader", "number", "I", false)
  | 4 => ("ArcheryField$Reader", "numberPlace", "I", false)
  | 5 => ("ArcheryField$Reader", "fault", "I", false)
  | _ => ("ArcheryField$Reader", "place", "I", false)
def tyX5 : Nat → FieldType := fun k => match k with
  | 0 => .object "ArcheryField$Tape"
  | 1 => .object "ArcheryField$Round"
  | 2 => .int
  | 3 => .int
  | 4 => .int
  | 5 => .int
  | _ => .int
abbrev wsX50 : List Cond := u_ws RX5 TX5 7
theorem nmX5 : ∀ a, a < 7 → ∀ b, b < 7 → a ≠ b → (TX5 a).2.1 ≠ (TX5 b).2.1 := by decide +kernel
theorem tyX5_ok : ∀ k, k < 7 → parseFieldDescriptor (TX5 k).2.2.1 = some (tyX5 k) := by decide +kernel
abbrev cX5_init : ByteArray := prog_7_method_1_code
def yX5_init : MethodName := ⟨RX5, "<init>", "()V"⟩
abbrev cX5_read : ByteArray := prog_7_method_2_code
def yX5_read : MethodName := ⟨RX5, "read", "()LArcheryField$Round;"⟩
abbrev cX5_readStatement : ByteArray := prog_7_method_3_code
def yX5_readStatement : MethodName := ⟨RX5, "readStatement", "()Z"⟩
abbrev cX5_readFace : ByteArray := prog_7_method_4_code
def yX5_readFace : MethodName := ⟨RX5, "readFace", "(I)Z"⟩
abbrev cX5_readLeg : ByteArray := prog_7_method_5_code
def yX5_readLeg : MethodName := ⟨RX5, "readLeg", "(I)Z"⟩
abbrev cX5_mayTie : ByteArray := prog_7_method_6_code
def yX5_mayTie : MethodName := ⟨RX5, "mayTie", "(I)Z"⟩
abbrev cX5_readOnce : ByteArray := prog_7_method_7_code
def yX5_readOnce : MethodName := ⟨RX5, "readOnce", "(III)Z"⟩
abbrev cX5_readNumber : ByteArray := prog_7_method_8_code
def yX5_readNumber : MethodName := ⟨RX5, "readNumber", "(II)Z"⟩
abbrev cX5_readSign : ByteArray := prog_7_method_9_code
def yX5_readSign : MethodName := ⟨RX5, "readSign", "(C)Z"⟩
abbrev cX5_isDigitNext : ByteArray := prog_7_method_10_code
def yX5_isDigitNext : MethodName := ⟨RX5, "isDigitNext", "()Z"⟩
abbrev cX5_skipBlanks : ByteArray := prog_7_method_11_code
def yX5_skipBlanks : MethodName := ⟨RX5, "skipBlanks", "()V"⟩
abbrev cX5_skipLetters : ByteArray := prog_7_method_12_code
def yX5_skipLetters : MethodName := ⟨RX5, "skipLetters", "()V"⟩
abbrev cX5_isSpelt : ByteArray := prog_7_method_13_code
def yX5_isSpelt : MethodName := ⟨RX5, "isSpelt", "(ILjava/lang/String;)Z"⟩
abbrev cX5_refuse : ByteArray := prog_7_method_14_code
def yX5_refuse : MethodName := ⟨RX5, "refuse", "(II)Z"⟩
abbrev cX5_isBlank : ByteArray := prog_7_method_15_code
def yX5_isBlank : MethodName := ⟨RX5, "isBlank", "(I)Z"⟩
abbrev cX5_isLetter : ByteArray := prog_7_method_16_code
def yX5_isLetter : MethodName := ⟨RX5, "isLetter", "(I)Z"⟩
abbrev cX5_isDigit : ByteArray := prog_7_method_17_code
def yX5_isDigit : MethodName := ⟨RX5, "isDigit", "(I)Z"⟩
def RX6 : String := "ArcheryField$Round"
def TX6 : u_T := fun k => match k with
  | 0 => ("ArcheryField$Round", "faces", "I", false)
  | 1 => ("ArcheryField$Round", "lines", "[I", true)
  | 2 => ("ArcheryField$Round", "radii", "[I", true)
  | 3 => ("ArcheryField$Round", "values", "[I", true)
  | 4 => ("ArcheryField$Round", "legs", "I", false)
  | 5 => ("ArcheryField$Round", "legEnds", "[I", true)
  | 6 => ("ArcheryField$Round", "legArrows", "[I", true)
  | 7 => ("ArcheryField$Round", "legFaces", "[I", true)
  | 8 => ("ArcheryField$Round", "ties", "I", false)
  | 9 => ("ArcheryField$Round", "tieKinds", "[I", true)
  | _ => ("ArcheryField$Round", "settings", "[I", true)
def tyX6 : Nat → FieldType := fun k => match k with
  | 0 => .int
  | 1 => .array .int
  | 2 => .array .int
  | 3 => .array .int
  | 4 => .int
  | 5 => .array .int
  | 6 => .array .int
  | 7 => .array .int
  | 8 => .int
  | 9 => .array .int
  | _ => .array .int
abbrev wsX60 : List Cond := u_ws RX6 TX6 11
theorem nmX6 : ∀ a, a < 11 → ∀ b, b < 11 → a ≠ b → (TX6 a).2.1 ≠ (TX6 b).2.1 := by decide +kernel
theorem tyX6_ok : ∀ k, k < 11 → parseFieldDescriptor (TX6 k).2.2.1 = some (tyX6 k) := by decide +kernel
abbrev cX6_init : ByteArray := prog_8_method_1_code
def yX6_init : MethodName := ⟨RX6, "<init>", "()V"⟩
abbrev cX6_addFace : ByteArray := prog_8_method_2_code
def yX6_addFace : MethodName := ⟨RX6, "addFace", "()Z"⟩
abbrev cX6_addLine : ByteArray := prog_8_method_3_code
def yX6_addLine : MethodName := ⟨RX6, "addLine", "(II)V"⟩
abbrev cX6_addLeg : ByteArray := prog_8_method_4_code
def yX6_addLeg : MethodName := ⟨RX6, "addLeg", "(III)Z"⟩
abbrev cX6_canTie : ByteArray := prog_8_method_5_code
def yX6_canTie : MethodName := ⟨RX6, "canTie", "()Z"⟩
abbrev cX6_addTie : ByteArray := prog_8_method_6_code
def yX6_addTie : MethodName := ⟨RX6, "addTie", "(I)Z"⟩
abbrev cX6_isSet : ByteArray := prog_8_method_7_code
def yX6_isSet : MethodName := ⟨RX6, "isSet", "(I)Z"⟩
abbrev cX6_set : ByteArray := prog_8_method_8_code
def yX6_set : MethodName := ⟨RX6, "set", "(II)Z"⟩
abbrev cX6_setting : ByteArray := prog_8_method_9_code
def yX6_setting : MethodName := ⟨RX6, "setting", "(I)I"⟩
abbrev cX6_tell : ByteArray := prog_8_method_10_code
def yX6_tell : MethodName := ⟨RX6, "tell", "(I)I"⟩
abbrev cX6_countEnds : ByteArray := prog_8_method_11_code
def yX6_countEnds : MethodName := ⟨RX6, "countEnds", "()I"⟩
abbrev cX6_countArrows : ByteArray := prog_8_method_12_code
def yX6_countArrows : MethodName := ⟨RX6, "countArrows", "()I"⟩
abbrev cX6_legOf : ByteArray := prog_8_method_13_code
def yX6_legOf : MethodName := ⟨RX6, "legOf", "(I)I"⟩
abbrev cX6_arrowsOf : ByteArray := prog_8_method_14_code
def yX6_arrowsOf : MethodName := ⟨RX6, "arrowsOf", "(I)I"⟩
abbrev cX6_valueAt : ByteArray := prog_8_method_15_code
def yX6_valueAt : MethodName := ⟨RX6, "valueAt", "(III)I"⟩
abbrev cX6_compare : ByteArray := prog_8_method_16_code
def yX6_compare : MethodName := ⟨RX6, "compare", "(LArcheryField$Shots;LArcheryField$Shots;)I"⟩
abbrev cX6_compareBy : ByteArray := prog_8_method_17_code
def yX6_compareBy : MethodName := ⟨RX6, "compareBy", "(ILArcheryField$Shots;LArcheryField$Shots;)I"⟩
abbrev cX6_compareOffs : ByteArray := prog_8_method_18_code
def yX6_compareOffs : MethodName := ⟨RX6, "compareOffs", "(LArcheryField$Shots;LArcheryField$Shots;)I"⟩
def RX7 : String := "ArcheryField$Scores"
def TX7 : u_T := fun k => match k with
  | _ => ("ArcheryField$Scores", "rows", "[I", true)
def tyX7 : Nat → FieldType := fun k => match k with
  | _ => .array .int
abbrev wsX70 : List Cond := u_ws RX7 TX7 1
theorem nmX7 : ∀ a, a < 1 → ∀ b, b < 1 → a ≠ b → (TX7 a).2.1 ≠ (TX7 b).2.1 := by decide +kernel
theorem tyX7_ok : ∀ k, k < 1 → parseFieldDescriptor (TX7 k).2.2.1 = some (tyX7 k) := by decide +kernel
abbrev cX7_init : ByteArray := prog_9_method_1_code
def yX7_init : MethodName := ⟨RX7, "<init>", "()V"⟩
abbrev cX7_init_ : ByteArray := prog_9_method_2_code
def yX7_init_ : MethodName := ⟨RX7, "<init>", "([I)V"⟩
abbrev cX7_count : ByteArray := prog_9_method_3_code
def yX7_count : MethodName := ⟨RX7, "count", "()I"⟩
abbrev cX7_with : ByteArray := prog_9_method_4_code
def yX7_with : MethodName := ⟨RX7, "with", "(III)LArcheryField$Scores;"⟩
abbrev cX7_canStrike : ByteArray := prog_9_method_5_code
def yX7_canStrike : MethodName := ⟨RX7, "canStrike", "(I)Z"⟩
abbrev cX7_withStruck : ByteArray := prog_9_method_6_code
def yX7_withStruck : MethodName := ⟨RX7, "withStruck", "(II)LArcheryField$Scores;"⟩
abbrev cX7_countFor : ByteArray := prog_9_method_7_code
def yX7_countFor : MethodName := ⟨RX7, "countFor", "(III)I"⟩
abbrev cX7_standsFor : ByteArray := prog_9_method_8_code
def yX7_standsFor : MethodName := ⟨RX7, "standsFor", "(III)Z"⟩
def RX8 : String := "ArcheryField$Shots"
def TX8 : u_T := fun k => match k with
  | 0 => ("ArcheryField$Shots", "sums", "[I", true)
  | 1 => ("ArcheryField$Shots", "counts", "[I", true)
  | _ => ("ArcheryField$Shots", "squares", "[I", true)
def tyX8 : Nat → FieldType := fun k => match k with
  | 0 => .array .int
  | 1 => .array .int
  | _ => .array .int
abbrev wsX80 : List Cond := u_ws RX8 TX8 3
theorem nmX8 : ∀ a, a < 3 → ∀ b, b < 3 → a ≠ b → (TX8 a).2.1 ≠ (TX8 b).2.1 := by decide +kernel
theorem tyX8_ok : ∀ k, k < 3 → parseFieldDescriptor (TX8 k).2.2.1 = some (tyX8 k) := by decide +kernel
abbrev cX8_init : ByteArray := prog_10_method_1_code
def yX8_init : MethodName := ⟨RX8, "<init>", "()V"⟩
abbrev cX8_init_ : ByteArray := prog_10_method_2_code
def yX8_init_ : MethodName := ⟨RX8, "<init>", "([I[I[I)V"⟩
abbrev cX8_countEnds : ByteArray := prog_10_method_3_code
def yX8_countEnds : MethodName := ⟨RX8, "countEnds", "()I"⟩
abbrev cX8_countOffs : ByteArray := prog_10_method_4_code
def yX8_countOffs : MethodName := ⟨RX8, "countOffs", "()I"⟩
abbrev cX8_total : ByteArray := prog_10_method_5_code
def yX8_total : MethodName := ⟨RX8, "total", "()I"⟩
abbrev cX8_lastSum : ByteArray := prog_10_method_6_code
def yX8_lastSum : MethodName := ⟨RX8, "lastSum", "()I"⟩
abbrev cX8_counted : ByteArray := prog_10_method_7_code
def yX8_counted : MethodName := ⟨RX8, "counted", "(I)I"⟩
abbrev cX8_countOf : ByteArray := prog_10_method_8_code
def yX8_countOf : MethodName := ⟨RX8, "countOf", "(I)I"⟩
abbrev cX8_squareOf : ByteArray := prog_10_method_9_code
def yX8_squareOf : MethodName := ⟨RX8, "squareOf", "(I)I"⟩
abbrev cX8_withEnd : ByteArray := prog_10_method_10_code
def yX8_withEnd : MethodName := ⟨RX8, "withEnd", "([III)LArcheryField$Shots;"⟩
abbrev cX8_withoutLast : ByteArray := prog_10_method_11_code
def yX8_withoutLast : MethodName := ⟨RX8, "withoutLast", "(I)LArcheryField$Shots;"⟩
abbrev cX8_withOff : ByteArray := prog_10_method_12_code
def yX8_withOff : MethodName := ⟨RX8, "withOff", "(I)LArcheryField$Shots;"⟩
abbrev cX8_joined : ByteArray := prog_10_method_13_code
def yX8_joined : MethodName := ⟨RX8, "joined", "([II)[I"⟩
def RX9 : String := "ArcheryField$State"
def TX9 : u_T := fun k => match k with
  | 0 => ("ArcheryField$State", "round", "LArcheryField$Round;", false)
  | 1 => ("ArcheryField$State", "archers", "[LArcheryField$Archer;", true)
  | 2 => ("ArcheryField$State", "laws", "LArcheryField$Laws;", false)
  | 3 => ("ArcheryField$State", "line", "LArcheryField$Line;", false)
  | _ => ("ArcheryField$State", "today", "I", false)
def tyX9 : Nat → FieldType := fun k => match k with
  | 0 => .object "ArcheryField$Round"
  | 1 => .array (.object "ArcheryField$Archer")
  | 2 => .object "ArcheryField$Laws"
  | 3 => .object "ArcheryField$Line"
  | _ => .int
abbrev wsX90 : List Cond := u_ws RX9 TX9 5
theorem nmX9 : ∀ a, a < 5 → ∀ b, b < 5 → a ≠ b → (TX9 a).2.1 ≠ (TX9 b).2.1 := by decide +kernel
theorem tyX9_ok : ∀ k, k < 5 → parseFieldDescriptor (TX9 k).2.2.1 = some (tyX9 k) := by decide +kernel
abbrev cX9_init : ByteArray := prog_11_method_1_code
def yX9_init : MethodName := ⟨RX9, "<init>", "()V"⟩
abbrev cX9_init_ : ByteArray := prog_11_method_2_code
def yX9_init_ : MethodName := ⟨RX9, "<init>", "(LArcheryField$State;)V"⟩
abbrev cX9_find : ByteArray := prog_11_method_3_code
def yX9_find : MethodName := ⟨RX9, "find", "(I)LArcheryField$Archer;"⟩
abbrev cX9_put : ByteArray := prog_11_method_4_code
def yX9_put : MethodName := ⟨RX9, "put", "(ILArcheryField$Archer;)V"⟩
abbrev cX9_freeNumber : ByteArray := prog_11_method_5_code
def yX9_freeNumber : MethodName := ⟨RX9, "freeNumber", "()I"⟩
abbrev cX9_forgetShots : ByteArray := prog_11_method_6_code
def yX9_forgetShots : MethodName := ⟨RX9, "forgetShots", "()V"⟩
def RX10 : String := "ArcheryField$Tape"
def TX10 : u_T := fun k => match k with
  | 0 => ("ArcheryField$Tape", "bytes", "[B", true)
  | _ => ("ArcheryField$Tape", "length", "I", false)
def tyX10 : Nat → FieldType := fun k => match k with
  | 0 => .array .byte
  | _ => .int
abbrev wsX100 : List Cond := u_ws RX10 TX10 2
theorem nmX10 : ∀ a, a < 2 → ∀ b, b < 2 → a ≠ b → (TX10 a).2.1 ≠ (TX10 b).2.1 := by decide +kernel
theorem tyX10_ok : ∀ k, k < 2 → parseFieldDescriptor (TX10 k).2.2.1 = some (tyX10 k) := by decide +kernel
abbrev cX10_init : ByteArray := prog_12_method_1_code
def yX10_init : MethodName := ⟨RX10, "<init>", "()V"⟩
abbrev cX10_append : ByteArray := prog_12_method_2_code
def yX10_append : MethodName := ⟨RX10, "append", "(I)V"⟩
abbrev cX10_signAt : ByteArray := prog_12_method_3_code
def yX10_signAt : MethodName := ⟨RX10, "signAt", "(I)I"⟩
def RX11 : String := "ArcheryField"
def TX11 : u_T := fun k => match k with
  | 0 => ("ArcheryField", "reader", "LArcheryField$Reader;", true)
  | 1 => ("ArcheryField", "tape", "LArcheryField$Tape;", true)
  | 2 => ("ArcheryField", "quiver", "LArcheryField$Quiver;", true)
  | 3 => ("ArcheryField", "kept", "[LArcheryField$State;", true)
  | 4 => ("ArcheryField", "keptCount", "I", false)
  | _ => ("ArcheryField", "now", "LArcheryField$State;", false)
def tyX11 : Nat → FieldType := fun k => match k with
  | 0 => .object "ArcheryField$Reader"
  | 1 => .object "ArcheryField$Tape"
  | 2 => .object "ArcheryField$Quiver"
  | 3 => .array (.object "ArcheryField$State")
  | 4 => .int
  | _ => .object "ArcheryField$State"
abbrev wsX110 : List Cond := u_ws RX11 TX11 6
theorem nmX11 : ∀ a, a < 6 → ∀ b, b < 6 → a ≠ b → (TX11 a).2.1 ≠ (TX11 b).2.1 := by decide +kernel
theorem tyX11_ok : ∀ k, k < 6 → parseFieldDescriptor (TX11 k).2.2.1 = some (tyX11 k) := by decide +kernel
abbrev cX11_init : ByteArray := prog_1_method_1_code
def yX11_init : MethodName := ⟨RX11, "<init>", "()V"⟩
abbrev cX11_feed : ByteArray := prog_1_method_2_code
def yX11_feed : MethodName := ⟨RX11, "feed", "(IIIII)I"⟩
abbrev cX11_end : ByteArray := prog_1_method_3_code
def yX11_end : MethodName := ⟨RX11, "end", "(I)Z"⟩
abbrev cX11_round : ByteArray := prog_1_method_4_code
def yX11_round : MethodName := ⟨RX11, "round", "()I"⟩
abbrev cX11_fault : ByteArray := prog_1_method_5_code
def yX11_fault : MethodName := ⟨RX11, "fault", "(I)I"⟩
abbrev cX11_of : ByteArray := prog_1_method_6_code
def yX11_of : MethodName := ⟨RX11, "of", "(I)I"⟩
abbrev cX11_archer : ByteArray := prog_1_method_7_code
def yX11_archer : MethodName := ⟨RX11, "archer", "(I)I"⟩
abbrev cX11_leave : ByteArray := prog_1_method_8_code
def yX11_leave : MethodName := ⟨RX11, "leave", "(I)Z"⟩
abbrev cX11_told : ByteArray := prog_1_method_9_code
def yX11_told : MethodName := ⟨RX11, "told", "(II)I"⟩
abbrev cX11_arrow : ByteArray := prog_1_method_10_code
def yX11_arrow : MethodName := ⟨RX11, "arrow", "(III)I"⟩
abbrev cX11_shoot : ByteArray := prog_1_method_11_code
def yX11_shoot : MethodName := ⟨RX11, "shoot", "(I)I"⟩
abbrev cX11_value : ByteArray := prog_1_method_12_code
def yX11_value : MethodName := ⟨RX11, "value", "(II)I"⟩
abbrev cX11_take : ByteArray := prog_1_method_13_code
def yX11_take : MethodName := ⟨RX11, "take", "(I)I"⟩
abbrev cX11_off : ByteArray := prog_1_method_14_code
def yX11_off : MethodName := ⟨RX11, "off", "(IIII)I"⟩
abbrev cX11_ahead : ByteArray := prog_1_method_15_code
def yX11_ahead : MethodName := ⟨RX11, "ahead", "(II)I"⟩
abbrev cX11_rank : ByteArray := prog_1_method_16_code
def yX11_rank : MethodName := ⟨RX11, "rank", "(I)I"⟩
abbrev cX11_today : ByteArray := prog_1_method_17_code
def yX11_today : MethodName := ⟨RX11, "today", "(I)Z"⟩
abbrev cX11_score : ByteArray := prog_1_method_18_code
def yX11_score : MethodName := ⟨RX11, "score", "(III)I"⟩
abbrev cX11_strike : ByteArray := prog_1_method_19_code
def yX11_strike : MethodName := ⟨RX11, "strike", "(II)Z"⟩
abbrev cX11_law : ByteArray := prog_1_method_20_code
def yX11_law : MethodName := ⟨RX11, "law", "(III)I"⟩
abbrev cX11_kind : ByteArray := prog_1_method_21_code
def yX11_kind : MethodName := ⟨RX11, "kind", "(III)I"⟩
abbrev cX11_bay : ByteArray := prog_1_method_22_code
def yX11_bay : MethodName := ⟨RX11, "bay", "(I)I"⟩
abbrev cX11_layout : ByteArray := prog_1_method_23_code
def yX11_layout : MethodName := ⟨RX11, "layout", "()I"⟩
abbrev cX11_on : ByteArray := prog_1_method_24_code
def yX11_on : MethodName := ⟨RX11, "on", "(I)I"⟩
abbrev cX11_lane : ByteArray := prog_1_method_25_code
def yX11_lane : MethodName := ⟨RX11, "lane", "(II)I"⟩
abbrev cX11_state : ByteArray := prog_1_method_26_code
def yX11_state : MethodName := ⟨RX11, "state", "(I)I"⟩
abbrev cX11_undo : ByteArray := prog_1_method_27_code
def yX11_undo : MethodName := ⟨RX11, "undo", "()I"⟩
abbrev cX11_change : ByteArray := prog_1_method_28_code
def yX11_change : MethodName := ⟨RX11, "change", "()LArcheryField$State;"⟩
abbrev cX11_isDay : ByteArray := prog_1_method_29_code
def yX11_isDay : MethodName := ⟨RX11, "isDay", "(I)Z"⟩
abbrev cX11_isScore : ByteArray := prog_1_method_30_code
def yX11_isScore : MethodName := ⟨RX11, "isScore", "(I)Z"⟩
abbrev cX11_isOnField : ByteArray := prog_1_method_31_code
def yX11_isOnField : MethodName := ⟨RX11, "isOnField", "(II)Z"⟩
def RX12 : String := "ArcheryFieldModel"
def TX12 : u_T := fun k => match k with
  | 0 => ("ArcheryFieldModel", "d", "[I", true)
  | 1 => ("ArcheryFieldModel", "changes", "I", false)
  | 2 => ("ArcheryFieldModel", "tape", "[I", true)
  | 3 => ("ArcheryFieldModel", "taped", "I", false)
  | 4 => ("ArcheryFieldModel", "at", "I", false)
  | 5 => ("ArcheryFieldModel", "size", "I", false)
  | 6 => ("ArcheryFieldModel", "token", "I", false)
  | 7 => ("ArcheryFieldModel", "begun", "I", false)
  | 8 => ("ArcheryFieldModel", "number", "I", false)
  | 9 => ("ArcheryFieldModel", "bad", "I", false)
  | 10 => ("ArcheryFieldModel", "badPlace", "I", false)
  | 11 => ("ArcheryFieldModel", "fault", "I", false)
  | 12 => ("ArcheryFieldModel", "faultPlace", "I", false)
  | 13 => ("ArcheryFieldModel", "faceWord", "[C", true)
  | 14 => ("ArcheryFieldModel", "legWord", "[C", true)
  | 15 => ("ArcheryFieldModel", "mostWord", "[C", true)
  | 16 => ("ArcheryFieldModel", "lastWord", "[C", true)
  | 17 => ("ArcheryFieldModel", "nearestWord", "[C", true)
  | 18 => ("ArcheryFieldModel", "bouncedWord", "[C", true)
  | 19 => ("ArcheryFieldModel", "passedWord", "[C", true)
  | 20 => ("ArcheryFieldModel", "shaftWord", "[C", true)
  | 21 => ("ArcheryFieldModel", "\x72", "[I", true)
  | 22 => ("ArcheryFieldModel", "had", "[Z", true)
  | 23 => ("ArcheryFieldModel", "waits", "I", false)
  | 24 => ("ArcheryFieldModel", "waitKind", "[I", true)
  | 25 => ("ArcheryFieldModel", "waitX", "[I", true)
  | 26 => ("ArcheryFieldModel", "waitY", "[I", true)
  | 27 => ("ArcheryFieldModel", "counted", "[I", true)
  | 28 => ("ArcheryFieldModel", "placed", "I", false)
  | 29 => ("ArcheryFieldModel", "who", "[I", true)
  | _ => ("ArcheryFieldModel", "where", "[I", true)
def tyX12 : Nat → FieldType := fun k => match k with
  | 0 => .array .int
  | 1 => .int
  | 2 => .array .int
  | 3 => .int
  | 4 => .int
  | 5 => .int
  | 6 => .int
  | 7 => .int
  | 8 => .int
  | 9 => .int
  | 10 => .int
  | 11 => .int
  | 12 => .int
  | 13 => .array .char
  | 14 => .array .char
  | 15 => .array .char
  | 16 => .array .char
  | 17 => .array .char
  | 18 => .array .char
  | 19 => .array .char
  | 20 => .array .char
  | 21 => .array .int
  | 22 => .array .boolean
  | 23 => .int
  | 24 => .array .int
  | 25 => .array .int
  | 26 => .array .int
  | 27 => .array .int
  | 28 => .int
  | 29 => .array .int
  | _ => .array .int
abbrev wsX120 : List Cond := u_ws RX12 TX12 31
theorem nmX12 : ∀ a, a < 31 → ∀ b, b < 31 → a ≠ b → (TX12 a).2.1 ≠ (TX12 b).2.1 := by decide +kernel
theorem tyX12_ok : ∀ k, k < 31 → parseFieldDescriptor (TX12 k).2.2.1 = some (tyX12 k) := by decide +kernel
abbrev cX12_init : ByteArray := prog_14_method_1_code
def yX12_init : MethodName := ⟨RX12, "<init>", "()V"⟩
abbrev cX12_keeps : ByteArray := prog_14_method_2_code
def yX12_keeps : MethodName := ⟨RX12, "keeps", "()V"⟩
abbrev cX12_undo : ByteArray := prog_14_method_3_code
def yX12_undo : MethodName := ⟨RX12, "undo", "()I"⟩
abbrev cX12_feed : ByteArray := prog_14_method_4_code
def yX12_feed : MethodName := ⟨RX12, "feed", "(IIIII)I"⟩
abbrev cX12_end : ByteArray := prog_14_method_5_code
def yX12_end : MethodName := ⟨RX12, "end", "(I)Z"⟩
abbrev cX12_fail : ByteArray := prog_14_method_6_code
def yX12_fail : MethodName := ⟨RX12, "fail", "(II)V"⟩
abbrev cX12_isLetter : ByteArray := prog_14_method_7_code
def yX12_isLetter : MethodName := ⟨RX12, "isLetter", "(I)Z"⟩
abbrev cX12_isDigit : ByteArray := prog_14_method_8_code
def yX12_isDigit : MethodName := ⟨RX12, "isDigit", "(I)Z"⟩
abbrev cX12_next : ByteArray := prog_14_method_9_code
def yX12_next : MethodName := ⟨RX12, "next", "()V"⟩
abbrev cX12_isWord : ByteArray := prog_14_method_10_code
def yX12_isWord : MethodName := ⟨RX12, "isWord", "([C)Z"⟩
abbrev cX12_numberOf : ByteArray := prog_14_method_11_code
def yX12_numberOf : MethodName := ⟨RX12, "numberOf", "(II)I"⟩
abbrev cX12_sign : ByteArray := prog_14_method_12_code
def yX12_sign : MethodName := ⟨RX12, "sign", "(I)V"⟩
abbrev cX12_face : ByteArray := prog_14_method_13_code
def yX12_face : MethodName := ⟨RX12, "face", "()V"⟩
abbrev cX12_leg : ByteArray := prog_14_method_14_code
def yX12_leg : MethodName := ⟨RX12, "leg", "()V"⟩
abbrev cX12_tie : ByteArray := prog_14_method_15_code
def yX12_tie : MethodName := ⟨RX12, "tie", "(I)V"⟩
abbrev cX12_once : ByteArray := prog_14_method_16_code
def yX12_once : MethodName := ⟨RX12, "once", "(III)V"⟩
abbrev cX12_statement : ByteArray := prog_14_method_17_code
def yX12_statement : MethodName := ⟨RX12, "statement", "()V"⟩
abbrev cX12_round : ByteArray := prog_14_method_18_code
def yX12_round : MethodName := ⟨RX12, "round", "()I"⟩
abbrev cX12_fault : ByteArray := prog_14_method_19_code
def yX12_fault : MethodName := ⟨RX12, "fault", "(I)I"⟩
abbrev cX12_of : ByteArray := prog_14_method_20_code
def yX12_of : MethodName := ⟨RX12, "of", "(I)I"⟩
abbrev cX12_isArcher : ByteArray := prog_14_method_21_code
def yX12_isArcher : MethodName := ⟨RX12, "isArcher", "(I)Z"⟩
abbrev cX12_archer : ByteArray := prog_14_method_22_code
def yX12_archer : MethodName := ⟨RX12, "archer", "(I)I"⟩
abbrev cX12_leave : ByteArray := prog_14_method_23_code
def yX12_leave : MethodName := ⟨RX12, "leave", "(I)Z"⟩
abbrev cX12_legOf : ByteArray := prog_14_method_24_code
def yX12_legOf : MethodName := ⟨RX12, "legOf", "(I)I"⟩
abbrev cX12_arrowsOf : ByteArray := prog_14_method_25_code
def yX12_arrowsOf : MethodName := ⟨RX12, "arrowsOf", "(I)I"⟩
abbrev cX12_sum : ByteArray := prog_14_method_26_code
def yX12_sum : MethodName := ⟨RX12, "sum", "(III)I"⟩
abbrev cX12_lastEnd : ByteArray := prog_14_method_27_code
def yX12_lastEnd : MethodName := ⟨RX12, "lastEnd", "(I)I"⟩
abbrev cX12_total : ByteArray := prog_14_method_28_code
def yX12_total : MethodName := ⟨RX12, "total", "(I)I"⟩
abbrev cX12_told : ByteArray := prog_14_method_29_code
def yX12_told : MethodName := ⟨RX12, "told", "(II)I"⟩
abbrev cX12_isFar : ByteArray := prog_14_method_30_code
def yX12_isFar : MethodName := ⟨RX12, "isFar", "(I)Z"⟩
abbrev cX12_arrow : ByteArray := prog_14_method_31_code
def yX12_arrow : MethodName := ⟨RX12, "arrow", "(III)I"⟩
abbrev cX12_hit : ByteArray := prog_14_method_32_code
def yX12_hit : MethodName := ⟨RX12, "hit", "(III)I"⟩
abbrev cX12_shoot : ByteArray := prog_14_method_33_code
def yX12_shoot : MethodName := ⟨RX12, "shoot", "(I)I"⟩
abbrev cX12_value : ByteArray := prog_14_method_34_code
def yX12_value : MethodName := ⟨RX12, "value", "(II)I"⟩
abbrev cX12_take : ByteArray := prog_14_method_35_code
def yX12_take : MethodName := ⟨RX12, "take", "(I)I"⟩
abbrev cX12_off : ByteArray := prog_14_method_36_code
def yX12_off : MethodName := ⟨RX12, "off", "(IIII)I"⟩
abbrev cX12_most : ByteArray := prog_14_method_37_code
def yX12_most : MethodName := ⟨RX12, "most", "(II)I"⟩
abbrev cX12_square : ByteArray := prog_14_method_38_code
def yX12_square : MethodName := ⟨RX12, "square", "(II)I"⟩
abbrev cX12_signOf : ByteArray := prog_14_method_39_code
def yX12_signOf : MethodName := ⟨RX12, "signOf", "(I)I"⟩
abbrev cX12_ahead : ByteArray := prog_14_method_40_code
def yX12_ahead : MethodName := ⟨RX12, "ahead", "(II)I"⟩
abbrev cX12_rank : ByteArray := prog_14_method_41_code
def yX12_rank : MethodName := ⟨RX12, "rank", "(I)I"⟩
abbrev cX12_isDay : ByteArray := prog_14_method_42_code
def yX12_isDay : MethodName := ⟨RX12, "isDay", "(I)Z"⟩
abbrev cX12_today : ByteArray := prog_14_method_43_code
def yX12_today : MethodName := ⟨RX12, "today", "(I)Z"⟩
abbrev cX12_score : ByteArray := prog_14_method_44_code
def yX12_score : MethodName := ⟨RX12, "score", "(III)I"⟩
abbrev cX12_strike : ByteArray := prog_14_method_45_code
def yX12_strike : MethodName := ⟨RX12, "strike", "(II)Z"⟩
abbrev cX12_law : ByteArray := prog_14_method_46_code
def yX12_law : MethodName := ⟨RX12, "law", "(III)I"⟩
abbrev cX12_kind : ByteArray := prog_14_method_47_code
def yX12_kind : MethodName := ⟨RX12, "kind", "(III)I"⟩
abbrev cX12_bay : ByteArray := prog_14_method_48_code
def yX12_bay : MethodName := ⟨RX12, "bay", "(I)I"⟩
abbrev cX12_isParted : ByteArray := prog_14_method_49_code
def yX12_isParted : MethodName := ⟨RX12, "isParted", "(I)Z"⟩
abbrev cX12_isFree : ByteArray := prog_14_method_50_code
def yX12_isFree : MethodName := ⟨RX12, "isFree", "(I)Z"⟩
abbrev cX12_layout : ByteArray := prog_14_method_51_code
def yX12_layout : MethodName := ⟨RX12, "layout", "()I"⟩
abbrev cX12_on : ByteArray := prog_14_method_52_code
def yX12_on : MethodName := ⟨RX12, "on", "(I)I"⟩
abbrev cX12_lane : ByteArray := prog_14_method_53_code
def yX12_lane : MethodName := ⟨RX12, "lane", "(II)I"⟩
abbrev cX12_state : ByteArray := prog_14_method_54_code
def yX12_state : MethodName := ⟨RX12, "state", "(I)I"⟩
def RJx8e188 : String := "java/lang/Cloneable"
def TJx8e188 : u_T := fun k => match k with
  | _ => ("", "", "", false)
def tyJx8e188 : Nat → FieldType := fun k => match k with
  | _ => .int
abbrev wsJx8e1880 : List Cond := u_ws RJx8e188 TJx8e188 0
theorem nmJx8e188 : ∀ a, a < 0 → ∀ b, b < 0 → a ≠ b → (TJx8e188 a).2.1 ≠ (TJx8e188 b).2.1 := by decide +kernel
theorem tyJx8e188_ok : ∀ k, k < 0 → parseFieldDescriptor (TJx8e188 k).2.2.1 = some (tyJx8e188 k) := by decide +kernel
def RJ6 : String := "java/lang/Integer"
def TJ6 : u_T := fun k => match k with
  | _ => ("", "", "", false)
def tyJ6 : Nat → FieldType := fun k => match k with
  | _ => .int
abbrev wsJ60 : List Cond := u_ws RJ6 TJ6 0
theorem nmJ6 : ∀ a, a < 0 → ∀ b, b < 0 → a ≠ b → (TJ6 a).2.1 ≠ (TJ6 b).2.1 := by decide +kernel
theorem tyJ6_ok : ∀ k, k < 0 → parseFieldDescriptor (TJ6 k).2.2.1 = some (tyJ6 k) := by decide +kernel
abbrev cJ6_compare_7cf53 : ByteArray := prog_16_method_40_code
def yJ6_compare_7cf53 : MethodName := ⟨RJ6, "compare", "(II)I"⟩
def RJ9 : String := "java/lang/Math"
def TJ9 : u_T := fun k => match k with
  | _ => ("", "", "", false)
def tyJ9 : Nat → FieldType := fun k => match k with
  | _ => .int
abbrev wsJ90 : List Cond := u_ws RJ9 TJ9 0
theorem nmJ9 : ∀ a, a < 0 → ∀ b, b < 0 → a ≠ b → (TJ9 a).2.1 ≠ (TJ9 b).2.1 := by decide +kernel
theorem tyJ9_ok : ∀ k, k < 0 → parseFieldDescriptor (TJ9 k).2.2.1 = some (tyJ9 k) := by decide +kernel
abbrev cJ9_max_7cf53 : ByteArray := prog_17_method_65_code
def yJ9_max_7cf53 : MethodName := ⟨RJ9, "max", "(II)I"⟩
abbrev cJ9_min_7cf53 : ByteArray := prog_17_method_69_code
def yJ9_min_7cf53 : MethodName := ⟨RJ9, "min", "(II)I"⟩
def RJ0 : String := "java/lang/String"
def TJ0 : u_T := fun k => match k with
  | _ => ("", "", "", false)
def tyJ0 : Nat → FieldType := fun k => match k with
  | _ => .int
abbrev wsJ00 : List Cond := u_ws RJ0 TJ0 0
theorem nmJ0 : ∀ a, a < 0 → ∀ b, b < 0 → a ≠ b → (TJ0 a).2.1 ≠ (TJ0 b).2.1 := by decide +kernel
theorem tyJ0_ok : ∀ k, k < 0 → parseFieldDescriptor (TJ0 k).2.2.1 = some (tyJ0 k) := by decide +kernel
abbrev cJ0_length_8abf5 : ByteArray := prog_18_method_54_code
def yJ0_length_8abf5 : MethodName := ⟨RJ0, "length", "()I"⟩
abbrev cJ0_charAt_5068e : ByteArray := prog_18_method_56_code
def yJ0_charAt_5068e : MethodName := ⟨RJ0, "charAt", "(I)C"⟩
abbrev cJ0_coder_7d493 : ByteArray := prog_18_method_152_code
def yJ0_coder_7d493 : MethodName := ⟨RJ0, "coder", "()B"⟩
abbrev cJ0_isLatin1_aae02 : ByteArray := prog_18_method_154_code
def yJ0_isLatin1_aae02 : MethodName := ⟨RJ0, "isLatin1", "()Z"⟩
abbrev cJ0_checkIndex_df160 : ByteArray := prog_18_method_155_code
def yJ0_checkIndex_df160 : MethodName := ⟨RJ0, "checkIndex", "(II)V"⟩
def RJ1 : String := "java/lang/StringLatin1"
def TJ1 : u_T := fun k => match k with
  | _ => ("", "", "", false)
def tyJ1 : Nat → FieldType := fun k => match k with
  | _ => .int
abbrev wsJ10 : List Cond := u_ws RJ1 TJ1 0
theorem nmJ1 : ∀ a, a < 0 → ∀ b, b < 0 → a ≠ b → (TJ1 a).2.1 ≠ (TJ1 b).2.1 := by decide +kernel
theorem tyJ1_ok : ∀ k, k < 0 → parseFieldDescriptor (TJ1 k).2.2.1 = some (tyJ1 k) := by decide +kernel
abbrev cJ1_charAt_3b067 : ByteArray := prog_19_method_2_code
def yJ1_charAt_3b067 : MethodName := ⟨RJ1, "charAt", "([BI)C"⟩
def RJ2 : String := "java/lang/StringUTF16"
def TJ2 : u_T := fun k => match k with
  | _ => ("", "", "", false)
def tyJ2 : Nat → FieldType := fun k => match k with
  | _ => .int
abbrev wsJ20 : List Cond := u_ws RJ2 TJ2 0
theorem nmJ2 : ∀ a, a < 0 → ∀ b, b < 0 → a ≠ b → (TJ2 a).2.1 ≠ (TJ2 b).2.1 := by decide +kernel
theorem tyJ2_ok : ∀ k, k < 0 → parseFieldDescriptor (TJ2 k).2.2.1 = some (tyJ2 k) := by decide +kernel
abbrev cJ2_getChar_3b067 : ByteArray := prog_20_method_5_code
def yJ2_getChar_3b067 : MethodName := ⟨RJ2, "getChar", "([BI)C"⟩
abbrev cJ2_length_9d52b : ByteArray := prog_20_method_6_code
def yJ2_length_9d52b : MethodName := ⟨RJ2, "length", "([B)I"⟩
abbrev cJ2_charAt_3b067 : ByteArray := prog_20_method_83_code
def yJ2_charAt_3b067 : MethodName := ⟨RJ2, "charAt", "([BI)C"⟩
abbrev cJ2_checkIndex_2214a : ByteArray := prog_20_method_91_code
def yJ2_checkIndex_2214a : MethodName := ⟨RJ2, "checkIndex", "(I[B)V"⟩
def RJ10 : String := "java/lang/System"
def TJ10 : u_T := fun k => match k with
  | _ => ("", "", "", false)
def tyJ10 : Nat → FieldType := fun k => match k with
  | _ => .int
abbrev wsJ100 : List Cond := u_ws RJ10 TJ10 0
theorem nmJ10 : ∀ a, a < 0 → ∀ b, b < 0 → a ≠ b → (TJ10 a).2.1 ≠ (TJ10 b).2.1 := by decide +kernel
theorem tyJ10_ok : ∀ k, k < 0 → parseFieldDescriptor (TJ10 k).2.2.1 = some (tyJ10 k) := by decide +kernel
def RJ7 : String := "java/util/Arrays"
def TJ7 : u_T := fun k => match k with
  | _ => ("", "", "", false)
def tyJ7 : Nat → FieldType := fun k => match k with
  | _ => .int
abbrev wsJ70 : List Cond := u_ws RJ7 TJ7 0
theorem nmJ7 : ∀ a, a < 0 → ∀ b, b < 0 → a ≠ b → (TJ7 a).2.1 ≠ (TJ7 b).2.1 := by decide +kernel
theorem tyJ7_ok : ∀ k, k < 0 → parseFieldDescriptor (TJ7 k).2.2.1 = some (tyJ7 k) := by decide +kernel
abbrev cJ7_fill_53178 : ByteArray := prog_22_method_103_code
def yJ7_fill_53178 : MethodName := ⟨RJ7, "fill", "([II)V"⟩
abbrev cJ7_copyOf_59c91 : ByteArray := prog_22_method_123_code
def yJ7_copyOf_59c91 : MethodName := ⟨RJ7, "copyOf", "([II)[I"⟩
def RJ3 : String := "jdk/internal/util/Preconditions"
def TJ3 : u_T := fun k => match k with
  | _ => ("", "", "", false)
def tyJ3 : Nat → FieldType := fun k => match k with
  | _ => .int
abbrev wsJ30 : List Cond := u_ws RJ3 TJ3 0
theorem nmJ3 : ∀ a, a < 0 → ∀ b, b < 0 → a ≠ b → (TJ3 a).2.1 ≠ (TJ3 b).2.1 := by decide +kernel
theorem tyJ3_ok : ∀ k, k < 0 → parseFieldDescriptor (TJ3 k).2.2.1 = some (tyJ3 k) := by decide +kernel
abbrev cJ3_checkIndex_8e157 : ByteArray := prog_23_method_11_code
def yJ3_checkIndex_8e157 : MethodName := ⟨RJ3, "checkIndex", "(IILjava/util/function/BiFunction;)I"⟩
def RL : String := "ArcheryFieldLaw"
abbrev cL_law : ByteArray := code
def yL_law : MethodName := ⟨RL, "law", "([I)Z"⟩
abbrev vwCl : List vw_C := [(RX0, TX0, 3), (RX1, TX1, 1), (RX2, TX2, 3), (RX3, TX3, 7), (RX4, TX4, 5), (RX5, TX5, 7), (RX6, TX6, 11), (RX7, TX7, 1), (RX8, TX8, 3), (RX9, TX9, 5), (RX10, TX10, 2), (RX11, TX11, 6), (RX12, TX12, 31)]
theorem inX0 : ∀ w ∈ wsX00, w ∈ lw_tbl := by decide +kernel
theorem inX1 : ∀ w ∈ wsX10, w ∈ lw_tbl := by decide +kernel
theorem inX2 : ∀ w ∈ wsX20, w ∈ lw_tbl := by decide +kernel
theorem inX3 : ∀ w ∈ wsX30, w ∈ lw_tbl := by decide +kernel
theorem inX4 : ∀ w ∈ wsX40, w ∈ lw_tbl := by decide +kernel
theorem inX5 : ∀ w ∈ wsX50, w ∈ lw_tbl := by decide +kernel
theorem inX6 : ∀ w ∈ wsX60, w ∈ lw_tbl := by decide +kernel
theorem inX7 : ∀ w ∈ wsX70, w ∈ lw_tbl := by decide +kernel
theorem inX8 : ∀ w ∈ wsX80, w ∈ lw_tbl := by decide +kernel
theorem inX9 : ∀ w ∈ wsX90, w ∈ lw_tbl := by decide +kernel
theorem inX10 : ∀ w ∈ wsX100, w ∈ lw_tbl := by decide +kernel
theorem inX11 : ∀ w ∈ wsX110, w ∈ lw_tbl := by decide +kernel
theorem inX12 : ∀ w ∈ wsX120, w ∈ lw_tbl := by decide +kernel
