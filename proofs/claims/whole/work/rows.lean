section
-- ===== PART A: goes FIRST, ahead of the names: the tables' words, and 'selects' of the private methods out of them =====
/-- a private method of a class that the tables say can be made, by its rows of tables_1 -/
def lw_okq (q : MethodName × Nat) : Prop := (q.1.cls ≠ "java/lang/invoke/MethodHandle" ∧ q.1.cls ≠ "java/lang/invoke/VarHandle") ∧ Cond.instantiable q.1.cls q.2 ∈ tables_1 ∧ Cond.privateMethod q.1 ∈ tables_1 ∧ Cond.instanceMethod q.1 ∈ tables_1
theorem lw_p0 : lw_okq (⟨"ArcheryField$Reader", "skipBlanks", "()V"⟩, 7) := ⟨⟨by decide +kernel, by decide +kernel⟩, List.mem_of_getElem? (i := 31) (by decide +kernel), List.mem_of_getElem? (i := 244) (by decide +kernel), List.mem_of_getElem? (i := 245) (by decide +kernel)⟩
theorem lw_p1 : lw_okq (⟨"ArcheryField$Reader", "readStatement", "()Z"⟩, 7) := ⟨⟨by decide +kernel, by decide +kernel⟩, List.mem_of_getElem? (i := 31) (by decide +kernel), List.mem_of_getElem? (i := 255) (by decide +kernel), List.mem_of_getElem? (i := 256) (by decide +kernel)⟩
theorem lw_p2 : lw_okq (⟨"ArcheryField$Reader", "skipLetters", "()V"⟩, 7) := ⟨⟨by decide +kernel, by decide +kernel⟩, List.mem_of_getElem? (i := 31) (by decide +kernel), List.mem_of_getElem? (i := 259) (by decide +kernel), List.mem_of_getElem? (i := 260) (by decide +kernel)⟩
theorem lw_p3 : lw_okq (⟨"ArcheryField$Reader", "isSpelt", "(ILjava/lang/String;)Z"⟩, 7) := ⟨⟨by decide +kernel, by decide +kernel⟩, List.mem_of_getElem? (i := 31) (by decide +kernel), List.mem_of_getElem? (i := 267) (by decide +kernel), List.mem_of_getElem? (i := 268) (by decide +kernel)⟩
theorem lw_p4 : lw_okq (⟨"ArcheryField$Reader", "readFace", "(I)Z"⟩, 7) := ⟨⟨by decide +kernel, by decide +kernel⟩, List.mem_of_getElem? (i := 31) (by decide +kernel), List.mem_of_getElem? (i := 319) (by decide +kernel), List.mem_of_getElem? (i := 320) (by decide +kernel)⟩
theorem lw_p5 : lw_okq (⟨"ArcheryField$Reader", "refuse", "(II)Z"⟩, 7) := ⟨⟨by decide +kernel, by decide +kernel⟩, List.mem_of_getElem? (i := 31) (by decide +kernel), List.mem_of_getElem? (i := 327) (by decide +kernel), List.mem_of_getElem? (i := 328) (by decide +kernel)⟩
theorem lw_p6 : lw_okq (⟨"ArcheryField$Reader", "isDigitNext", "()Z"⟩, 7) := ⟨⟨by decide +kernel, by decide +kernel⟩, List.mem_of_getElem? (i := 31) (by decide +kernel), List.mem_of_getElem? (i := 331) (by decide +kernel), List.mem_of_getElem? (i := 332) (by decide +kernel)⟩
theorem lw_p7 : lw_okq (⟨"ArcheryField$Reader", "readNumber", "(II)Z"⟩, 7) := ⟨⟨by decide +kernel, by decide +kernel⟩, List.mem_of_getElem? (i := 31) (by decide +kernel), List.mem_of_getElem? (i := 338) (by decide +kernel), List.mem_of_getElem? (i := 339) (by decide +kernel)⟩
theorem lw_p8 : lw_okq (⟨"ArcheryField$Reader", "readSign", "(C)Z"⟩, 7) := ⟨⟨by decide +kernel, by decide +kernel⟩, List.mem_of_getElem? (i := 31) (by decide +kernel), List.mem_of_getElem? (i := 342) (by decide +kernel), List.mem_of_getElem? (i := 343) (by decide +kernel)⟩
theorem lw_p9 : lw_okq (⟨"ArcheryField$Reader", "readLeg", "(I)Z"⟩, 7) := ⟨⟨by decide +kernel, by decide +kernel⟩, List.mem_of_getElem? (i := 31) (by decide +kernel), List.mem_of_getElem? (i := 351) (by decide +kernel), List.mem_of_getElem? (i := 352) (by decide +kernel)⟩
theorem lw_p10 : lw_okq (⟨"ArcheryField$Reader", "mayTie", "(I)Z"⟩, 7) := ⟨⟨by decide +kernel, by decide +kernel⟩, List.mem_of_getElem? (i := 31) (by decide +kernel), List.mem_of_getElem? (i := 361) (by decide +kernel), List.mem_of_getElem? (i := 362) (by decide +kernel)⟩
theorem lw_p11 : lw_okq (⟨"ArcheryField$Reader", "readOnce", "(III)Z"⟩, 7) := ⟨⟨by decide +kernel, by decide +kernel⟩, List.mem_of_getElem? (i := 31) (by decide +kernel), List.mem_of_getElem? (i := 377) (by decide +kernel), List.mem_of_getElem? (i := 378) (by decide +kernel)⟩
theorem lw_p12 : lw_okq (⟨"ArcheryField", "change", "()LArcheryField$State;"⟩, 6) := ⟨⟨by decide +kernel, by decide +kernel⟩, List.mem_of_getElem? (i := 23) (by decide +kernel), List.mem_of_getElem? (i := 391) (by decide +kernel), List.mem_of_getElem? (i := 392) (by decide +kernel)⟩
theorem lw_p13 : lw_okq (⟨"ArcheryField$Quiver", "judgeOne", "(LArcheryField$Round;II)I"⟩, 5) := ⟨⟨by decide +kernel, by decide +kernel⟩, List.mem_of_getElem? (i := 120) (by decide +kernel), List.mem_of_getElem? (i := 588) (by decide +kernel), List.mem_of_getElem? (i := 589) (by decide +kernel)⟩
theorem lw_p14 : lw_okq (⟨"ArcheryField$Quiver", "judgeIn", "(II)I"⟩, 5) := ⟨⟨by decide +kernel, by decide +kernel⟩, List.mem_of_getElem? (i := 120) (by decide +kernel), List.mem_of_getElem? (i := 597) (by decide +kernel), List.mem_of_getElem? (i := 598) (by decide +kernel)⟩
theorem lw_p15 : lw_okq (⟨"ArcheryField$Scores", "standsFor", "(III)Z"⟩, 1) := ⟨⟨by decide +kernel, by decide +kernel⟩, List.mem_of_getElem? (i := 489) (by decide +kernel), List.mem_of_getElem? (i := 753) (by decide +kernel), List.mem_of_getElem? (i := 754) (by decide +kernel)⟩
def lw_privs_1 : List (MethodName × Nat) := [(⟨"ArcheryField$Reader", "skipBlanks", "()V"⟩, 7), (⟨"ArcheryField$Reader", "readStatement", "()Z"⟩, 7), (⟨"ArcheryField$Reader", "skipLetters", "()V"⟩, 7), (⟨"ArcheryField$Reader", "isSpelt", "(ILjava/lang/String;)Z"⟩, 7), (⟨"ArcheryField$Reader", "readFace", "(I)Z"⟩, 7), (⟨"ArcheryField$Reader", "refuse", "(II)Z"⟩, 7), (⟨"ArcheryField$Reader", "isDigitNext", "()Z"⟩, 7), (⟨"ArcheryField$Reader", "readNumber", "(II)Z"⟩, 7), (⟨"ArcheryField$Reader", "readSign", "(C)Z"⟩, 7), (⟨"ArcheryField$Reader", "readLeg", "(I)Z"⟩, 7), (⟨"ArcheryField$Reader", "mayTie", "(I)Z"⟩, 7), (⟨"ArcheryField$Reader", "readOnce", "(III)Z"⟩, 7), (⟨"ArcheryField", "change", "()LArcheryField$State;"⟩, 6), (⟨"ArcheryField$Quiver", "judgeOne", "(LArcheryField$Round;II)I"⟩, 5), (⟨"ArcheryField$Quiver", "judgeIn", "(II)I"⟩, 5), (⟨"ArcheryField$Scores", "standsFor", "(III)Z"⟩, 1)]
theorem lw_r1 : ∀ q ∈ lw_privs_1, lw_okq q := List.forall_mem_cons.mpr ⟨lw_p0, List.forall_mem_cons.mpr ⟨lw_p1, List.forall_mem_cons.mpr ⟨lw_p2, List.forall_mem_cons.mpr ⟨lw_p3, List.forall_mem_cons.mpr ⟨lw_p4, List.forall_mem_cons.mpr ⟨lw_p5, List.forall_mem_cons.mpr ⟨lw_p6, List.forall_mem_cons.mpr ⟨lw_p7, List.forall_mem_cons.mpr ⟨lw_p8, List.forall_mem_cons.mpr ⟨lw_p9, List.forall_mem_cons.mpr ⟨lw_p10, List.forall_mem_cons.mpr ⟨lw_p11, List.forall_mem_cons.mpr ⟨lw_p12, List.forall_mem_cons.mpr ⟨lw_p13, List.forall_mem_cons.mpr ⟨lw_p14, List.forall_mem_cons.mpr ⟨lw_p15, fun _ h => absurd h List.not_mem_nil⟩⟩⟩⟩⟩⟩⟩⟩⟩⟩⟩⟩⟩⟩⟩⟩
theorem lw_p16 : lw_okq (⟨"ArcheryField$Planner", "nextPlace", "(II)I"⟩, 7) := ⟨⟨by decide +kernel, by decide +kernel⟩, List.mem_of_getElem? (i := 787) (by decide +kernel), List.mem_of_getElem? (i := 824) (by decide +kernel), List.mem_of_getElem? (i := 825) (by decide +kernel)⟩
theorem lw_p17 : lw_okq (⟨"ArcheryField$Planner", "isParted", "(II)Z"⟩, 7) := ⟨⟨by decide +kernel, by decide +kernel⟩, List.mem_of_getElem? (i := 787) (by decide +kernel), List.mem_of_getElem? (i := 828) (by decide +kernel), List.mem_of_getElem? (i := 829) (by decide +kernel)⟩
theorem lw_p18 : lw_okq (⟨"ArcheryField$Planner", "clubOn", "(I)I"⟩, 7) := ⟨⟨by decide +kernel, by decide +kernel⟩, List.mem_of_getElem? (i := 787) (by decide +kernel), List.mem_of_getElem? (i := 832) (by decide +kernel), List.mem_of_getElem? (i := 833) (by decide +kernel)⟩
theorem lw_p19 : lw_okq (⟨"ArcheryField$Planner", "put", "(II)V"⟩, 7) := ⟨⟨by decide +kernel, by decide +kernel⟩, List.mem_of_getElem? (i := 787) (by decide +kernel), List.mem_of_getElem? (i := 836) (by decide +kernel), List.mem_of_getElem? (i := 837) (by decide +kernel)⟩
theorem lw_p20 : lw_okq (⟨"ArcheryField$Planner", "lift", "(I)V"⟩, 7) := ⟨⟨by decide +kernel, by decide +kernel⟩, List.mem_of_getElem? (i := 787) (by decide +kernel), List.mem_of_getElem? (i := 840) (by decide +kernel), List.mem_of_getElem? (i := 841) (by decide +kernel)⟩
theorem lw_p21 : lw_okq (⟨"ArcheryField$Line", "isAnyOfBay", "(II)Z"⟩, 3) := ⟨⟨by decide +kernel, by decide +kernel⟩, List.mem_of_getElem? (i := 166) (by decide +kernel), List.mem_of_getElem? (i := 868) (by decide +kernel), List.mem_of_getElem? (i := 869) (by decide +kernel)⟩
theorem lw_p22 : lw_okq (⟨"ArcheryFieldModel", "next", "()V"⟩, 31) := ⟨⟨by decide +kernel, by decide +kernel⟩, List.mem_of_getElem? (i := 885) (by decide +kernel), List.mem_of_getElem? (i := 1004) (by decide +kernel), List.mem_of_getElem? (i := 1005) (by decide +kernel)⟩
theorem lw_p23 : lw_okq (⟨"ArcheryFieldModel", "statement", "()V"⟩, 31) := ⟨⟨by decide +kernel, by decide +kernel⟩, List.mem_of_getElem? (i := 885) (by decide +kernel), List.mem_of_getElem? (i := 1014) (by decide +kernel), List.mem_of_getElem? (i := 1015) (by decide +kernel)⟩
theorem lw_p24 : lw_okq (⟨"ArcheryFieldModel", "fail", "(II)V"⟩, 31) := ⟨⟨by decide +kernel, by decide +kernel⟩, List.mem_of_getElem? (i := 885) (by decide +kernel), List.mem_of_getElem? (i := 1018) (by decide +kernel), List.mem_of_getElem? (i := 1019) (by decide +kernel)⟩
theorem lw_p25 : lw_okq (⟨"ArcheryFieldModel", "isWord", "([C)Z"⟩, 31) := ⟨⟨by decide +kernel, by decide +kernel⟩, List.mem_of_getElem? (i := 885) (by decide +kernel), List.mem_of_getElem? (i := 1022) (by decide +kernel), List.mem_of_getElem? (i := 1023) (by decide +kernel)⟩
theorem lw_p26 : lw_okq (⟨"ArcheryFieldModel", "face", "()V"⟩, 31) := ⟨⟨by decide +kernel, by decide +kernel⟩, List.mem_of_getElem? (i := 885) (by decide +kernel), List.mem_of_getElem? (i := 1026) (by decide +kernel), List.mem_of_getElem? (i := 1027) (by decide +kernel)⟩
theorem lw_p27 : lw_okq (⟨"ArcheryFieldModel", "sign", "(I)V"⟩, 31) := ⟨⟨by decide +kernel, by decide +kernel⟩, List.mem_of_getElem? (i := 885) (by decide +kernel), List.mem_of_getElem? (i := 1030) (by decide +kernel), List.mem_of_getElem? (i := 1031) (by decide +kernel)⟩
theorem lw_p28 : lw_okq (⟨"ArcheryFieldModel", "numberOf", "(II)I"⟩, 31) := ⟨⟨by decide +kernel, by decide +kernel⟩, List.mem_of_getElem? (i := 885) (by decide +kernel), List.mem_of_getElem? (i := 1034) (by decide +kernel), List.mem_of_getElem? (i := 1035) (by decide +kernel)⟩
theorem lw_p29 : lw_okq (⟨"ArcheryFieldModel", "leg", "()V"⟩, 31) := ⟨⟨by decide +kernel, by decide +kernel⟩, List.mem_of_getElem? (i := 885) (by decide +kernel), List.mem_of_getElem? (i := 1038) (by decide +kernel), List.mem_of_getElem? (i := 1039) (by decide +kernel)⟩
theorem lw_p30 : lw_okq (⟨"ArcheryFieldModel", "tie", "(I)V"⟩, 31) := ⟨⟨by decide +kernel, by decide +kernel⟩, List.mem_of_getElem? (i := 885) (by decide +kernel), List.mem_of_getElem? (i := 1043) (by decide +kernel), List.mem_of_getElem? (i := 1044) (by decide +kernel)⟩
theorem lw_p31 : lw_okq (⟨"ArcheryFieldModel", "once", "(III)V"⟩, 31) := ⟨⟨by decide +kernel, by decide +kernel⟩, List.mem_of_getElem? (i := 885) (by decide +kernel), List.mem_of_getElem? (i := 1047) (by decide +kernel), List.mem_of_getElem? (i := 1048) (by decide +kernel)⟩
def lw_privs_2 : List (MethodName × Nat) := [(⟨"ArcheryField$Planner", "nextPlace", "(II)I"⟩, 7), (⟨"ArcheryField$Planner", "isParted", "(II)Z"⟩, 7), (⟨"ArcheryField$Planner", "clubOn", "(I)I"⟩, 7), (⟨"ArcheryField$Planner", "put", "(II)V"⟩, 7), (⟨"ArcheryField$Planner", "lift", "(I)V"⟩, 7), (⟨"ArcheryField$Line", "isAnyOfBay", "(II)Z"⟩, 3), (⟨"ArcheryFieldModel", "next", "()V"⟩, 31), (⟨"ArcheryFieldModel", "statement", "()V"⟩, 31), (⟨"ArcheryFieldModel", "fail", "(II)V"⟩, 31), (⟨"ArcheryFieldModel", "isWord", "([C)Z"⟩, 31), (⟨"ArcheryFieldModel", "face", "()V"⟩, 31), (⟨"ArcheryFieldModel", "sign", "(I)V"⟩, 31), (⟨"ArcheryFieldModel", "numberOf", "(II)I"⟩, 31), (⟨"ArcheryFieldModel", "leg", "()V"⟩, 31), (⟨"ArcheryFieldModel", "tie", "(I)V"⟩, 31), (⟨"ArcheryFieldModel", "once", "(III)V"⟩, 31)]
theorem lw_r2 : ∀ q ∈ lw_privs_2, lw_okq q := List.forall_mem_cons.mpr ⟨lw_p16, List.forall_mem_cons.mpr ⟨lw_p17, List.forall_mem_cons.mpr ⟨lw_p18, List.forall_mem_cons.mpr ⟨lw_p19, List.forall_mem_cons.mpr ⟨lw_p20, List.forall_mem_cons.mpr ⟨lw_p21, List.forall_mem_cons.mpr ⟨lw_p22, List.forall_mem_cons.mpr ⟨lw_p23, List.forall_mem_cons.mpr ⟨lw_p24, List.forall_mem_cons.mpr ⟨lw_p25, List.forall_mem_cons.mpr ⟨lw_p26, List.forall_mem_cons.mpr ⟨lw_p27, List.forall_mem_cons.mpr ⟨lw_p28, List.forall_mem_cons.mpr ⟨lw_p29, List.forall_mem_cons.mpr ⟨lw_p30, List.forall_mem_cons.mpr ⟨lw_p31, fun _ h => absurd h List.not_mem_nil⟩⟩⟩⟩⟩⟩⟩⟩⟩⟩⟩⟩⟩⟩⟩⟩
theorem lw_p32 : lw_okq (⟨"ArcheryFieldModel", "keeps", "()V"⟩, 31) := ⟨⟨by decide +kernel, by decide +kernel⟩, List.mem_of_getElem? (i := 885) (by decide +kernel), List.mem_of_getElem? (i := 1051) (by decide +kernel), List.mem_of_getElem? (i := 1052) (by decide +kernel)⟩
theorem lw_p33 : lw_okq (⟨"ArcheryFieldModel", "isArcher", "(I)Z"⟩, 31) := ⟨⟨by decide +kernel, by decide +kernel⟩, List.mem_of_getElem? (i := 885) (by decide +kernel), List.mem_of_getElem? (i := 1072) (by decide +kernel), List.mem_of_getElem? (i := 1073) (by decide +kernel)⟩
theorem lw_p34 : lw_okq (⟨"ArcheryFieldModel", "total", "(I)I"⟩, 31) := ⟨⟨by decide +kernel, by decide +kernel⟩, List.mem_of_getElem? (i := 885) (by decide +kernel), List.mem_of_getElem? (i := 1080) (by decide +kernel), List.mem_of_getElem? (i := 1081) (by decide +kernel)⟩
theorem lw_p35 : lw_okq (⟨"ArcheryFieldModel", "arrowsOf", "(I)I"⟩, 31) := ⟨⟨by decide +kernel, by decide +kernel⟩, List.mem_of_getElem? (i := 885) (by decide +kernel), List.mem_of_getElem? (i := 1084) (by decide +kernel), List.mem_of_getElem? (i := 1085) (by decide +kernel)⟩
theorem lw_p36 : lw_okq (⟨"ArcheryFieldModel", "legOf", "(I)I"⟩, 31) := ⟨⟨by decide +kernel, by decide +kernel⟩, List.mem_of_getElem? (i := 885) (by decide +kernel), List.mem_of_getElem? (i := 1088) (by decide +kernel), List.mem_of_getElem? (i := 1089) (by decide +kernel)⟩
theorem lw_p37 : lw_okq (⟨"ArcheryFieldModel", "sum", "(III)I"⟩, 31) := ⟨⟨by decide +kernel, by decide +kernel⟩, List.mem_of_getElem? (i := 885) (by decide +kernel), List.mem_of_getElem? (i := 1092) (by decide +kernel), List.mem_of_getElem? (i := 1093) (by decide +kernel)⟩
theorem lw_p38 : lw_okq (⟨"ArcheryFieldModel", "lastEnd", "(I)I"⟩, 31) := ⟨⟨by decide +kernel, by decide +kernel⟩, List.mem_of_getElem? (i := 885) (by decide +kernel), List.mem_of_getElem? (i := 1096) (by decide +kernel), List.mem_of_getElem? (i := 1097) (by decide +kernel)⟩
theorem lw_p39 : lw_okq (⟨"ArcheryFieldModel", "hit", "(III)I"⟩, 31) := ⟨⟨by decide +kernel, by decide +kernel⟩, List.mem_of_getElem? (i := 885) (by decide +kernel), List.mem_of_getElem? (i := 1111) (by decide +kernel), List.mem_of_getElem? (i := 1112) (by decide +kernel)⟩
theorem lw_p40 : lw_okq (⟨"ArcheryFieldModel", "most", "(II)I"⟩, 31) := ⟨⟨by decide +kernel, by decide +kernel⟩, List.mem_of_getElem? (i := 885) (by decide +kernel), List.mem_of_getElem? (i := 1135) (by decide +kernel), List.mem_of_getElem? (i := 1136) (by decide +kernel)⟩
theorem lw_p41 : lw_okq (⟨"ArcheryFieldModel", "square", "(II)I"⟩, 31) := ⟨⟨by decide +kernel, by decide +kernel⟩, List.mem_of_getElem? (i := 885) (by decide +kernel), List.mem_of_getElem? (i := 1139) (by decide +kernel), List.mem_of_getElem? (i := 1140) (by decide +kernel)⟩
theorem lw_p42 : lw_okq (⟨"ArcheryFieldModel", "isFree", "(I)Z"⟩, 31) := ⟨⟨by decide +kernel, by decide +kernel⟩, List.mem_of_getElem? (i := 885) (by decide +kernel), List.mem_of_getElem? (i := 1180) (by decide +kernel), List.mem_of_getElem? (i := 1181) (by decide +kernel)⟩
theorem lw_p43 : lw_okq (⟨"ArcheryFieldModel", "isParted", "(I)Z"⟩, 31) := ⟨⟨by decide +kernel, by decide +kernel⟩, List.mem_of_getElem? (i := 885) (by decide +kernel), List.mem_of_getElem? (i := 1184) (by decide +kernel), List.mem_of_getElem? (i := 1185) (by decide +kernel)⟩
def lw_privs_3 : List (MethodName × Nat) := [(⟨"ArcheryFieldModel", "keeps", "()V"⟩, 31), (⟨"ArcheryFieldModel", "isArcher", "(I)Z"⟩, 31), (⟨"ArcheryFieldModel", "total", "(I)I"⟩, 31), (⟨"ArcheryFieldModel", "arrowsOf", "(I)I"⟩, 31), (⟨"ArcheryFieldModel", "legOf", "(I)I"⟩, 31), (⟨"ArcheryFieldModel", "sum", "(III)I"⟩, 31), (⟨"ArcheryFieldModel", "lastEnd", "(I)I"⟩, 31), (⟨"ArcheryFieldModel", "hit", "(III)I"⟩, 31), (⟨"ArcheryFieldModel", "most", "(II)I"⟩, 31), (⟨"ArcheryFieldModel", "square", "(II)I"⟩, 31), (⟨"ArcheryFieldModel", "isFree", "(I)Z"⟩, 31), (⟨"ArcheryFieldModel", "isParted", "(I)Z"⟩, 31)]
theorem lw_r3 : ∀ q ∈ lw_privs_3, lw_okq q := List.forall_mem_cons.mpr ⟨lw_p32, List.forall_mem_cons.mpr ⟨lw_p33, List.forall_mem_cons.mpr ⟨lw_p34, List.forall_mem_cons.mpr ⟨lw_p35, List.forall_mem_cons.mpr ⟨lw_p36, List.forall_mem_cons.mpr ⟨lw_p37, List.forall_mem_cons.mpr ⟨lw_p38, List.forall_mem_cons.mpr ⟨lw_p39, List.forall_mem_cons.mpr ⟨lw_p40, List.forall_mem_cons.mpr ⟨lw_p41, List.forall_mem_cons.mpr ⟨lw_p42, List.forall_mem_cons.mpr ⟨lw_p43, fun _ h => absurd h List.not_mem_nil⟩⟩⟩⟩⟩⟩⟩⟩⟩⟩⟩⟩
def lw_privs : List (MethodName × Nat) := lw_privs_1 ++ (lw_privs_2 ++ (lw_privs_3))
def lw_tbl : List Cond := k2_sels lw_privs ++ tables_1
theorem lw_privs_ok : ∀ q ∈ lw_privs, lw_okq q := by
  show ∀ q ∈ lw_privs_1 ++ (lw_privs_2 ++ (lw_privs_3)), lw_okq q
  exact List.forall_mem_append.mpr ⟨lw_r1, List.forall_mem_append.mpr ⟨lw_r2, lw_r3⟩⟩
def RX0 : String := "ArcheryField$Archer"
def TX0 : u_T := fun k => match k with
  | 0 => ("ArcheryField$Archer", "club", "I", true)
  | 1 => ("ArcheryField$Archer", "shots", "LArcheryField$Shots;", true)
  | _ => ("ArcheryField$Archer", "scores", "LArcheryField$Scores;", true)
def tyX0 : Nat → FieldType := fun k => match k with
  | 0 => .int
  | 1 => .object "ArcheryField$Shots"
  | _ => .object "ArcheryField$Scores"
abbrev wsX00 : List Cond := u_ws RX0 TX0 3
theorem nmX0 : ∀ a, a < 3 → ∀ b, b < 3 → a ≠ b → (TX0 a).2.1 ≠ (TX0 b).2.1 := by decide +kernel
theorem tyX0_ok : ∀ k, k < 3 → parseFieldDescriptor (TX0 k).2.2.1 = some (tyX0 k) := by decide +kernel
abbrev cX0_init : ByteArray := prog_2_method_1_code
def yX0_init : MethodName := ⟨RX0, "<init>", "(ILArcheryField$Shots;LArcheryField$Scores;)V"⟩
abbrev cX0_with : ByteArray := prog_2_method_2_code
def yX0_with : MethodName := ⟨RX0, "with", "(LArcheryField$Shots;)LArcheryField$Archer;"⟩
abbrev cX0_with_ : ByteArray := prog_2_method_3_code
def yX0_with_ : MethodName := ⟨RX0, "with", "(LArcheryField$Scores;)LArcheryField$Archer;"⟩
def RX1 : String := "ArcheryField$Laws"
def TX1 : u_T := fun k => match k with
  | _ => ("ArcheryField$Laws", "rows", "[I", true)
def tyX1 : Nat → FieldType := fun k => match k with
  | _ => .array .int
abbrev wsX10 : List Cond := u_ws RX1 TX1 1
theorem nmX1 : ∀ a, a < 1 → ∀ b, b < 1 → a ≠ b → (TX1 a).2.1 ≠ (TX1 b).2.1 := by decide +kernel
theorem tyX1_ok : ∀ k, k < 1 → parseFieldDescriptor (TX1 k).2.2.1 = some (tyX1 k) := by decide +kernel
abbrev cX1_init : ByteArray := prog_3_method_1_code
def yX1_init : MethodName := ⟨RX1, "<init>", "()V"⟩
abbrev cX1_init_ : ByteArray := prog_3_method_2_code
def yX1_init_ : MethodName := ⟨RX1, "<init>", "([I)V"⟩
abbrev cX1_count : ByteArray := prog_3_method_3_code
def yX1_count : MethodName := ⟨RX1, "count", "()I"⟩
abbrev cX1_canAdd : ByteArray := prog_3_method_4_code
def yX1_canAdd : MethodName := ⟨RX1, "canAdd", "(II)Z"⟩
abbrev cX1_with : ByteArray := prog_3_method_5_code
def yX1_with : MethodName := ⟨RX1, "with", "(III)LArcheryField$Laws;"⟩
abbrev cX1_classOf : ByteArray := prog_3_method_6_code
def yX1_classOf : MethodName := ⟨RX1, "classOf", "(LArcheryField$Scores;II)I"⟩
def RX2 : String := "ArcheryField$Line"
def TX2 : u_T := fun k => match k with
  | 0 => ("ArcheryField$Line", "bays", "[I", true)
  | 1 => ("ArcheryField$Line", "states", "[I", true)
  | _ => ("ArcheryField$Line", "seats", "[I", true)
def tyX2 : Nat → FieldType := fun k => match k with
  | 0 => .array .int
  | 1 => .array .int
  | _ => .array .int
abbrev wsX20 : List Cond := u_ws RX2 TX2 3
theorem nmX2 : ∀ a, a < 3 → ∀ b, b < 3 → a ≠ b → (TX2 a).2.1 ≠ (TX2 b).2.1 := by decide +kernel
theorem tyX2_ok : ∀ k, k < 3 → parseFieldDescriptor (TX2 k).2.2.1 = some (tyX2 k) := by decide +kernel
abbrev cX2_init : ByteArray := prog_4_method_1_code
def yX2_init : MethodName := ⟨RX2, "<init>", "()V"⟩
abbrev cX2_init_ : ByteArray := prog_4_method_2_code
def yX2_init_ : MethodName := ⟨RX2, "<init>", "([I[I[I)V"⟩
abbrev cX2_countLanes : ByteArray := prog_4_method_3_code
def yX2_countLanes : MethodName := ⟨RX2, "countLanes", "()I"⟩
abbrev cX2_countPlaces : ByteArray := prog_4_method_4_code
def yX2_countPlaces : MethodName := ⟨RX2, "countPlaces", "()I"⟩
abbrev cX2_canAdd : ByteArray := prog_4_method_5_code
def yX2_canAdd : MethodName := ⟨RX2, "canAdd", "(I)Z"⟩
abbrev cX2_withBay : ByteArray := prog_4_method_6_code
def yX2_withBay : MethodName := ⟨RX2, "withBay", "(I)LArcheryField$Line;"⟩
abbrev cX2_withSeats : ByteArray := prog_4_method_7_code
def yX2_withSeats : MethodName := ⟨RX2, "withSeats", "([I)LArcheryField$Line;"⟩
abbrev cX2_without : ByteArray := prog_4_method_8_code
def yX2_without : MethodName := ⟨RX2, "without", "(I)LArcheryField$Line;"⟩
abbrev cX2_placeOf : ByteArray := prog_4_method_9_code
def yX2_placeOf : MethodName := ⟨RX2, "placeOf", "(I)I"⟩
abbrev cX2_seatedOn : ByteArray := prog_4_method_10_code
def yX2_seatedOn : MethodName := ⟨RX2, "seatedOn", "(I)I"⟩
abbrev cX2_stateOf : ByteArray := prog_4_method_11_code
def yX2_stateOf : MethodName := ⟨RX2, "stateOf", "(I)I"⟩
abbrev cX2_mayBecome : ByteArray := prog_4_method_12_code
def yX2_mayBecome : MethodName := ⟨RX2, "mayBecome", "(II)Z"⟩
abbrev cX2_isAnyOfBay : ByteArray := prog_4_method_13_code
def yX2_isAnyOfBay : MethodName := ⟨RX2, "isAnyOfBay", "(II)Z"⟩
abbrev cX2_withState : ByteArray := prog_4_method_14_code
def yX2_withState : MethodName := ⟨RX2, "withState", "(II)LArcheryField$Line;"⟩
def RX3 : String := "ArcheryField$Planner"
def TX3 : u_T := fun k => match k with
  | 0 => ("ArcheryField$Planner", "numbers", "[I", true)
  | 1 => ("ArcheryField$Planner", "clubs", "[I", true)
  | 2 => ("ArcheryField$Planner", "placed", "[I", true)
  | 3 => ("ArcheryField$Planner", "archers", "I", false)
  | 4 => ("ArcheryField$Planner", "seats", "[I", true)
  | 5 => ("ArcheryField$Planner", "seatClubs", "[I", true)
  | _ => ("ArcheryField$Planner", "tries", "I", false)
def tyX3 : Nat → FieldType := fun k => match k with
  | 0 => .array .int
  | 1 => .array .int
  | 2 => .array .int
  | 3 => .int
  | 4 => .array .int
  | 5 => .array .int
  | _ => .int
abbrev wsX30 : List Cond := u_ws RX3 TX3 7
theorem nmX3 : ∀ a, a < 7 → ∀ b, b < 7 → a ≠ b → (TX3 a).2.1 ≠ (TX3 b).2.1 := by decide +kernel
theorem tyX3_ok : ∀ k, k < 7 → parseFieldDescriptor (TX3 k).2.2.1 = some (tyX3 k) := by decide +kernel
abbrev cX3_init : ByteArray := prog_5_method_1_code
def yX3_init : MethodName := ⟨RX3, "<init>", "(LArcheryField$State;I)V"⟩
abbrev cX3_search : ByteArray := prog_5_method_2_code
def yX3_search : MethodName := ⟨RX3, "search", "()I"⟩
abbrev cX3_nextPlace : ByteArray := prog_5_method_3_code
def yX3_nextPlace : MethodName := ⟨RX3, "nextPlace", "(II)I"⟩
abbrev cX3_isParted : ByteArray := prog_5_method_4_code
def yX3_isParted : MethodName := ⟨RX3, "isParted", "(II)Z"⟩
abbrev cX3_clubOn : ByteArray := prog_5_method_5_code
def yX3_clubOn : MethodName := ⟨RX3, "clubOn", "(I)I"⟩
abbrev cX3_put : ByteArray := prog_5_method_6_code
def yX3_put : MethodName := ⟨RX3, "put", "(II)V"⟩
abbrev cX3_lift : ByteArray := prog_5_method_7_code
def yX3_lift : MethodName := ⟨RX3, "lift", "(I)V"⟩
def RX4 : String := "ArcheryField$Quiver"
def TX4 : u_T := fun k => match k with
  | 0 => ("ArcheryField$Quiver", "kinds", "[I", true)
  | 1 => ("ArcheryField$Quiver", "xs", "[I", true)
  | 2 => ("ArcheryField$Quiver", "ys", "[I", true)
  | 3 => ("ArcheryField$Quiver", "count", "I", false)
  | _ => ("ArcheryField$Quiver", "judged", "[I", true)
def tyX4 : Nat → FieldType := fun k => match k with
  | 0 => .array .int
  | 1 => .array .int
  | 2 => .array .int
  | 3 => .int
  | _ => .array .int
abbrev wsX40 : List Cond := u_ws RX4 TX4 5
theorem nmX4 : ∀ a, a < 5 → ∀ b, b < 5 → a ≠ b → (TX4 a).2.1 ≠ (TX4 b).2.1 := by decide +kernel
theorem tyX4_ok : ∀ k, k < 5 → parseFieldDescriptor (TX4 k).2.2.1 = some (tyX4 k) := by decide +kernel
abbrev cX4_init : ByteArray := prog_6_method_1_code
def yX4_init : MethodName := ⟨RX4, "<init>", "()V"⟩
abbrev cX4_add : ByteArray := prog_6_method_2_code
def yX4_add : MethodName := ⟨RX4, "add", "(III)Z"⟩
abbrev cX4_canBe : ByteArray := prog_6_method_3_code
def yX4_canBe : MethodName := ⟨RX4, "canBe", "(III)Z"⟩
abbrev cX4_empty : ByteArray := prog_6_method_4_code
def yX4_empty : MethodName := ⟨RX4, "empty", "()I"⟩
abbrev cX4_judge : ByteArray := prog_6_method_5_code
def yX4_judge : MethodName := ⟨RX4, "judge", "(LArcheryField$Round;II)I"⟩
abbrev cX4_judgeOne : ByteArray := prog_6_method_6_code
def yX4_judgeOne : MethodName := ⟨RX4, "judgeOne", "(LArcheryField$Round;II)I"⟩
abbrev cX4_judgeIn : ByteArray := prog_6_method_7_code
def yX4_judgeIn : MethodName := ⟨RX4, "judgeIn", "(II)I"⟩
def RX5 : String := "ArcheryField$Reader"
def TX5 : u_T := fun k => match k with
  | 0 => ("ArcheryField$Reader", "tape", "LArcheryField$Tape;", true)
  | 1 => ("ArcheryField$Reader", "draft", "LArcheryField$Round;", false)
  | 2 => ("ArcheryField$Reader", "at", "I", false)
  | 3 => ("ArcheryField$Reader", "number", "I", false)
  | 4 => ("ArcheryField$Reader", "numberPlace", "I", false)
  | 5 => ("ArcheryField$Reader", "fault", "I", false)
  | _ => ("ArcheryField$Reader", "place", "I", false)
def tyX5 : Nat → FieldType := fun k => match k with
  | 0 => .object "ArcheryField$Tape"
  | 1 => .object "ArcheryField$Round"
  | 2 => .int
  | 3 => .int
  | 4 => .int
  | 5 => .int
  | _ => .int
abbrev wsX50 : List Cond := u_ws RX5 TX5 7
theorem nmX5 : ∀ a, a < 7 → ∀ b, b < 7 → a ≠ b → (TX5 a).2.1 ≠ (TX5 b).2.1 := by decide +kernel
theorem tyX5_ok : ∀ k, k < 7 → parseFieldDescriptor (TX5 k).2.2.1 = some (tyX5 k) := by decide +kernel
abbrev cX5_init : ByteArray := prog_7_method_1_code
def yX5_init : MethodName := ⟨RX5, "<init>", "()V"⟩
abbrev cX5_read : ByteArray := prog_7_method_2_code
def yX5_read : MethodName := ⟨RX5, "read", "()LArcheryField$Round;"⟩
abbrev cX5_readStatement : ByteArray := prog_7_method_3_code
def yX5_readStatement : MethodName := ⟨RX5, "readStatement", "()Z"⟩
abbrev cX5_readFace : ByteArray := prog_7_method_4_code
def yX5_readFace : MethodName := ⟨RX5, "readFace", "(I)Z"⟩
abbrev cX5_readLeg : ByteArray := prog_7_method_5_code
def yX5_readLeg : MethodName := ⟨RX5, "readLeg", "(I)Z"⟩
abbrev cX5_mayTie : ByteArray := prog_7_method_6_code
def yX5_mayTie : MethodName := ⟨RX5, "mayTie", "(I)Z"⟩
abbrev cX5_readOnce : ByteArray := prog_7_method_7_code
def yX5_readOnce : MethodName := ⟨RX5, "readOnce", "(III)Z"⟩
abbrev cX5_readNumber : ByteArray := prog_7_method_8_code
def yX5_readNumber : MethodName := ⟨RX5, "readNumber", "(II)Z"⟩
abbrev cX5_readSign : ByteArray := prog_7_method_9_code
def yX5_readSign : MethodName := ⟨RX5, "readSign", "(C)Z"⟩
abbrev cX5_isDigitNext : ByteArray := prog_7_method_10_code
def yX5_isDigitNext : MethodName := ⟨RX5, "isDigitNext", "()Z"⟩
abbrev cX5_skipBlanks : ByteArray := prog_7_method_11_code
def yX5_skipBlanks : MethodName := ⟨RX5, "skipBlanks", "()V"⟩
abbrev cX5_skipLetters : ByteArray := prog_7_method_12_code
def yX5_skipLetters : MethodName := ⟨RX5, "skipLetters", "()V"⟩
abbrev cX5_isSpelt : ByteArray := prog_7_method_13_code
def yX5_isSpelt : MethodName := ⟨RX5, "isSpelt", "(ILjava/lang/String;)Z"⟩
abbrev cX5_refuse : ByteArray := prog_7_method_14_code
def yX5_refuse : MethodName := ⟨RX5, "refuse", "(II)Z"⟩
abbrev cX5_isBlank : ByteArray := prog_7_method_15_code
def yX5_isBlank : MethodName := ⟨RX5, "isBlank", "(I)Z"⟩
abbrev cX5_isLetter : ByteArray := prog_7_method_16_code
def yX5_isLetter : MethodName := ⟨RX5, "isLetter", "(I)Z"⟩
abbrev cX5_isDigit : ByteArray := prog_7_method_17_code
def yX5_isDigit : MethodName := ⟨RX5, "isDigit", "(I)Z"⟩
def RX6 : String := "ArcheryField$Round"
def TX6 : u_T := fun k => match k with
  | 0 => ("ArcheryField$Round", "faces", "I", false)
  | 1 => ("ArcheryField$Round", "lines", "[I", true)
  | 2 => ("ArcheryField$Round", "radii", "[I", true)
  | 3 => ("ArcheryField$Round", "values", "[I", true)
  | 4 => ("ArcheryField$Round", "legs", "I", false)
  | 5 => ("ArcheryField$Round", "legEnds", "[I", true)
  | 6 => ("ArcheryField$Round", "legArrows", "[I", true)
  | 7 => ("ArcheryField$Round", "legFaces", "[I", true)
  | 8 => ("ArcheryField$Round", "ties", "I", false)
  | 9 => ("ArcheryField$Round", "tieKinds", "[I", true)
  | _ => ("ArcheryField$Round", "settings", "[I", true)
def tyX6 : Nat → FieldType := fun k => match k with
  | 0 => .int
  | 1 => .array .int
  | 2 => .array .int
  | 3 => .array .int
  | 4 => .int
  | 5 => .array .int
  | 6 => .array .int
  | 7 => .array .int
  | 8 => .int
  | 9 => .array .int
  | _ => .array .int
abbrev wsX60 : List Cond := u_ws RX6 TX6 11
theorem nmX6 : ∀ a, a < 11 → ∀ b, b < 11 → a ≠ b → (TX6 a).2.1 ≠ (TX6 b).2.1 := by decide +kernel
theorem tyX6_ok : ∀ k, k < 11 → parseFieldDescriptor (TX6 k).2.2.1 = some (tyX6 k) := by decide +kernel
abbrev cX6_init : ByteArray := prog_8_method_1_code
def yX6_init : MethodName := ⟨RX6, "<init>", "()V"⟩
abbrev cX6_addFace : ByteArray := prog_8_method_2_code
def yX6_addFace : MethodName := ⟨RX6, "addFace", "()Z"⟩
abbrev cX6_addLine : ByteArray := prog_8_method_3_code
def yX6_addLine : MethodName := ⟨RX6, "addLine", "(II)V"⟩
abbrev cX6_addLeg : ByteArray := prog_8_method_4_code
def yX6_addLeg : MethodName := ⟨RX6, "addLeg", "(III)Z"⟩
abbrev cX6_canTie : ByteArray := prog_8_method_5_code
def yX6_canTie : MethodName := ⟨RX6, "canTie", "()Z"⟩
abbrev cX6_addTie : ByteArray := prog_8_method_6_code
def yX6_addTie : MethodName := ⟨RX6, "addTie", "(I)Z"⟩
abbrev cX6_isSet : ByteArray := prog_8_method_7_code
def yX6_isSet : MethodName := ⟨RX6, "isSet", "(I)Z"⟩
abbrev cX6_set : ByteArray := prog_8_method_8_code
def yX6_set : MethodName := ⟨RX6, "set", "(II)Z"⟩
abbrev cX6_setting : ByteArray := prog_8_method_9_code
def yX6_setting : MethodName := ⟨RX6, "setting", "(I)I"⟩
abbrev cX6_tell : ByteArray := prog_8_method_10_code
def yX6_tell : MethodName := ⟨RX6, "tell", "(I)I"⟩
abbrev cX6_countEnds : ByteArray := prog_8_method_11_code
def yX6_countEnds : MethodName := ⟨RX6, "countEnds", "()I"⟩
abbrev cX6_countArrows : ByteArray := prog_8_method_12_code
def yX6_countArrows : MethodName := ⟨RX6, "countArrows", "()I"⟩
abbrev cX6_legOf : ByteArray := prog_8_method_13_code
def yX6_legOf : MethodName := ⟨RX6, "legOf", "(I)I"⟩
abbrev cX6_arrowsOf : ByteArray := prog_8_method_14_code
def yX6_arrowsOf : MethodName := ⟨RX6, "arrowsOf", "(I)I"⟩
abbrev cX6_valueAt : ByteArray := prog_8_method_15_code
def yX6_valueAt : MethodName := ⟨RX6, "valueAt", "(III)I"⟩
abbrev cX6_compare : ByteArray := prog_8_method_16_code
def yX6_compare : MethodName := ⟨RX6, "compare", "(LArcheryField$Shots;LArcheryField$Shots;)I"⟩
abbrev cX6_compareBy : ByteArray := prog_8_method_17_code
def yX6_compareBy : MethodName := ⟨RX6, "compareBy", "(ILArcheryField$Shots;LArcheryField$Shots;)I"⟩
abbrev cX6_compareOffs : ByteArray := prog_8_method_18_code
def yX6_compareOffs : MethodName := ⟨RX6, "compareOffs", "(LArcheryField$Shots;LArcheryField$Shots;)I"⟩
def RX7 : String := "ArcheryField$Scores"
def TX7 : u_T := fun k => match k with
  | _ => ("ArcheryField$Scores", "rows", "[I", true)
def tyX7 : Nat → FieldType := fun k => match k with
  | _ => .array .int
abbrev wsX70 : List Cond := u_ws RX7 TX7 1
theorem nmX7 : ∀ a, a < 1 → ∀ b, b < 1 → a ≠ b → (TX7 a).2.1 ≠ (TX7 b).2.1 := by decide +kernel
theorem tyX7_ok : ∀ k, k < 1 → parseFieldDescriptor (TX7 k).2.2.1 = some (tyX7 k) := by decide +kernel
abbrev cX7_init : ByteArray := prog_9_method_1_code
def yX7_init : MethodName := ⟨RX7, "<init>", "()V"⟩
abbrev cX7_init_ : ByteArray := prog_9_method_2_code
def yX7_init_ : MethodName := ⟨RX7, "<init>", "([I)V"⟩
abbrev cX7_count : ByteArray := prog_9_method_3_code
def yX7_count : MethodName := ⟨RX7, "count", "()I"⟩
abbrev cX7_with : ByteArray := prog_9_method_4_code
def yX7_with : MethodName := ⟨RX7, "with", "(III)LArcheryField$Scores;"⟩
abbrev cX7_canStrike : ByteArray := prog_9_method_5_code
def yX7_canStrike : MethodName := ⟨RX7, "canStrike", "(I)Z"⟩
abbrev cX7_withStruck : ByteArray := prog_9_method_6_code
def yX7_withStruck : MethodName := ⟨RX7, "withStruck", "(II)LArcheryField$Scores;"⟩
abbrev cX7_countFor : ByteArray := prog_9_method_7_code
def yX7_countFor : MethodName := ⟨RX7, "countFor", "(III)I"⟩
abbrev cX7_standsFor : ByteArray := prog_9_method_8_code
def yX7_standsFor : MethodName := ⟨RX7, "standsFor", "(III)Z"⟩
def RX8 : String := "ArcheryField$Shots"
def TX8 : u_T := fun k => match k with
  | 0 => ("ArcheryField$Shots", "sums", "[I", true)
  | 1 => ("ArcheryField$Shots", "counts", "[I", true)
  | _ => ("ArcheryField$Shots", "squares", "[I", true)
def tyX8 : Nat → FieldType := fun k => match k with
  | 0 => .array .int
  | 1 => .array .int
  | _ => .array .int
abbrev wsX80 : List Cond := u_ws RX8 TX8 3
theorem nmX8 : ∀ a, a < 3 → ∀ b, b < 3 → a ≠ b → (TX8 a).2.1 ≠ (TX8 b).2.1 := by decide +kernel
theorem tyX8_ok : ∀ k, k < 3 → parseFieldDescriptor (TX8 k).2.2.1 = some (tyX8 k) := by decide +kernel
abbrev cX8_init : ByteArray := prog_10_method_1_code
def yX8_init : MethodName := ⟨RX8, "<init>", "()V"⟩
abbrev cX8_init_ : ByteArray := prog_10_method_2_code
def yX8_init_ : MethodName := ⟨RX8, "<init>", "([I[I[I)V"⟩
abbrev cX8_countEnds : ByteArray := prog_10_method_3_code
def yX8_countEnds : MethodName := ⟨RX8, "countEnds", "()I"⟩
abbrev cX8_countOffs : ByteArray := prog_10_method_4_code
def yX8_countOffs : MethodName := ⟨RX8, "countOffs", "()I"⟩
abbrev cX8_total : ByteArray := prog_10_method_5_code
def yX8_total : MethodName := ⟨RX8, "total", "()I"⟩
abbrev cX8_lastSum : ByteArray := prog_10_method_6_code
def yX8_lastSum : MethodName := ⟨RX8, "lastSum", "()I"⟩
abbrev cX8_counted : ByteArray := prog_10_method_7_code
def yX8_counted : MethodName := ⟨RX8, "counted", "(I)I"⟩
abbrev cX8_countOf : ByteArray := prog_10_method_8_code
def yX8_countOf : MethodName := ⟨RX8, "countOf", "(I)I"⟩
abbrev cX8_squareOf : ByteArray := prog_10_method_9_code
def yX8_squareOf : MethodName := ⟨RX8, "squareOf", "(I)I"⟩
abbrev cX8_withEnd : ByteArray := prog_10_method_10_code
def yX8_withEnd : MethodName := ⟨RX8, "withEnd", "([III)LArcheryField$Shots;"⟩
abbrev cX8_withoutLast : ByteArray := prog_10_method_11_code
def yX8_withoutLast : MethodName := ⟨RX8, "withoutLast", "(I)LArcheryField$Shots;"⟩
abbrev cX8_withOff : ByteArray := prog_10_method_12_code
def yX8_withOff : MethodName := ⟨RX8, "withOff", "(I)LArcheryField$Shots;"⟩
abbrev cX8_joined : ByteArray := prog_10_method_13_code
def yX8_joined : MethodName := ⟨RX8, "joined", "([II)[I"⟩
def RX9 : String := "ArcheryField$State"
def TX9 : u_T := fun k => match k with
  | 0 => ("ArcheryField$State", "round", "LArcheryField$Round;", false)
  | 1 => ("ArcheryField$State", "archers", "[LArcheryField$Archer;", true)
  | 2 => ("ArcheryField$State", "laws", "LArcheryField$Laws;", false)
  | 3 => ("ArcheryField$State", "line", "LArcheryField$Line;", false)
  | _ => ("ArcheryField$State", "today", "I", false)
def tyX9 : Nat → FieldType := fun k => match k with
  | 0 => .object "ArcheryField$Round"
  | 1 => .array (.object "ArcheryField$Archer")
  | 2 => .object "ArcheryField$Laws"
  | 3 => .object "ArcheryField$Line"
  | _ => .int
abbrev wsX90 : List Cond := u_ws RX9 TX9 5
theorem nmX9 : ∀ a, a < 5 → ∀ b, b < 5 → a ≠ b → (TX9 a).2.1 ≠ (TX9 b).2.1 := by decide +kernel
theorem tyX9_ok : ∀ k, k < 5 → parseFieldDescriptor (TX9 k).2.2.1 = some (tyX9 k) := by decide +kernel
abbrev cX9_init : ByteArray := prog_11_method_1_code
def yX9_init : MethodName := ⟨RX9, "<init>", "()V"⟩
abbrev cX9_init_ : ByteArray := prog_11_method_2_code
def yX9_init_ : MethodName := ⟨RX9, "<init>", "(LArcheryField$State;)V"⟩
abbrev cX9_find : ByteArray := prog_11_method_3_code
def yX9_find : MethodName := ⟨RX9, "find", "(I)LArcheryField$Archer;"⟩
abbrev cX9_put : ByteArray := prog_11_method_4_code
def yX9_put : MethodName := ⟨RX9, "put", "(ILArcheryField$Archer;)V"⟩
abbrev cX9_freeNumber : ByteArray := prog_11_method_5_code
def yX9_freeNumber : MethodName := ⟨RX9, "freeNumber", "()I"⟩
abbrev cX9_forgetShots : ByteArray := prog_11_method_6_code
def yX9_forgetShots : MethodName := ⟨RX9, "forgetShots", "()V"⟩
def RX10 : String := "ArcheryField$Tape"
def TX10 : u_T := fun k => match k with
  | 0 => ("ArcheryField$Tape", "bytes", "[B", true)
  | _ => ("ArcheryField$Tape", "length", "I", false)
def tyX10 : Nat → FieldType := fun k => match k with
  | 0 => .array .byte
  | _ => .int
abbrev wsX100 : List Cond := u_ws RX10 TX10 2
theorem nmX10 : ∀ a, a < 2 → ∀ b, b < 2 → a ≠ b → (TX10 a).2.1 ≠ (TX10 b).2.1 := by decide +kernel
theorem tyX10_ok : ∀ k, k < 2 → parseFieldDescriptor (TX10 k).2.2.1 = some (tyX10 k) := by decide +kernel
abbrev cX10_init : ByteArray := prog_12_method_1_code
def yX10_init : MethodName := ⟨RX10, "<init>", "()V"⟩
abbrev cX10_append : ByteArray := prog_12_method_2_code
def yX10_append : MethodName := ⟨RX10, "append", "(I)V"⟩
abbrev cX10_signAt : ByteArray := prog_12_method_3_code
def yX10_signAt : MethodName := ⟨RX10, "signAt", "(I)I"⟩
def RX11 : String := "ArcheryField"
def TX11 : u_T := fun k => match k with
  | 0 => ("ArcheryField", "reader", "LArcheryField$Reader;", true)
  | 1 => ("ArcheryField", "tape", "LArcheryField$Tape;", true)
  | 2 => ("ArcheryField", "quiver", "LArcheryField$Quiver;", true)
  | 3 => ("ArcheryField", "kept", "[LArcheryField$State;", true)
  | 4 => ("ArcheryField", "keptCount", "I", false)
  | _ => ("ArcheryField", "now", "LArcheryField$State;", false)
def tyX11 : Nat → FieldType := fun k => match k with
  | 0 => .object "ArcheryField$Reader"
  | 1 => .object "ArcheryField$Tape"
  | 2 => .object "ArcheryField$Quiver"
  | 3 => .array (.object "ArcheryField$State")
  | 4 => .int
  | _ => .object "ArcheryField$State"
abbrev wsX110 : List Cond := u_ws RX11 TX11 6
theorem nmX11 : ∀ a, a < 6 → ∀ b, b < 6 → a ≠ b → (TX11 a).2.1 ≠ (TX11 b).2.1 := by decide +kernel
theorem tyX11_ok : ∀ k, k < 6 → parseFieldDescriptor (TX11 k).2.2.1 = some (tyX11 k) := by decide +kernel
abbrev cX11_init : ByteArray := prog_1_method_1_code
def yX11_init : MethodName := ⟨RX11, "<init>", "()V"⟩
abbrev cX11_feed : ByteArray := prog_1_method_2_code
def yX11_feed : MethodName := ⟨RX11, "feed", "(IIIII)I"⟩
abbrev cX11_end : ByteArray := prog_1_method_3_code
def yX11_end : MethodName := ⟨RX11, "end", "(I)Z"⟩
abbrev cX11_round : ByteArray := prog_1_method_4_code
def yX11_round : MethodName := ⟨RX11, "round", "()I"⟩
abbrev cX11_fault : ByteArray := prog_1_method_5_code
def yX11_fault : MethodName := ⟨RX11, "fault", "(I)I"⟩
abbrev cX11_of : ByteArray := prog_1_method_6_code
def yX11_of : MethodName := ⟨RX11, "of", "(I)I"⟩
abbrev cX11_archer : ByteArray := prog_1_method_7_code
def yX11_archer : MethodName := ⟨RX11, "archer", "(I)I"⟩
abbrev cX11_leave : ByteArray := prog_1_method_8_code
def yX11_leave : MethodName := ⟨RX11, "leave", "(I)Z"⟩
abbrev cX11_told : ByteArray := prog_1_method_9_code
def yX11_told : MethodName := ⟨RX11, "told", "(II)I"⟩
abbrev cX11_arrow : ByteArray := prog_1_method_10_code
def yX11_arrow : MethodName := ⟨RX11, "arrow", "(III)I"⟩
abbrev cX11_shoot : ByteArray := prog_1_method_11_code
def yX11_shoot : MethodName := ⟨RX11, "shoot", "(I)I"⟩
abbrev cX11_value : ByteArray := prog_1_method_12_code
def yX11_value : MethodName := ⟨RX11, "value", "(II)I"⟩
abbrev cX11_take : ByteArray := prog_1_method_13_code
def yX11_take : MethodName := ⟨RX11, "take", "(I)I"⟩
abbrev cX11_off : ByteArray := prog_1_method_14_code
def yX11_off : MethodName := ⟨RX11, "off", "(IIII)I"⟩
abbrev cX11_ahead : ByteArray := prog_1_method_15_code
def yX11_ahead : MethodName := ⟨RX11, "ahead", "(II)I"⟩
abbrev cX11_rank : ByteArray := prog_1_method_16_code
def yX11_rank : MethodName := ⟨RX11, "rank", "(I)I"⟩
abbrev cX11_today : ByteArray := prog_1_method_17_code
def yX11_today : MethodName := ⟨RX11, "today", "(I)Z"⟩
abbrev cX11_score : ByteArray := prog_1_method_18_code
def yX11_score : MethodName := ⟨RX11, "score", "(III)I"⟩
abbrev cX11_strike : ByteArray := prog_1_method_19_code
def yX11_strike : MethodName := ⟨RX11, "strike", "(II)Z"⟩
abbrev cX11_law : ByteArray := prog_1_method_20_code
def yX11_law : MethodName := ⟨RX11, "law", "(III)I"⟩
abbrev cX11_kind : ByteArray := prog_1_method_21_code
def yX11_kind : MethodName := ⟨RX11, "kind", "(III)I"⟩
abbrev cX11_bay : ByteArray := prog_1_method_22_code
def yX11_bay : MethodName := ⟨RX11, "bay", "(I)I"⟩
abbrev cX11_layout : ByteArray := prog_1_method_23_code
def yX11_layout : MethodName := ⟨RX11, "layout", "()I"⟩
abbrev cX11_on : ByteArray := prog_1_method_24_code
def yX11_on : MethodName := ⟨RX11, "on", "(I)I"⟩
abbrev cX11_lane : ByteArray := prog_1_method_25_code
def yX11_lane : MethodName := ⟨RX11, "lane", "(II)I"⟩
abbrev cX11_state : ByteArray := prog_1_method_26_code
def yX11_state : MethodName := ⟨RX11, "state", "(I)I"⟩
abbrev cX11_undo : ByteArray := prog_1_method_27_code
def yX11_undo : MethodName := ⟨RX11, "undo", "()I"⟩
abbrev cX11_change : ByteArray := prog_1_method_28_code
def yX11_change : MethodName := ⟨RX11, "change", "()LArcheryField$State;"⟩
abbrev cX11_isDay : ByteArray := prog_1_method_29_code
def yX11_isDay : MethodName := ⟨RX11, "isDay", "(I)Z"⟩
abbrev cX11_isScore : ByteArray := prog_1_method_30_code
def yX11_isScore : MethodName := ⟨RX11, "isScore", "(I)Z"⟩
abbrev cX11_isOnField : ByteArray := prog_1_method_31_code
def yX11_isOnField : MethodName := ⟨RX11, "isOnField", "(II)Z"⟩
def RX12 : String := "ArcheryFieldModel"
def TX12 : u_T := fun k => match k with
  | 0 => ("ArcheryFieldModel", "d", "[I", true)
  | 1 => ("ArcheryFieldModel", "changes", "I", false)
  | 2 => ("ArcheryFieldModel", "tape", "[I", true)
  | 3 => ("ArcheryFieldModel", "taped", "I", false)
  | 4 => ("ArcheryFieldModel", "at", "I", false)
  | 5 => ("ArcheryFieldModel", "size", "I", false)
  | 6 => ("ArcheryFieldModel", "token", "I", false)
  | 7 => ("ArcheryFieldModel", "begun", "I", false)
  | 8 => ("ArcheryFieldModel", "number", "I", false)
  | 9 => ("ArcheryFieldModel", "bad", "I", false)
  | 10 => ("ArcheryFieldModel", "badPlace", "I", false)
  | 11 => ("ArcheryFieldModel", "fault", "I", false)
  | 12 => ("ArcheryFieldModel", "faultPlace", "I", false)
  | 13 => ("ArcheryFieldModel", "faceWord", "[C", true)
  | 14 => ("ArcheryFieldModel", "legWord", "[C", true)
  | 15 => ("ArcheryFieldModel", "mostWord", "[C", true)
  | 16 => ("ArcheryFieldModel", "lastWord", "[C", true)
  | 17 => ("ArcheryFieldModel", "nearestWord", "[C", true)
  | 18 => ("ArcheryFieldModel", "bouncedWord", "[C", true)
  | 19 => ("ArcheryFieldModel", "passedWord", "[C", true)
  | 20 => ("ArcheryFieldModel", "shaftWord", "[C", true)
  | 21 => ("ArcheryFieldModel", "\x72", "[I", true)
  | 22 => ("ArcheryFieldModel", "had", "[Z", true)
  | 23 => ("ArcheryFieldModel", "waits", "I", false)
  | 24 => ("ArcheryFieldModel", "waitKind", "[I", true)
  | 25 => ("ArcheryFieldModel", "waitX", "[I", true)
  | 26 => ("ArcheryFieldModel", "waitY", "[I", true)
  | 27 => ("ArcheryFieldModel", "counted", "[I", true)
  | 28 => ("ArcheryFieldModel", "placed", "I", false)
  | 29 => ("ArcheryFieldModel", "who", "[I", true)
  | _ => ("ArcheryFieldModel", "where", "[I", true)
def tyX12 : Nat → FieldType := fun k => match k with
  | 0 => .array .int
  | 1 => .int
  | 2 => .array .int
  | 3 => .int
  | 4 => .int
  | 5 => .int
  | 6 => .int
  | 7 => .int
  | 8 => .int
  | 9 => .int
  | 10 => .int
  | 11 => .int
  | 12 => .int
  | 13 => .array .char
  | 14 => .array .char
  | 15 => .array .char
  | 16 => .array .char
  | 17 => .array .char
  | 18 => .array .char
  | 19 => .array .char
  | 20 => .array .char
  | 21 => .array .int
  | 22 => .array .boolean
  | 23 => .int
  | 24 => .array .int
  | 25 => .array .int
  | 26 => .array .int
  | 27 => .array .int
  | 28 => .int
  | 29 => .array .int
  | _ => .array .int
abbrev wsX120 : List Cond := u_ws RX12 TX12 31
theorem nmX12 : ∀ a, a < 31 → ∀ b, b < 31 → a ≠ b → (TX12 a).2.1 ≠ (TX12 b).2.1 := by decide +kernel
theorem tyX12_ok : ∀ k, k < 31 → parseFieldDescriptor (TX12 k).2.2.1 = some (tyX12 k) := by decide +kernel
abbrev cX12_init : ByteArray := prog_14_method_1_code
def yX12_init : MethodName := ⟨RX12, "<init>", "()V"⟩
abbrev cX12_keeps : ByteArray := prog_14_method_2_code
def yX12_keeps : MethodName := ⟨RX12, "keeps", "()V"⟩
abbrev cX12_undo : ByteArray := prog_14_method_3_code
def yX12_undo : MethodName := ⟨RX12, "undo", "()I"⟩
abbrev cX12_feed : ByteArray := prog_14_method_4_code
def yX12_feed : MethodName := ⟨RX12, "feed", "(IIIII)I"⟩
abbrev cX12_end : ByteArray := prog_14_method_5_code
def yX12_end : MethodName := ⟨RX12, "end", "(I)Z"⟩
abbrev cX12_fail : ByteArray := prog_14_method_6_code
def yX12_fail : MethodName := ⟨RX12, "fail", "(II)V"⟩
abbrev cX12_isLetter : ByteArray := prog_14_method_7_code
def yX12_isLetter : MethodName := ⟨RX12, "isLetter", "(I)Z"⟩
abbrev cX12_isDigit : ByteArray := prog_14_method_8_code
def yX12_isDigit : MethodName := ⟨RX12, "isDigit", "(I)Z"⟩
abbrev cX12_next : ByteArray := prog_14_method_9_code
def yX12_next : MethodName := ⟨RX12, "next", "()V"⟩
abbrev cX12_isWord : ByteArray := prog_14_method_10_code
def yX12_isWord : MethodName := ⟨RX12, "isWord", "([C)Z"⟩
abbrev cX12_numberOf : ByteArray := prog_14_method_11_code
def yX12_numberOf : MethodName := ⟨RX12, "numberOf", "(II)I"⟩
abbrev cX12_sign : ByteArray := prog_14_method_12_code
def yX12_sign : MethodName := ⟨RX12, "sign", "(I)V"⟩
abbrev cX12_face : ByteArray := prog_14_method_13_code
def yX12_face : MethodName := ⟨RX12, "face", "()V"⟩
abbrev cX12_leg : ByteArray := prog_14_method_14_code
def yX12_leg : MethodName := ⟨RX12, "leg", "()V"⟩
abbrev cX12_tie : ByteArray := prog_14_method_15_code
def yX12_tie : MethodName := ⟨RX12, "tie", "(I)V"⟩
abbrev cX12_once : ByteArray := prog_14_method_16_code
def yX12_once : MethodName := ⟨RX12, "once", "(III)V"⟩
abbrev cX12_statement : ByteArray := prog_14_method_17_code
def yX12_statement : MethodName := ⟨RX12, "statement", "()V"⟩
abbrev cX12_round : ByteArray := prog_14_method_18_code
def yX12_round : MethodName := ⟨RX12, "round", "()I"⟩
abbrev cX12_fault : ByteArray := prog_14_method_19_code
def yX12_fault : MethodName := ⟨RX12, "fault", "(I)I"⟩
abbrev cX12_of : ByteArray := prog_14_method_20_code
def yX12_of : MethodName := ⟨RX12, "of", "(I)I"⟩
abbrev cX12_isArcher : ByteArray := prog_14_method_21_code
def yX12_isArcher : MethodName := ⟨RX12, "isArcher", "(I)Z"⟩
abbrev cX12_archer : ByteArray := prog_14_method_22_code
def yX12_archer : MethodName := ⟨RX12, "archer", "(I)I"⟩
abbrev cX12_leave : ByteArray := prog_14_method_23_code
def yX12_leave : MethodName := ⟨RX12, "leave", "(I)Z"⟩
abbrev cX12_legOf : ByteArray := prog_14_method_24_code
def yX12_legOf : MethodName := ⟨RX12, "legOf", "(I)I"⟩
abbrev cX12_arrowsOf : ByteArray := prog_14_method_25_code
def yX12_arrowsOf : MethodName := ⟨RX12, "arrowsOf", "(I)I"⟩
abbrev cX12_sum : ByteArray := prog_14_method_26_code
def yX12_sum : MethodName := ⟨RX12, "sum", "(III)I"⟩
abbrev cX12_lastEnd : ByteArray := prog_14_method_27_code
def yX12_lastEnd : MethodName := ⟨RX12, "lastEnd", "(I)I"⟩
abbrev cX12_total : ByteArray := prog_14_method_28_code
def yX12_total : MethodName := ⟨RX12, "total", "(I)I"⟩
abbrev cX12_told : ByteArray := prog_14_method_29_code
def yX12_told : MethodName := ⟨RX12, "told", "(II)I"⟩
abbrev cX12_isFar : ByteArray := prog_14_method_30_code
def yX12_isFar : MethodName := ⟨RX12, "isFar", "(I)Z"⟩
abbrev cX12_arrow : ByteArray := prog_14_method_31_code
def yX12_arrow : MethodName := ⟨RX12, "arrow", "(III)I"⟩
abbrev cX12_hit : ByteArray := prog_14_method_32_code
def yX12_hit : MethodName := ⟨RX12, "hit", "(III)I"⟩
abbrev cX12_shoot : ByteArray := prog_14_method_33_code
def yX12_shoot : MethodName := ⟨RX12, "shoot", "(I)I"⟩
abbrev cX12_value : ByteArray := prog_14_method_34_code
def yX12_value : MethodName := ⟨RX12, "value", "(II)I"⟩
abbrev cX12_take : ByteArray := prog_14_method_35_code
def yX12_take : MethodName := ⟨RX12, "take", "(I)I"⟩
abbrev cX12_off : ByteArray := prog_14_method_36_code
def yX12_off : MethodName := ⟨RX12, "off", "(IIII)I"⟩
abbrev cX12_most : ByteArray := prog_14_method_37_code
def yX12_most : MethodName := ⟨RX12, "most", "(II)I"⟩
abbrev cX12_square : ByteArray := prog_14_method_38_code
def yX12_square : MethodName := ⟨RX12, "square", "(II)I"⟩
abbrev cX12_signOf : ByteArray := prog_14_method_39_code
def yX12_signOf : MethodName := ⟨RX12, "signOf", "(I)I"⟩
abbrev cX12_ahead : ByteArray := prog_14_method_40_code
def yX12_ahead : MethodName := ⟨RX12, "ahead", "(II)I"⟩
abbrev cX12_rank : ByteArray := prog_14_method_41_code
def yX12_rank : MethodName := ⟨RX12, "rank", "(I)I"⟩
abbrev cX12_isDay : ByteArray := prog_14_method_42_code
def yX12_isDay : MethodName := ⟨RX12, "isDay", "(I)Z"⟩
abbrev cX12_today : ByteArray := prog_14_method_43_code
def yX12_today : MethodName := ⟨RX12, "today", "(I)Z"⟩
abbrev cX12_score : ByteArray := prog_14_method_44_code
def yX12_score : MethodName := ⟨RX12, "score", "(III)I"⟩
abbrev cX12_strike : ByteArray := prog_14_method_45_code
def yX12_strike : MethodName := ⟨RX12, "strike", "(II)Z"⟩
abbrev cX12_law : ByteArray := prog_14_method_46_code
def yX12_law : MethodName := ⟨RX12, "law", "(III)I"⟩
abbrev cX12_kind : ByteArray := prog_14_method_47_code
def yX12_kind : MethodName := ⟨RX12, "kind", "(III)I"⟩
abbrev cX12_bay : ByteArray := prog_14_method_48_code
def yX12_bay : MethodName := ⟨RX12, "bay", "(I)I"⟩
abbrev cX12_isParted : ByteArray := prog_14_method_49_code
def yX12_isParted : MethodName := ⟨RX12, "isParted", "(I)Z"⟩
abbrev cX12_isFree : ByteArray := prog_14_method_50_code
def yX12_isFree : MethodName := ⟨RX12, "isFree", "(I)Z"⟩
abbrev cX12_layout : ByteArray := prog_14_method_51_code
def yX12_layout : MethodName := ⟨RX12, "layout", "()I"⟩
abbrev cX12_on : ByteArray := prog_14_method_52_code
def yX12_on : MethodName := ⟨RX12, "on", "(I)I"⟩
abbrev cX12_lane : ByteArray := prog_14_method_53_code
def yX12_lane : MethodName := ⟨RX12, "lane", "(II)I"⟩
abbrev cX12_state : ByteArray := prog_14_method_54_code
def yX12_state : MethodName := ⟨RX12, "state", "(I)I"⟩
def RJx8e188 : String := "java/lang/Cloneable"
def TJx8e188 : u_T := fun k => match k with
  | _ => ("", "", "", false)
def tyJx8e188 : Nat → FieldType := fun k => match k with
  | _ => .int
abbrev wsJx8e1880 : List Cond := u_ws RJx8e188 TJx8e188 0
theorem nmJx8e188 : ∀ a, a < 0 → ∀ b, b < 0 → a ≠ b → (TJx8e188 a).2.1 ≠ (TJx8e188 b).2.1 := by decide +kernel
theorem tyJx8e188_ok : ∀ k, k < 0 → parseFieldDescriptor (TJx8e188 k).2.2.1 = some (tyJx8e188 k) := by decide +kernel
def RJ6 : String := "java/lang/Integer"
def TJ6 : u_T := fun k => match k with
  | _ => ("", "", "", false)
def tyJ6 : Nat → FieldType := fun k => match k with
  | _ => .int
abbrev wsJ60 : List Cond := u_ws RJ6 TJ6 0
theorem nmJ6 : ∀ a, a < 0 → ∀ b, b < 0 → a ≠ b → (TJ6 a).2.1 ≠ (TJ6 b).2.1 := by decide +kernel
theorem tyJ6_ok : ∀ k, k < 0 → parseFieldDescriptor (TJ6 k).2.2.1 = some (tyJ6 k) := by decide +kernel
abbrev cJ6_compare_7cf53 : ByteArray := prog_16_method_40_code
def yJ6_compare_7cf53 : MethodName := ⟨RJ6, "compare", "(II)I"⟩
def RJ9 : String := "java/lang/Math"
def TJ9 : u_T := fun k => match k with
  | _ => ("", "", "", false)
def tyJ9 : Nat → FieldType := fun k => match k with
  | _ => .int
abbrev wsJ90 : List Cond := u_ws RJ9 TJ9 0
theorem nmJ9 : ∀ a, a < 0 → ∀ b, b < 0 → a ≠ b → (TJ9 a).2.1 ≠ (TJ9 b).2.1 := by decide +kernel
theorem tyJ9_ok : ∀ k, k < 0 → parseFieldDescriptor (TJ9 k).2.2.1 = some (tyJ9 k) := by decide +kernel
abbrev cJ9_max_7cf53 : ByteArray := prog_17_method_65_code
def yJ9_max_7cf53 : MethodName := ⟨RJ9, "max", "(II)I"⟩
abbrev cJ9_min_7cf53 : ByteArray := prog_17_method_69_code
def yJ9_min_7cf53 : MethodName := ⟨RJ9, "min", "(II)I"⟩
def RJ0 : String := "java/lang/String"
def TJ0 : u_T := fun k => match k with
  | _ => ("", "", "", false)
def tyJ0 : Nat → FieldType := fun k => match k with
  | _ => .int
abbrev wsJ00 : List Cond := u_ws RJ0 TJ0 0
theorem nmJ0 : ∀ a, a < 0 → ∀ b, b < 0 → a ≠ b → (TJ0 a).2.1 ≠ (TJ0 b).2.1 := by decide +kernel
theorem tyJ0_ok : ∀ k, k < 0 → parseFieldDescriptor (TJ0 k).2.2.1 = some (tyJ0 k) := by decide +kernel
abbrev cJ0_length_8abf5 : ByteArray := prog_18_method_54_code
def yJ0_length_8abf5 : MethodName := ⟨RJ0, "length", "()I"⟩
abbrev cJ0_charAt_5068e : ByteArray := prog_18_method_56_code
def yJ0_charAt_5068e : MethodName := ⟨RJ0, "charAt", "(I)C"⟩
abbrev cJ0_coder_7d493 : ByteArray := prog_18_method_152_code
def yJ0_coder_7d493 : MethodName := ⟨RJ0, "coder", "()B"⟩
abbrev cJ0_isLatin1_aae02 : ByteArray := prog_18_method_154_code
def yJ0_isLatin1_aae02 : MethodName := ⟨RJ0, "isLatin1", "()Z"⟩
abbrev cJ0_checkIndex_df160 : ByteArray := prog_18_method_155_code
def yJ0_checkIndex_df160 : MethodName := ⟨RJ0, "checkIndex", "(II)V"⟩
def RJ1 : String := "java/lang/StringLatin1"
def TJ1 : u_T := fun k => match k with
  | _ => ("", "", "", false)
def tyJ1 : Nat → FieldType := fun k => match k with
  | _ => .int
abbrev wsJ10 : List Cond := u_ws RJ1 TJ1 0
theorem nmJ1 : ∀ a, a < 0 → ∀ b, b < 0 → a ≠ b → (TJ1 a).2.1 ≠ (TJ1 b).2.1 := by decide +kernel
theorem tyJ1_ok : ∀ k, k < 0 → parseFieldDescriptor (TJ1 k).2.2.1 = some (tyJ1 k) := by decide +kernel
abbrev cJ1_charAt_3b067 : ByteArray := prog_19_method_2_code
def yJ1_charAt_3b067 : MethodName := ⟨RJ1, "charAt", "([BI)C"⟩
def RJ2 : String := "java/lang/StringUTF16"
def TJ2 : u_T := fun k => match k with
  | _ => ("", "", "", false)
def tyJ2 : Nat → FieldType := fun k => match k with
  | _ => .int
abbrev wsJ20 : List Cond := u_ws RJ2 TJ2 0
theorem nmJ2 : ∀ a, a < 0 → ∀ b, b < 0 → a ≠ b → (TJ2 a).2.1 ≠ (TJ2 b).2.1 := by decide +kernel
theorem tyJ2_ok : ∀ k, k < 0 → parseFieldDescriptor (TJ2 k).2.2.1 = some (tyJ2 k) := by decide +kernel
abbrev cJ2_getChar_3b067 : ByteArray := prog_20_method_5_code
def yJ2_getChar_3b067 : MethodName := ⟨RJ2, "getChar", "([BI)C"⟩
abbrev cJ2_length_9d52b : ByteArray := prog_20_method_6_code
def yJ2_length_9d52b : MethodName := ⟨RJ2, "length", "([B)I"⟩
abbrev cJ2_charAt_3b067 : ByteArray := prog_20_method_83_code
def yJ2_charAt_3b067 : MethodName := ⟨RJ2, "charAt", "([BI)C"⟩
abbrev cJ2_checkIndex_2214a : ByteArray := prog_20_method_91_code
def yJ2_checkIndex_2214a : MethodName := ⟨RJ2, "checkIndex", "(I[B)V"⟩
def RJ10 : String := "java/lang/System"
def TJ10 : u_T := fun k => match k with
  | _ => ("", "", "", false)
def tyJ10 : Nat → FieldType := fun k => match k with
  | _ => .int
abbrev wsJ100 : List Cond := u_ws RJ10 TJ10 0
theorem nmJ10 : ∀ a, a < 0 → ∀ b, b < 0 → a ≠ b → (TJ10 a).2.1 ≠ (TJ10 b).2.1 := by decide +kernel
theorem tyJ10_ok : ∀ k, k < 0 → parseFieldDescriptor (TJ10 k).2.2.1 = some (tyJ10 k) := by decide +kernel
def RJ7 : String := "java/util/Arrays"
def TJ7 : u_T := fun k => match k with
  | _ => ("", "", "", false)
def tyJ7 : Nat → FieldType := fun k => match k with
  | _ => .int
abbrev wsJ70 : List Cond := u_ws RJ7 TJ7 0
theorem nmJ7 : ∀ a, a < 0 → ∀ b, b < 0 → a ≠ b → (TJ7 a).2.1 ≠ (TJ7 b).2.1 := by decide +kernel
theorem tyJ7_ok : ∀ k, k < 0 → parseFieldDescriptor (TJ7 k).2.2.1 = some (tyJ7 k) := by decide +kernel
abbrev cJ7_fill_53178 : ByteArray := prog_22_method_103_code
def yJ7_fill_53178 : MethodName := ⟨RJ7, "fill", "([II)V"⟩
abbrev cJ7_copyOf_59c91 : ByteArray := prog_22_method_123_code
def yJ7_copyOf_59c91 : MethodName := ⟨RJ7, "copyOf", "([II)[I"⟩
def RJ3 : String := "jdk/internal/util/Preconditions"
def TJ3 : u_T := fun k => match k with
  | _ => ("", "", "", false)
def tyJ3 : Nat → FieldType := fun k => match k with
  | _ => .int
abbrev wsJ30 : List Cond := u_ws RJ3 TJ3 0
theorem nmJ3 : ∀ a, a < 0 → ∀ b, b < 0 → a ≠ b → (TJ3 a).2.1 ≠ (TJ3 b).2.1 := by decide +kernel
theorem tyJ3_ok : ∀ k, k < 0 → parseFieldDescriptor (TJ3 k).2.2.1 = some (tyJ3 k) := by decide +kernel
abbrev cJ3_checkIndex_8e157 : ByteArray := prog_23_method_11_code
def yJ3_checkIndex_8e157 : MethodName := ⟨RJ3, "checkIndex", "(IILjava/util/function/BiFunction;)I"⟩
def RL : String := "ArcheryFieldLaw"
abbrev cL_law : ByteArray := code
def yL_law : MethodName := ⟨RL, "law", "([I)Z"⟩
abbrev vwCl : List vw_C := [(RX0, TX0, 3), (RX1, TX1, 1), (RX2, TX2, 3), (RX3, TX3, 7), (RX4, TX4, 5), (RX5, TX5, 7), (RX6, TX6, 11), (RX7, TX7, 1), (RX8, TX8, 3), (RX9, TX9, 5), (RX10, TX10, 2), (RX11, TX11, 6), (RX12, TX12, 31)]
theorem inX0 : ∀ w ∈ wsX00, w ∈ lw_tbl := by decide +kernel
theorem inX1 : ∀ w ∈ wsX10, w ∈ lw_tbl := by decide +kernel
theorem inX2 : ∀ w ∈ wsX20, w ∈ lw_tbl := by decide +kernel
theorem inX3 : ∀ w ∈ wsX30, w ∈ lw_tbl := by decide +kernel
theorem inX4 : ∀ w ∈ wsX40, w ∈ lw_tbl := by decide +kernel
theorem inX5 : ∀ w ∈ wsX50, w ∈ lw_tbl := by decide +kernel
theorem inX6 : ∀ w ∈ wsX60, w ∈ lw_tbl := by decide +kernel
theorem inX7 : ∀ w ∈ wsX70, w ∈ lw_tbl := by decide +kernel
theorem inX8 : ∀ w ∈ wsX80, w ∈ lw_tbl := by decide +kernel
theorem inX9 : ∀ w ∈ wsX90, w ∈ lw_tbl := by decide +kernel
theorem inX10 : ∀ w ∈ wsX100, w ∈ lw_tbl := by decide +kernel
theorem inX11 : ∀ w ∈ wsX110, w ∈ lw_tbl := by decide +kernel
theorem inX12 : ∀ w ∈ wsX120, w ∈ lw_tbl := by decide +kernel
end
section
/-! ===== the abstract machine: values, cells, a heap as a list from a base on ===== -/
abbrev zV : Type := Int32 ⊕ (Option Nat ⊕ Nat)
abbrev zi (x : Int32) : zV := Sum.inl x
abbrev zr (o : Option Nat) : zV := Sum.inr (Sum.inl o)
abbrev zs (k : Nat) : zV := Sum.inr (Sum.inr k)
abbrev zE : Type := (Nat × Nat × ((Nat → Int32) ⊕ (Nat → Option Nat))) ⊕ (Nat × List zV)
abbrev zH : Type := List zE
abbrev zG : Type := va_G × List (ClassId × FieldType) × Nat × (Nat → Nat) × (Nat → Nat)
abbrev zJ : Type := MethodName × ByteArray × Nat × Option FieldType × Nat × Nat
def zv (g : zG) (v : zV) : Value := match v with
  | .inl x => .int x
  | .inr (.inl o) => va_rf (o.map (fun a => g.2.2.1 + a))
  | .inr (.inr k) => .ref (g.2.2.2.1 k)
theorem zv_cat (g : zG) (v : zV) : (zv g v).category = 1 := by
  rcases v with x | o | k
  · rfl
  · cases o <;> rfl
  · rfl
def zty : List FieldType := [.int, .byte, .char, .boolean, .object RX0, .object RX9]
def zca (g : zG) (t : Nat) : ClassId := (g.2.1.getD t (0, .int)).1
def zc (g : zG) (e : zE) : va_E := match e with
  | .inl (t, n, .inl f) => .inl (zca g t, n, .inl f)
  | .inl (t, n, .inr f) => .inl (zca g t, n, .inr (.inr (.inr (.inr (fun j => (f j).map (fun a => g.2.2.1 + a))))))
  | .inr (ci, fs) => .inr (ci, fs.map (zv g))
def zw (g : zG) (h : zH) : va_W := h.mapIdx (fun k e => (g.2.2.1 + k, zc g e))
def zA (g : zG) : Nat → Prop := fun q => g.2.2.1 ≤ q
def zsz (e : zE) : Nat := match e with
  | .inl (_, n, _) => n
  | .inr (_, fs) => fs.length
def zsl : zH → Nat
  | [] => 0
  | e :: h => zsz e + zsl h
theorem zw_get {g : zG} {h : zH} {a : Nat} {e : zE} (ha : h[a]? = some e) : (zw g h)[a]? = some (g.2.2.1 + a, zc g e) := by
  simp only [zw, List.getElem?_mapIdx, ha, Option.map_some]
theorem zw_get' {g : zG} {h : zH} {k : Nat} {q : Nat × va_E} (hk : (zw g h)[k]? = some q) : ∃ e, h[k]? = some e ∧ q = (g.2.2.1 + k, zc g e) := by
  simp only [zw, List.getElem?_mapIdx, Option.map_eq_some_iff] at hk
  obtain ⟨e, h1, h2⟩ := hk
  exact ⟨e, h1, h2.symm⟩
theorem zw_set {g : zG} {h : zH} {a : Nat} {e : zE} : (zw g h).set a (g.2.2.1 + a, zc g e) = zw g (h.set a e) := by
  apply List.ext_getElem?
  intro i
  simp only [zw, List.getElem?_mapIdx, List.getElem?_set, List.length_mapIdx]
  by_cases hi : a = i
  · subst hi
    by_cases hl : a < h.length
    · simp [hl]
    · simp [hl]
  · simp [hi]
theorem zw_push {g : zG} {h : zH} {e : zE} : zw g (h ++ [e]) = zw g h ++ [(g.2.2.1 + h.length, zc g e)] := by
  simp [zw, List.mapIdx_append]
theorem zw_D (g : zG) (h : zH) : va_D (zA g) (zw g h) := by
  refine ⟨fun i j p q hi hj hpq => ?_, fun k q hk => ?_⟩
  · obtain ⟨e1, -, rfl⟩ := zw_get' hi
    obtain ⟨e2, -, rfl⟩ := zw_get' hj
    exact Nat.add_left_cancel hpq
  · obtain ⟨e1, -, rfl⟩ := zw_get' hk
    exact Nat.le_add_right _ _
theorem zsl_push (h : zH) (e : zE) : zsl (h ++ [e]) = zsl h + zsz e := by
  induction h with
  | nil => simp [zsl]
  | cons x h ih => simp only [List.cons_append, zsl, ih]; omega
theorem zsl_set : ∀ (h : zH) (a : Nat) (e0 e : zE), h[a]? = some e0 → zsz e = zsz e0 → zsl (h.set a e) = zsl h
  | [], a, e0, e, h1, h2 => by simp at h1
  | x :: h, 0, e0, e, h1, h2 => by
    simp only [List.getElem?_cons_zero, Option.some.injEq] at h1
    subst h1
    simp only [List.set_cons_zero, zsl, h2]
  | x :: h, a + 1, e0, e, h1, h2 => by
    simp only [List.getElem?_cons_succ] at h1
    simp only [List.set_cons_succ, zsl, zsl_set h a e0 e h1 h2]
/-! the locals -/
def zas (g : zG) : Nat → List (Option zV) → List (Nat × Value)
  | _, [] => []
  | k, none :: L => zas g (k + 1) L
  | k, some v :: L => (k, zv g v) :: zas g (k + 1) L
theorem zas_mem {g : zG} : ∀ {k : Nat} {L : List (Option zV)} {q : Nat × Value}, q ∈ zas g k L ↔ ∃ i v, L[i]? = some (some v) ∧ q = (k + i, zv g v)
  | k, [], q => by simp [zas]
  | k, none :: L, q => by
    rw [zas, zas_mem]
    constructor
    · rintro ⟨i, v, h1, h2⟩
      exact ⟨i + 1, v, by simpa using h1, by rw [h2]; congr 1; omega⟩
    · rintro ⟨i, v, h1, h2⟩
      cases i with
      | zero => simp at h1
      | succ i => exact ⟨i, v, by simpa using h1, by rw [h2]; congr 1; omega⟩
  | k, some w :: L, q => by
    rw [zas, List.mem_cons, zas_mem]
    constructor
    · rintro (h | ⟨i, v, h1, h2⟩)
      · exact ⟨0, w, by simp, by rw [h]; congr 1⟩
      · exact ⟨i + 1, v, by simpa using h1, by rw [h2]; congr 1; omega⟩
    · rintro ⟨i, v, h1, h2⟩
      cases i with
      | zero =>
        simp only [List.getElem?_cons_zero, Option.some.injEq] at h1
        subst h1
        exact Or.inl (by rw [h2]; congr 1)
      | succ i => exact Or.inr ⟨i, v, by simpa using h1, by rw [h2]; congr 1; omega⟩
def zL (g : zG) (ls : Array Slot) (nL : Nat) (L : List (Option zV)) : Prop := lv_has ls nL (zas g 0 L)
theorem zL_get {g : zG} {ls : Array Slot} {nL i : Nat} {L : List (Option zV)} {v : zV} (h : zL g ls nL L) (hl : L[i]? = some (some v)) : ls[i]? = some (.val (zv g v)) :=
  h.2.2 (i, zv g v) (zas_mem.mpr ⟨i, v, hl, by rw [Nat.zero_add]⟩)
theorem zL_set {g : zG} {ls : Array Slot} {nL i : Nat} {L : List (Option zV)} {v : zV} {w : Value} (hw : zv g v = w) (h : lv_has ls nL ((i, w) :: (zas g 0 L).filter (fun q => !(q.1 == i) && !(q.1 + 1 == i && q.2.category == 2)))) : zL g ls nL (L.set i (some v)) := by
  subst hw
  refine ⟨h.1, h.2.1, fun q hq => ?_⟩
  obtain ⟨j, w, hj, rfl⟩ := zas_mem.mp hq
  rw [Nat.zero_add]
  by_cases hij : i = j
  · subst hij
    have hl : i < L.length := by
      have := (List.getElem?_eq_some_iff.mp hj).1
      simpa using this
    rw [List.getElem?_set_self hl] at hj
    cases hj
    exact h.2.2 _ List.mem_cons_self
  · rw [List.getElem?_set_ne hij] at hj
    refine h.2.2 (j, zv g w) (List.mem_cons_of_mem _ (List.mem_filter.mpr ⟨zas_mem.mpr ⟨j, w, hj, by rw [Nat.zero_add]⟩, ?_⟩))
    have hji : ¬ j = i := fun z => hij z.symm
    simp [hji, zv_cat]
/-! what is known of the machine's state -/
def zWd : List Cond := lw_tbl.filter goodWord
def zNwB : Cond → Bool
  | .fieldLinkNest _ _ _ _ _ _ => true
  | .methodLinkNest _ _ _ _ => true
  | .castable _ _ => true
  | _ => false
def zNw : List Cond := lw_tbl.filter zNwB
theorem zWd_mem {w : Cond} (h : w ∈ lw_tbl) (h2 : goodWord w = true) : w ∈ zWd := List.mem_filter.mpr ⟨h, h2⟩
theorem zNw_mem {w : Cond} (h : w ∈ lw_tbl) (h2 : zNwB w = true) : w ∈ zNw := List.mem_filter.mpr ⟨h, h2⟩
theorem zWd_good {w : Cond} (h : w ∈ zWd) : w ∈ zWd ∧ ((w.onTables && w.keeps) = true ∨ ∃ ty, w = .arrayClass ty) := ⟨h, good_of_word (List.mem_filter.mp h).2⟩
def zSt : List (Nat × String) := [(65, "face"), (75, "leg"), (80, "most"), (91, "last"), (93, "nearest"), (95, "bounced"), (101, "passed"), (103, "shaft")]
def zSl : List Nat := [4, 3, 4, 4, 7, 7, 6, 5]
def zSb : List (List Int32) := [[102, 97, 99, 101], [108, 101, 103], [109, 111, 115, 116], [108, 97, 115, 116], [110, 101, 97, 114, 101, 115, 116], [98, 111, 117, 110, 99, 101, 100], [112, 97, 115, 115, 101, 100], [115, 104, 97, 102, 116]]
def zStr (g : zG) (U : State) : Prop := va_Z "java/lang/String" "COMPACT_STRINGS" "Z" (.int 1) (zA g) U U.heap ∧ (∀ i, i < 8 → vk_R RX5 (zSt.getD i (0, "")).1 (zSt.getD i (0, "")).2 (g.2.2.2.1 i) U) ∧ vk_S 8 zSl zSb g.2.2.2.1 g.2.2.2.2 (zA g) U U.heap
def zU (g : zG) (U : State) : Prop := va_K g.1 vwCl g.2.1 U ∧ (∀ w ∈ zNw, va_Nw w U) ∧ va_AO RX0 U ∧ va_AO RX9 U ∧ zStr g U
theorem zNw_on {w : Cond} (h : zNwB w = true) : w.onTables = true := by
  cases w <;> first | rfl | (exfalso; simp [zNwB] at h; done)
theorem zU.call {g : zG} {U : State} (h : zU g U) (f : JFrame) (mk : MethodId) (a : Array Value) : zU g (U.calling f mk a) := by
  obtain ⟨h1, h2, h3, h4, h5, h6, h7⟩ := h
  refine ⟨va_K.moved (u := U) (Vm.Alike.refl U.vm) h1, fun w hw => va_Nw.same (zNw_on (List.mem_filter.mp hw).2) (u := U) rfl (h2 w hw), va_AO.moved (u := U) (Vm.Alike.refl U.vm) h3, va_AO.moved (u := U) (Vm.Alike.refl U.vm) h4, ?_, fun i hi => vk_R.same (u := U) rfl (h6 i hi), ?_⟩
  · exact va_Z.moved (u := U) (Vm.Alike.refl U.vm) h5
  · exact vk_S.moved (u := U) (Vm.Alike.refl U.vm) h7
theorem zU.warm {g : zG} {s U : State} (h : zU g s) (hW : s.WarmedH U.vm) (hk : ∀ a : Nat, a < s.heap.size → ¬ zA g a → U.heap[a]? = s.heap[a]?) : zU g U := by
  obtain ⟨h1, h2, h3, h4, h5, h6, h7⟩ := h
  refine ⟨va_K.moved hW.alike h1, fun w hw => ?_, va_AO.moved hW.alike h3, va_AO.moved hW.alike h4, (va_Z.moved hW.alike h5).kept hk, fun i hi => vk_R.warm hW (h6 i hi), (vk_S.moved hW.alike h7).kept hk⟩
  have hb := (List.mem_filter.mp hw).2
  have h0 := h2 w hw
  cases w <;> first
    | exact va_Nw.warmF hW h0
    | exact va_Nw.warmM hW h0
    | exact va_Nw.warmC hW h0
    | (exfalso; simp [zNwB] at hb; done)
def zX (g : zG) (J : zJ) (p : Program) (s : State) (m : MethodId) (args : Array Value) (meth : Method) (c : Code) : Prop :=
  p.tables.exec = Jvm.exec ∧ c.code = J.2.1 ∧ c.maxLocals = J.2.2.1 ∧ s.vm.findClass J.1.cls = some m.cls ∧ (∀ w ∈ zWd, w.before args s = true) ∧ meth.name = J.1.name ∧ zU g s ∧ g.2.1.map (fun q => q.2) = zty
def zT (g : zG) (s : State) (h : zH) (H : Heap) (locs : List Loc) : Prop := H.size = g.2.2.1 + h.length ∧ va_P g.1 vwCl (zw g h) H ∧ va_S (zA g) s.heap H locs
def zret (r : Option zV) : Instr := match r with
  | none => .return_
  | some (.inl _) => .ireturn
  | some (.inr _) => .areturn
def zok (ret : Option FieldType) (r : Option zV) : Prop := match ret, r with
  | none, none => True
  | some ty, some (.inl x) => narrow ty (.int x) = .int x
  | some ty, some (.inr (.inl _)) => (∃ n, ty = .object n) ∨ ∃ t, ty = .array t
  | _, _ => False
/-- from pc on, with these locals, this stack and this heap the method comes to its end with the answer r and the heap h' -/
def zR (g : zG) (J : zJ) (h0 : zH) (pc : Nat) (L : List (Option zV)) (st : List zV) (h : zH) (r : Option zV) (h' : zH) : Prop :=
  (h.length ≤ h'.length ∧ zsl h ≤ zsl h') ∧ zok J.2.2.2.1 r ∧ (h0.length ≤ h.length → zsl h0 ≤ zsl h →
    ∀ (p : Program) (l : Launch) (e : Env) (R : Room) (s : State) (m : MethodId) (args : Array Value) (below : List Frame) (meth : Method) (c : Code) (Q : State → Prop), zX g J p s m args meth c → s.heap.size = g.2.2.1 + h0.length →
      J.2.2.2.2.1 ≤ R.frames → J.2.2.2.2.2 ≤ R.locals → h'.length - h0.length ≤ R.cells → zsl h' - zsl h0 ≤ R.slots →
      (∀ (pc' : Nat) (ls : Array Slot) (H : Heap) (locs : List Loc), zT g s h' H locs → decode J.2.1 pc' = .ok (zret r, 1) → W p l e R s m args below meth c H locs (h'.length - h0.length) (zsl h' - zsl h0) Q (F0 m pc' ls (r.toList.map (zv g)))) →
      ∀ (H : Heap) (locs : List Loc) (ls : Array Slot), zT g s h H locs → zL g ls J.2.2.1 L → W p l e R s m args below meth c H locs (h.length - h0.length) (zsl h - zsl h0) Q (F0 m pc ls (st.map (zv g))))
theorem zfix {p : Program} {l : Launch} {e : Env} {R : Room} {s : State} {m : MethodId} {args : Array Value} {below : List Frame} {meth : Method} {c : Code} {Q : State → Prop} {g : zG} {h0 h : zH} {H : Heap} {locs : List Loc} {slots : Nat} {f : JFrame} (hs : s.heap.size = g.2.2.1 + h0.length) (hl : h0.length ≤ h.length) (hP : va_P g.1 vwCl (zw g h) H) (hS : va_S (zA g) s.heap H locs)
    (k : zT g s h H locs → W p l e R s m args below meth c H locs (h.length - h0.length) slots Q f) : W p l e R s m args below meth c H locs (h.length - h0.length) slots Q f := by
  intro T hT X
  have hz := X.heapSize
  rw [hT] at hz
  refine k ⟨?_, hP, hS⟩ T hT X
  have h1 : g.2.2.1 + h.length ≤ H.size := by
    by_cases hn : h.length = 0
    · have := hS.1
      omega
    · have hlt : h.length - 1 < h.length := by omega
      have h2 := hP (h.length - 1) _ (zw_get (List.getElem?_eq_getElem hlt))
      have h3 := h2.lt
      show g.2.2.1 + h.length ≤ H.size
      have h4 : g.2.2.1 + (h.length - 1) < H.size := h3
      omega
  omega
/-! ===== steps ===== -/
theorem zR.step {g : zG} {J : zJ} {h0 : zH} {pc pc' : Nat} {L L' : List (Option zV)} {st st' : List zV} {h : zH} {r : Option zV} {h' : zH}
    (hw : ∀ {p : Program} {l : Launch} {e : Env} {R : Room} {s : State} {m : MethodId} {args : Array Value} {below : List Frame} {meth : Method} {c : Code} {Q : State → Prop} {H : Heap} {locs : List Loc} {cells slots : Nat} {ls : Array Slot}, zX g J p s m args meth c → J.2.2.2.2.1 ≤ R.frames → J.2.2.2.2.2 ≤ R.locals → cells ≤ R.cells → slots ≤ R.slots → zT g s h H locs → zL g ls J.2.2.1 L →
      (∀ ls' : Array Slot, zL g ls' J.2.2.1 L' → W p l e R s m args below meth c H locs cells slots Q (F0 m pc' ls' (st'.map (zv g)))) → W p l e R s m args below meth c H locs cells slots Q (F0 m pc ls (st.map (zv g))))
    (k : zR g J h0 pc' L' st' h r h') : zR g J h0 pc L st h r h' :=
  ⟨k.1, k.2.1, fun a1 a2 p l e R s m args below meth c Q X hs f1 f2 f3 f4 hr H locs ls hT hL => hw X f1 f2 (by have := k.1.1; omega) (by have := k.1.2; omega) hT hL (fun ls' hL' => k.2.2 a1 a2 p l e R s m args below meth c Q X hs f1 f2 f3 f4 hr H locs ls' hT hL')⟩
theorem zR.stepS {g : zG} {J : zJ} {h0 : zH} {pc pc' : Nat} {L L' : List (Option zV)} {st st' : List zV} {h h1 : zH} {r : Option zV} {h' : zH} (hl : h1.length = h.length) (hz : zsl h1 = zsl h)
    (hw : ∀ {p : Program} {l : Launch} {e : Env} {R : Room} {s : State} {m : MethodId} {args : Array Value} {below : List Frame} {meth : Method} {c : Code} {Q : State → Prop} {H : Heap} {locs : List Loc} {cells slots : Nat} {ls : Array Slot}, zX g J p s m args meth c → J.2.2.2.2.1 ≤ R.frames → J.2.2.2.2.2 ≤ R.locals → zT g s h H locs → zL g ls J.2.2.1 L →
      (∀ (H1 : Heap) (locs1 : List Loc) (ls' : Array Slot), va_P g.1 vwCl (zw g h1) H1 → va_S (zA g) s.heap H1 locs1 → zL g ls' J.2.2.1 L' → W p l e R s m args below meth c H1 locs1 cells slots Q (F0 m pc' ls' (st'.map (zv g)))) → W p l e R s m args below meth c H locs cells slots Q (F0 m pc ls (st.map (zv g))))
    (k : zR g J h0 pc' L' st' h1 r h') : zR g J h0 pc L st h r h' := by
  refine ⟨⟨hl ▸ k.1.1, hz ▸ k.1.2⟩, k.2.1, fun a1 a2 p l e R s m args below meth c Q X hs f1 f2 f3 f4 hr H locs ls hT hL => hw X f1 f2 hT hL (fun H1 locs1 ls' hP1 hS1 hL1 => ?_)⟩
  have hk := k.2.2 (by omega) (by omega) p l e R s m args below meth c Q X hs f1 f2 f3 f4 hr H1 locs1 ls'
  rw [← hl, ← hz]
  exact zfix hs (by omega) hP1 hS1 (fun hT1 => hk hT1 hL1)
theorem zR.stepA {g : zG} {J : zJ} {h0 : zH} {pc pc' : Nat} {L : List (Option zV)} {st st' : List zV} {h : zH} {e1 : zE} {r : Option zV} {h' : zH}
    (hw : ∀ {p : Program} {l : Launch} {e : Env} {R : Room} {s : State} {m : MethodId} {args : Array Value} {below : List Frame} {meth : Method} {c : Code} {Q : State → Prop} {H : Heap} {locs : List Loc} {cells slots : Nat} {ls : Array Slot}, zX g J p s m args meth c → J.2.2.2.2.1 ≤ R.frames → J.2.2.2.2.2 ≤ R.locals → cells + 1 ≤ R.cells → slots + zsz e1 ≤ R.slots → zT g s h H locs → zL g ls J.2.2.1 L → g.2.2.1 ≤ s.heap.size →
      (∀ (H1 : Heap) (locs1 : List Loc) (q : Nat), va_P g.1 vwCl (zw g h ++ [(q, zc g e1)]) H1 → va_D (zA g) (zw g h ++ [(q, zc g e1)]) → va_S (zA g) s.heap H1 locs1 → W p l e R s m args below meth c H1 locs1 (cells + 1) (slots + zsz e1) Q (F0 m pc' ls (.ref q :: st'.map (zv g)))) → W p l e R s m args below meth c H locs cells slots Q (F0 m pc ls (st.map (zv g))))
    (k : zR g J h0 pc' L (zr (some h.length) :: st') (h ++ [e1]) r h') : zR g J h0 pc L st h r h' := by
  have hl : (h ++ [e1]).length = h.length + 1 := by simp
  have hz := zsl_push h e1
  have k1 := k.1
  rw [hl, hz] at k1
  refine ⟨⟨by omega, by omega⟩, k.2.1, fun a1 a2 p l e R s m args below meth c Q X hs f1 f2 f3 f4 hr H locs ls hT hL => hw X f1 f2 (by omega) (by omega) hT hL (by omega) (fun H1 locs1 q hP1 hD1 hS1 => ?_)⟩
  have hk := k.2.2 (by omega) (by omega) p l e R s m args below meth c Q X hs f1 f2 f3 f4 hr H1 locs1 ls
  rw [hl, hz] at hk
  intro T hT2 X2
  have hsz := X2.heapSize
  rw [hT2] at hsz
  have hq1 : (zw g h ++ [(q, zc g e1)])[h.length]? = some (q, zc g e1) := by
    rw [List.getElem?_append_right (by simp [zw])]
    simp [zw]
  have hlt : q < H1.size := (hP1 h.length _ hq1).lt
  have hge : g.2.2.1 ≤ q := hD1.2 h.length _ hq1
  have hne : ∀ j, j < h.length → q ≠ g.2.2.1 + j := by
    intro j hj hqj
    have hg1 : (zw g h ++ [(q, zc g e1)])[j]? = some (g.2.2.1 + j, zc g h[j]) := by
      rw [List.getElem?_append_left (by simpa [zw] using hj)]
      exact zw_get (List.getElem?_eq_getElem hj)
    have := hD1.1 h.length j _ _ hq1 hg1 hqj
    omega
  have hq : q = g.2.2.1 + h.length := by
    have h2 : ¬ q < g.2.2.1 + h.length := fun hc => hne (q - g.2.2.1) (by omega) (by omega)
    omega
  subst hq
  rw [← zw_push] at hP1
  have hT1 : zT g s (h ++ [e1]) H1 locs1 := ⟨by rw [hl]; omega, hP1, hS1⟩
  have hk2 := hk hT1 hL
  have c1 : h.length + 1 - h0.length = h.length - h0.length + 1 := by omega
  have c2 : zsl h + zsz e1 - zsl h0 = zsl h - zsl h0 + zsz e1 := by omega
  rw [c1, c2] at hk2
  exact hk2 T hT2 X2
def zQ3 (g : zG) (r : Option zV) (h' : zH) : State → Outcome → State → Prop := fun st oc t => (oc = .returned (r.map (zv g)) ∧ va_P g.1 vwCl (zw g h') t.heap) ∧ va_F (zA g) st t
theorem zR.stepC {g : zG} {J : zJ} {h0 : zH} {pc : Nat} {L : List (Option zV)} {st rest : List zV} {h h1 : zH} {r1 r : Option zV} {h' : zH} (hm : h.length ≤ h1.length ∧ zsl h ≤ zsl h1)
    (hw : ∀ {p : Program} {l : Launch} {e : Env} {R : Room} {s : State} {m : MethodId} {args : Array Value} {below : List Frame} {meth : Method} {c : Code} {H : Heap} {locs : List Loc} {cells slots : Nat} {ls : Array Slot}, zX g J p s m args meth c → J.2.2.2.2.1 ≤ R.frames → J.2.2.2.2.2 ≤ R.locals → zT g s h H locs → zL g ls J.2.2.1 L → cells + (h1.length - h.length) ≤ R.cells → slots + (zsl h1 - zsl h) ≤ R.slots →
      va_Run p l e R s m args below meth c H locs cells slots (h1.length - h.length) (zsl h1 - zsl h) (F0 m pc ls (st.map (zv g))) (rest.map (zv g)) (zQ3 g r1 h1) (zA g))
    (k : zR g J h0 (pc + 3) L (r1.toList ++ rest) h1 r h') : zR g J h0 pc L st h r h' := by
  have k1 := k.1
  refine ⟨⟨by omega, by omega⟩, k.2.1, fun a1 a2 p l e R s m args below meth c Q X hs f1 f2 f3 f4 hr H locs ls hT hL => ?_⟩
  have hk := k.2.2 (by omega) (by omega) p l e R s m args below meth c Q X hs f1 f2 f3 f4 hr
  have hrun := hw (below := below) (e := e) (l := l) X f1 f2 hT hL (cells := h.length - h0.length) (slots := zsl h - zsl h0) (by omega) (by omega)
  intro T hT2 X2
  obtain ⟨v, st₀, t, T', L9, e0, X', hL9, e1, e2, ⟨⟨hv, hP1⟩, hz, hkk⟩, stp⟩ := hrun T hT2 X2
  have hv2 : v = r1.map (zv g) := by injection hv
  subst hv2
  rw [e0] at hz hkk
  have c1 : h.length - h0.length + (h1.length - h.length) = h1.length - h0.length := by omega
  have c2 : zsl h - zsl h0 + (zsl h1 - zsl h) = zsl h1 - zsl h0 := by omega
  rw [c1, c2] at X'
  have hS := hT.2.2
  have hS1 : va_S (zA g) s.heap T'.heap (locs ++ L9) := ⟨Nat.le_trans hS.1 (by rw [e1]; exact hz), fun q g1 g2 => by rw [e1, hkk q (Nat.lt_of_lt_of_le g1 hS.1) g2]; exact hS.2.1 q g1 g2, fun q hq => by
      rcases List.mem_append.mp hq with h | h
      · exact hS.2.2 q h
      · exact hL9 q h⟩
  obtain ⟨t2, a, b⟩ := zfix (locs := locs ++ L9) hs (by omega) (by rw [e1]; exact hP1) hS1 (fun hT1 => hk T'.heap (locs ++ L9) ls hT1 hL) T' rfl X'
  refine ⟨t2, stp t2 ?_, b⟩
  have c3 : (r1.toList ++ rest).map (zv g) = (r1.map (zv g)).toList ++ rest.map (zv g) := by cases r1 <;> simp
  rw [c3] at a
  exact a
theorem zr_ret {g : zG} {J : zJ} {h0 : zH} {pc : Nat} {L : List (Option zV)} {h : zH} (r : Option zV) (hok : zok J.2.2.2.1 r) (hd : decode J.2.1 pc = .ok (zret r, 1)) : zR g J h0 pc L r.toList h r h :=
  ⟨⟨Nat.le_refl _, Nat.le_refl _⟩, hok, fun _ _ _ _ _ _ _ _ _ _ _ _ _ _ _ _ _ _ _ hr H locs ls hT _ => hr pc ls H locs hT hd⟩
theorem ztys {g : zG} (h : g.2.1.map (fun q => q.2) = zty) {t : Nat} {ty : FieldType} (ht : zty[t]? = some ty) : g.2.1[t]? = some (zca g t, ty) := by
  rw [← h, List.getElem?_map, Option.map_eq_some_iff] at ht
  obtain ⟨q, h1, h2⟩ := ht
  rw [h1]
  simp [zca, List.getD_eq_getElem?_getD, h1, ← h2]
/-! ===== one row an instruction ===== -/
section zrows
variable {g : zG} {J : zJ} {h0 : zH} {pc : Nat} {L : List (Option zV)} {st : List zV} {h : zH} {r : Option zV} {h' : zH}
theorem zr_iconst {n : Int} {v : Int32} (hd : decode J.2.1 pc = .ok (.iconst n, 1)) (hv : Int32.ofInt n = v) (k : zR g J h0 (pc + 1) L (zi v :: st) h r h') : zR g J h0 pc L st h r h' :=
  zR.step (fun X _ _ _ _ _ hL kk => lv_iconst X.1 X.2.1 hd hv (kk _ hL)) k
theorem zr_bipush {n : Int} {v : Int32} (hd : decode J.2.1 pc = .ok (.bipush n, 2)) (hv : (Int8.ofInt n).toInt32 = v) (k : zR g J h0 (pc + 2) L (zi v :: st) h r h') : zR g J h0 pc L st h r h' :=
  zR.step (fun X _ _ _ _ _ hL kk => lv_bipush X.1 X.2.1 hd hv (kk _ hL)) k
theorem zr_sipush {n : Int} {v : Int32} (hd : decode J.2.1 pc = .ok (.sipush n, 3)) (hv : (Int16.ofInt n).toInt32 = v) (k : zR g J h0 (pc + 3) L (zi v :: st) h r h') : zR g J h0 pc L st h r h' :=
  zR.step (fun X _ _ _ _ _ hL kk => lv_sipush X.1 X.2.1 hd hv (kk _ hL)) k
theorem zr_ldc {index : Nat} {v : Int32} (hc : Cond.constant J.1.cls index v ∈ zWd) (hd : decode J.2.1 pc = .ok (.ldc index, 2)) (k : zR g J h0 (pc + 2) L (zi v :: st) h r h') : zR g J h0 pc L st h r h' :=
  zR.step (fun X _ _ _ _ _ hL kk => lv_ldc X.1 X.2.1 X.2.2.2.1 (X.2.2.2.2.1 _ hc) hd (kk _ hL)) k
theorem zr_ldcw {index : Nat} {v : Int32} (hc : Cond.constant J.1.cls index v ∈ zWd) (hd : decode J.2.1 pc = .ok (.ldc_w index, 3)) (k : zR g J h0 (pc + 3) L (zi v :: st) h r h') : zR g J h0 pc L st h r h' :=
  zR.step (fun X _ _ _ _ _ hL kk => lv_ldcw X.1 X.2.1 X.2.2.2.1 (X.2.2.2.2.1 _ hc) hd (kk _ hL)) k
theorem zr_ldcS {index i : Nat} {tx : String} (hi : i < 8) (ht : zSt.getD i (0, "") = (index, tx)) (ho : J.1.cls = RX5) (hd : decode J.2.1 pc = .ok (.ldc index, 2)) (k : zR g J h0 (pc + 2) L (zs i :: st) h r h') : zR g J h0 pc L st h r h' :=
  zR.step (fun X _ _ _ _ _ hL kk => va_ldcS (own := RX5) (tx := tx) (q := g.2.2.2.1 i) X.1 X.2.1 (by rw [← ho]; exact X.2.2.2.1) (by have := X.2.2.2.2.2.2.1.2.2.2.2.2.1 i hi; rw [ht] at this; exact this) hd (kk _ hL)) k
theorem zr_null (hd : decode J.2.1 pc = .ok (.aconst_null, 1)) (k : zR g J h0 (pc + 1) L (zr none :: st) h r h') : zR g J h0 pc L st h r h' :=
  zR.step (fun X _ _ _ _ _ hL kk => lv_null X.1 X.2.1 hd (kk _ hL)) k
theorem zr_iload_n {k : Fin 4} {i : Nat} {x : Int32} (hd : decode J.2.1 pc = .ok (.iload_n k, 1)) (hi : (k : Nat) = i) (hl : L[i]? = some (some (zi x))) (kk : zR g J h0 (pc + 1) L (zi x :: st) h r h') : zR g J h0 pc L st h r h' :=
  zR.step (fun X _ _ _ _ _ hL kk => lv_iload_n X.1 X.2.1 hd hi (zL_get hL hl) (kk _ hL)) kk
theorem zr_iload {i : Nat} {x : Int32} (hd : decode J.2.1 pc = .ok (.iload i, 2)) (hl : L[i]? = some (some (zi x))) (kk : zR g J h0 (pc + 2) L (zi x :: st) h r h') : zR g J h0 pc L st h r h' :=
  zR.step (fun X _ _ _ _ _ hL kk => lv_iload X.1 X.2.1 hd (zL_get hL hl) (kk _ hL)) kk
theorem zr_aload_n {k : Fin 4} {i : Nat} {v : Option Nat ⊕ Nat} (hd : decode J.2.1 pc = .ok (.aload_n k, 1)) (hi : (k : Nat) = i) (hl : L[i]? = some (some (.inr v))) (kk : zR g J h0 (pc + 1) L (.inr v :: st) h r h') : zR g J h0 pc L st h r h' := by
  refine zR.step (fun X _ _ _ _ _ hL kk => ?_) kk
  have h1 := zL_get hL hl
  rcases v with (_ | a) | q
  · exact lv_aload_nN X.1 X.2.1 hd hi h1 (kk _ hL)
  · exact lv_aload_n X.1 X.2.1 hd hi h1 (kk _ hL)
  · exact lv_aload_n X.1 X.2.1 hd hi h1 (kk _ hL)
theorem zr_aload {i : Nat} {v : Option Nat ⊕ Nat} (hd : decode J.2.1 pc = .ok (.aload i, 2)) (hl : L[i]? = some (some (.inr v))) (kk : zR g J h0 (pc + 2) L (.inr v :: st) h r h') : zR g J h0 pc L st h r h' := by
  refine zR.step (fun X _ _ _ _ _ hL kk => ?_) kk
  have h1 := zL_get hL hl
  rcases v with (_ | a) | q
  · exact lv_aloadN X.1 X.2.1 hd h1 (kk _ hL)
  · exact lv_aload X.1 X.2.1 hd h1 (kk _ hL)
  · exact lv_aload X.1 X.2.1 hd h1 (kk _ hL)
theorem zr_istore_n {k : Fin 4} {i : Nat} {x : Int32} (hd : decode J.2.1 pc = .ok (.istore_n k, 1)) (hi : (k : Nat) = i) (hn : i < J.2.2.1) (kk : zR g J h0 (pc + 1) (L.set i (some (zi x))) st h r h') : zR g J h0 pc L (zi x :: st) h r h' :=
  zR.step (fun X _ _ _ _ _ hL kk => lv_istore_n X.1 X.2.1 hd hi hL hn rfl (fun ls' hl => kk ls' (zL_set rfl hl))) kk
theorem zr_istore {i : Nat} {x : Int32} (hd : decode J.2.1 pc = .ok (.istore i, 2)) (hn : i < J.2.2.1) (kk : zR g J h0 (pc + 2) (L.set i (some (zi x))) st h r h') : zR g J h0 pc L (zi x :: st) h r h' :=
  zR.step (fun X _ _ _ _ _ hL kk => lv_istore X.1 X.2.1 hd hL hn rfl (fun ls' hl => kk ls' (zL_set rfl hl))) kk
theorem zr_astore_n {k : Fin 4} {i : Nat} {v : Option Nat ⊕ Nat} (hd : decode J.2.1 pc = .ok (.astore_n k, 1)) (hi : (k : Nat) = i) (hn : i < J.2.2.1) (kk : zR g J h0 (pc + 1) (L.set i (some (.inr v))) st h r h') : zR g J h0 pc L (.inr v :: st) h r h' := by
  refine zR.step (fun X _ _ _ _ _ hL kk => ?_) kk
  rcases v with (_ | a) | q
  · exact lv_astore_nN X.1 X.2.1 hd hi hL hn rfl (fun ls' hl => kk ls' (zL_set rfl hl))
  · exact lv_astore_n X.1 X.2.1 hd hi hL hn rfl (fun ls' hl => kk ls' (zL_set rfl hl))
  · exact lv_astore_n X.1 X.2.1 hd hi hL hn rfl (fun ls' hl => kk ls' (zL_set rfl hl))
theorem zr_astore {i : Nat} {v : Option Nat ⊕ Nat} (hd : decode J.2.1 pc = .ok (.astore i, 2)) (hn : i < J.2.2.1) (kk : zR g J h0 (pc + 2) (L.set i (some (.inr v))) st h r h') : zR g J h0 pc L (.inr v :: st) h r h' := by
  refine zR.step (fun X _ _ _ _ _ hL kk => ?_) kk
  rcases v with (_ | a) | q
  · exact lv_astoreN X.1 X.2.1 hd hL hn rfl (fun ls' hl => kk ls' (zL_set rfl hl))
  · exact lv_astore X.1 X.2.1 hd hL hn rfl (fun ls' hl => kk ls' (zL_set rfl hl))
  · exact lv_astore X.1 X.2.1 hd hL hn rfl (fun ls' hl => kk ls' (zL_set rfl hl))
theorem zr_iinc {i : Nat} {n : Int} {x y : Int32} (hd : decode J.2.1 pc = .ok (.iinc i n, 3)) (hl : L[i]? = some (some (zi x))) (hy : Int32.ofInt n = y) (hn : i < J.2.2.1) (kk : zR g J h0 (pc + 3) (L.set i (some (zi (x + y)))) st h r h') : zR g J h0 pc L st h r h' := by
  refine zR.step (fun X _ _ _ _ _ hL kk => ?_) kk
  obtain ⟨j, hj⟩ := List.getElem?_of_mem (zas_mem.mpr ⟨i, zi x, hl, rfl⟩ : ((0 + i, zv g (zi x)) ∈ zas g 0 L))
  rw [Nat.zero_add] at hj
  exact lv_iinc (k := j) X.1 X.2.1 hd hL hj (by rw [hy]) hn rfl (fun ls' hl => kk ls' (zL_set rfl hl))
theorem zr_iadd {x y : Int32} (hd : decode J.2.1 pc = .ok (.iadd, 1)) (k : zR g J h0 (pc + 1) L (zi (x + y) :: st) h r h') : zR g J h0 pc L (zi y :: zi x :: st) h r h' :=
  zR.step (fun X _ _ _ _ _ hL kk => lv_iadd X.1 X.2.1 hd (kk _ hL)) k
theorem zr_isub {x y : Int32} (hd : decode J.2.1 pc = .ok (.isub, 1)) (k : zR g J h0 (pc + 1) L (zi (x - y) :: st) h r h') : zR g J h0 pc L (zi y :: zi x :: st) h r h' :=
  zR.step (fun X _ _ _ _ _ hL kk => lv_isub X.1 X.2.1 hd (kk _ hL)) k
theorem zr_imul {x y : Int32} (hd : decode J.2.1 pc = .ok (.imul, 1)) (k : zR g J h0 (pc + 1) L (zi (x * y) :: st) h r h') : zR g J h0 pc L (zi y :: zi x :: st) h r h' :=
  zR.step (fun X _ _ _ _ _ hL kk => lv_imul X.1 X.2.1 hd (kk _ hL)) k
theorem zr_iand {x y : Int32} (hd : decode J.2.1 pc = .ok (.iand, 1)) (k : zR g J h0 (pc + 1) L (zi (x &&& y) :: st) h r h') : zR g J h0 pc L (zi y :: zi x :: st) h r h' :=
  zR.step (fun X _ _ _ _ _ hL kk => lv_iand X.1 X.2.1 hd (kk _ hL)) k
theorem zr_ixor {x y : Int32} (hd : decode J.2.1 pc = .ok (.ixor, 1)) (k : zR g J h0 (pc + 1) L (zi (x ^^^ y) :: st) h r h') : zR g J h0 pc L (zi y :: zi x :: st) h r h' :=
  zR.step (fun X _ _ _ _ _ hL kk => lv_ixor X.1 X.2.1 hd (kk _ hL)) k
theorem zr_ishr {x y : Int32} (hd : decode J.2.1 pc = .ok (.ishr, 1)) (k : zR g J h0 (pc + 1) L (zi (x >>> (y &&& 31)) :: st) h r h') : zR g J h0 pc L (zi y :: zi x :: st) h r h' :=
  zR.step (fun X _ _ _ _ _ hL kk => lv_ishr X.1 X.2.1 hd (kk _ hL)) k
theorem zr_idiv {x y : Int32} (hne : ¬ y = 0) (hd : decode J.2.1 pc = .ok (.idiv, 1)) (k : zR g J h0 (pc + 1) L (zi (x / y) :: st) h r h') : zR g J h0 pc L (zi y :: zi x :: st) h r h' :=
  zR.step (fun X _ _ _ _ _ hL kk => lv_idiv X.1 X.2.1 hd hne (kk _ hL)) k
theorem zr_irem {x y : Int32} (hne : ¬ y = 0) (hd : decode J.2.1 pc = .ok (.irem, 1)) (k : zR g J h0 (pc + 1) L (zi (x - x / y * y) :: st) h r h') : zR g J h0 pc L (zi y :: zi x :: st) h r h' :=
  zR.step (fun X _ _ _ _ _ hL kk => lv_irem X.1 X.2.1 hd hne (kk _ hL)) k
theorem zr_i2b {x : Int32} (hd : decode J.2.1 pc = .ok (.i2b, 1)) (k : zR g J h0 (pc + 1) L (zi x.toInt8.toInt32 :: st) h r h') : zR g J h0 pc L (zi x :: st) h r h' :=
  zR.step (fun X _ _ _ _ _ hL kk => lv_i2b X.1 X.2.1 hd rfl (kk _ hL)) k
theorem zr_dup {v : zV} (hd : decode J.2.1 pc = .ok (.dup, 1)) (k : zR g J h0 (pc + 1) L (v :: v :: st) h r h') : zR g J h0 pc L (v :: st) h r h' :=
  zR.step (fun X _ _ _ _ _ hL kk => lv_dup X.1 X.2.1 hd (zv_cat g v) (kk _ hL)) k
theorem zr_pop {v : zV} (hd : decode J.2.1 pc = .ok (.pop, 1)) (k : zR g J h0 (pc + 1) L st h r h') : zR g J h0 pc L (v :: st) h r h' :=
  zR.step (fun X _ _ _ _ _ hL kk => lv_pop X.1 X.2.1 hd (zv_cat g v) (kk _ hL)) k
theorem zr_dup2 {v w : zV} (hd : decode J.2.1 pc = .ok (.dup2, 1)) (k : zR g J h0 (pc + 1) L (v :: w :: v :: w :: st) h r h') : zR g J h0 pc L (v :: w :: st) h r h' :=
  zR.step (fun X _ _ _ _ _ hL kk => lv_dup2_11 X.1 X.2.1 hd (zv_cat g v) (zv_cat g w) (kk _ hL)) k
theorem zr_goto {off : Int} {tgt : Nat} (hd : decode J.2.1 pc = .ok (.goto off, 3)) (ht : (pc : Int) + off = (tgt : Int)) (k : zR g J h0 tgt L st h r h') : zR g J h0 pc L st h r h' :=
  zR.step (fun X _ _ _ _ _ hL kk => lv_goto X.1 X.2.1 hd ht (kk _ hL)) k
theorem zr_ifeq_t {x : Int32} {off : Int} {tgt : Nat} (hd : decode J.2.1 pc = .ok (.ifCond .eq off, 3)) (ht : (pc : Int) + off = (tgt : Int)) (hc : x = 0) (k : zR g J h0 tgt L st h r h') : zR g J h0 pc L (zi x :: st) h r h' :=
  zR.step (fun X _ _ _ _ _ hL kk => lv_if_eq X.1 X.2.1 hd ht (fun _ => kk _ hL) (fun n => absurd hc n)) k
theorem zr_ifeq_f {x : Int32} {off : Int} (tgt : Nat) (hd : decode J.2.1 pc = .ok (.ifCond .eq off, 3)) (ht : (pc : Int) + off = (tgt : Int)) (hc : ¬ x = 0) (k : zR g J h0 (pc + 3) L st h r h') : zR g J h0 pc L (zi x :: st) h r h' :=
  zR.step (fun X _ _ _ _ _ hL kk => lv_if_eq X.1 X.2.1 hd ht (fun n => absurd n hc) (fun _ => kk _ hL)) k
theorem zr_ifne_t {x : Int32} {off : Int} {tgt : Nat} (hd : decode J.2.1 pc = .ok (.ifCond .ne off, 3)) (ht : (pc : Int) + off = (tgt : Int)) (hc : ¬ x = 0) (k : zR g J h0 tgt L st h r h') : zR g J h0 pc L (zi x :: st) h r h' :=
  zR.step (fun X _ _ _ _ _ hL kk => lv_if_ne X.1 X.2.1 hd ht (fun _ => kk _ hL) (fun n => absurd n hc)) k
theorem zr_ifne_f {x : Int32} {off : Int} (tgt : Nat) (hd : decode J.2.1 pc = .ok (.ifCond .ne off, 3)) (ht : (pc : Int) + off = (tgt : Int)) (hc : x = 0) (k : zR g J h0 (pc + 3) L st h r h') : zR g J h0 pc L (zi x :: st) h r h' :=
  zR.step (fun X _ _ _ _ _ hL kk => lv_if_ne X.1 X.2.1 hd ht (fun n => absurd hc n) (fun _ => kk _ hL)) k
theorem zr_iflt_t {x : Int32} {off : Int} {tgt : Nat} (hd : decode J.2.1 pc = .ok (.ifCond .lt off, 3)) (ht : (pc : Int) + off = (tgt : Int)) (hc : x < 0) (k : zR g J h0 tgt L st h r h') : zR g J h0 pc L (zi x :: st) h r h' :=
  zR.step (fun X _ _ _ _ _ hL kk => lv_if_lt X.1 X.2.1 hd ht (fun _ => kk _ hL) (fun n => absurd hc n)) k
theorem zr_iflt_f {x : Int32} {off : Int} (tgt : Nat) (hd : decode J.2.1 pc = .ok (.ifCond .lt off, 3)) (ht : (pc : Int) + off = (tgt : Int)) (hc : ¬ x < 0) (k : zR g J h0 (pc + 3) L st h r h') : zR g J h0 pc L (zi x :: st) h r h' :=
  zR.step (fun X _ _ _ _ _ hL kk => lv_if_lt X.1 X.2.1 hd ht (fun n => absurd n hc) (fun _ => kk _ hL)) k
theorem zr_ifge_t {x : Int32} {off : Int} {tgt : Nat} (hd : decode J.2.1 pc = .ok (.ifCond .ge off, 3)) (ht : (pc : Int) + off = (tgt : Int)) (hc : 0 ≤ x) (k : zR g J h0 tgt L st h r h') : zR g J h0 pc L (zi x :: st) h r h' :=
  zR.step (fun X _ _ _ _ _ hL kk => lv_if_ge X.1 X.2.1 hd ht (fun _ => kk _ hL) (fun n => absurd hc n)) k
theorem zr_ifge_f {x : Int32} {off : Int} (tgt : Nat) (hd : decode J.2.1 pc = .ok (.ifCond .ge off, 3)) (ht : (pc : Int) + off = (tgt : Int)) (hc : ¬ 0 ≤ x) (k : zR g J h0 (pc + 3) L st h r h') : zR g J h0 pc L (zi x :: st) h r h' :=
  zR.step (fun X _ _ _ _ _ hL kk => lv_if_ge X.1 X.2.1 hd ht (fun n => absurd n hc) (fun _ => kk _ hL)) k
theorem zr_ifgt_t {x : Int32} {off : Int} {tgt : Nat} (hd : decode J.2.1 pc = .ok (.ifCond .gt off, 3)) (ht : (pc : Int) + off = (tgt : Int)) (hc : 0 < x) (k : zR g J h0 tgt L st h r h') : zR g J h0 pc L (zi x :: st) h r h' :=
  zR.step (fun X _ _ _ _ _ hL kk => lv_if_gt X.1 X.2.1 hd ht (fun _ => kk _ hL) (fun n => absurd hc n)) k
theorem zr_ifgt_f {x : Int32} {off : Int} (tgt : Nat) (hd : decode J.2.1 pc = .ok (.ifCond .gt off, 3)) (ht : (pc : Int) + off = (tgt : Int)) (hc : ¬ 0 < x) (k : zR g J h0 (pc + 3) L st h r h') : zR g J h0 pc L (zi x :: st) h r h' :=
  zR.step (fun X _ _ _ _ _ hL kk => lv_if_gt X.1 X.2.1 hd ht (fun n => absurd n hc) (fun _ => kk _ hL)) k
theorem zr_ifle_t {x : Int32} {off : Int} {tgt : Nat} (hd : decode J.2.1 pc = .ok (.ifCond .le off, 3)) (ht : (pc : Int) + off = (tgt : Int)) (hc : x ≤ 0) (k : zR g J h0 tgt L st h r h') : zR g J h0 pc L (zi x :: st) h r h' :=
  zR.step (fun X _ _ _ _ _ hL kk => lv_if_le X.1 X.2.1 hd ht (fun _ => kk _ hL) (fun n => absurd hc n)) k
theorem zr_ifle_f {x : Int32} {off : Int} (tgt : Nat) (hd : decode J.2.1 pc = .ok (.ifCond .le off, 3)) (ht : (pc : Int) + off = (tgt : Int)) (hc : ¬ x ≤ 0) (k : zR g J h0 (pc + 3) L st h r h') : zR g J h0 pc L (zi x :: st) h r h' :=
  zR.step (fun X _ _ _ _ _ hL kk => lv_if_le X.1 X.2.1 hd ht (fun n => absurd n hc) (fun _ => kk _ hL)) k
theorem zr_iceq_t {x y : Int32} {off : Int} {tgt : Nat} (hd : decode J.2.1 pc = .ok (.if_icmp .eq off, 3)) (ht : (pc : Int) + off = (tgt : Int)) (hc : x = y) (k : zR g J h0 tgt L st h r h') : zR g J h0 pc L (zi y :: zi x :: st) h r h' :=
  zR.step (fun X _ _ _ _ _ hL kk => lv_icmp_eq X.1 X.2.1 hd ht (fun _ => kk _ hL) (fun n => absurd hc n)) k
theorem zr_iceq_f {x y : Int32} {off : Int} (tgt : Nat) (hd : decode J.2.1 pc = .ok (.if_icmp .eq off, 3)) (ht : (pc : Int) + off = (tgt : Int)) (hc : ¬ x = y) (k : zR g J h0 (pc + 3) L st h r h') : zR g J h0 pc L (zi y :: zi x :: st) h r h' :=
  zR.step (fun X _ _ _ _ _ hL kk => lv_icmp_eq X.1 X.2.1 hd ht (fun n => absurd n hc) (fun _ => kk _ hL)) k
theorem zr_icne_t {x y : Int32} {off : Int} {tgt : Nat} (hd : decode J.2.1 pc = .ok (.if_icmp .ne off, 3)) (ht : (pc : Int) + off = (tgt : Int)) (hc : ¬ x = y) (k : zR g J h0 tgt L st h r h') : zR g J h0 pc L (zi y :: zi x :: st) h r h' :=
  zR.step (fun X _ _ _ _ _ hL kk => lv_icmp_ne X.1 X.2.1 hd ht (fun _ => kk _ hL) (fun n => absurd n hc)) k
theorem zr_icne_f {x y : Int32} {off : Int} (tgt : Nat) (hd : decode J.2.1 pc = .ok (.if_icmp .ne off, 3)) (ht : (pc : Int) + off = (tgt : Int)) (hc : x = y) (k : zR g J h0 (pc + 3) L st h r h') : zR g J h0 pc L (zi y :: zi x :: st) h r h' :=
  zR.step (fun X _ _ _ _ _ hL kk => lv_icmp_ne X.1 X.2.1 hd ht (fun n => absurd hc n) (fun _ => kk _ hL)) k
theorem zr_iclt_t {x y : Int32} {off : Int} {tgt : Nat} (hd : decode J.2.1 pc = .ok (.if_icmp .lt off, 3)) (ht : (pc : Int) + off = (tgt : Int)) (hc : x < y) (k : zR g J h0 tgt L st h r h') : zR g J h0 pc L (zi y :: zi x :: st) h r h' :=
  zR.step (fun X _ _ _ _ _ hL kk => lv_icmp_lt X.1 X.2.1 hd ht (fun _ => kk _ hL) (fun n => absurd hc n)) k
theorem zr_iclt_f {x y : Int32} {off : Int} (tgt : Nat) (hd : decode J.2.1 pc = .ok (.if_icmp .lt off, 3)) (ht : (pc : Int) + off = (tgt : Int)) (hc : ¬ x < y) (k : zR g J h0 (pc + 3) L st h r h') : zR g J h0 pc L (zi y :: zi x :: st) h r h' :=
  zR.step (fun X _ _ _ _ _ hL kk => lv_icmp_lt X.1 X.2.1 hd ht (fun n => absurd n hc) (fun _ => kk _ hL)) k
theorem zr_icge_t {x y : Int32} {off : Int} {tgt : Nat} (hd : decode J.2.1 pc = .ok (.if_icmp .ge off, 3)) (ht : (pc : Int) + off = (tgt : Int)) (hc : y ≤ x) (k : zR g J h0 tgt L st h r h') : zR g J h0 pc L (zi y :: zi x :: st) h r h' :=
  zR.step (fun X _ _ _ _ _ hL kk => lv_icmp_ge X.1 X.2.1 hd ht (fun _ => kk _ hL) (fun n => absurd hc n)) k
theorem zr_icge_f {x y : Int32} {off : Int} (tgt : Nat) (hd : decode J.2.1 pc = .ok (.if_icmp .ge off, 3)) (ht : (pc : Int) + off = (tgt : Int)) (hc : ¬ y ≤ x) (k : zR g J h0 (pc + 3) L st h r h') : zR g J h0 pc L (zi y :: zi x :: st) h r h' :=
  zR.step (fun X _ _ _ _ _ hL kk => lv_icmp_ge X.1 X.2.1 hd ht (fun n => absurd n hc) (fun _ => kk _ hL)) k
theorem zr_icgt_t {x y : Int32} {off : Int} {tgt : Nat} (hd : decode J.2.1 pc = .ok (.if_icmp .gt off, 3)) (ht : (pc : Int) + off = (tgt : Int)) (hc : y < x) (k : zR g J h0 tgt L st h r h') : zR g J h0 pc L (zi y :: zi x :: st) h r h' :=
  zR.step (fun X _ _ _ _ _ hL kk => lv_icmp_gt X.1 X.2.1 hd ht (fun _ => kk _ hL) (fun n => absurd hc n)) k
theorem zr_icgt_f {x y : Int32} {off : Int} (tgt : Nat) (hd : decode J.2.1 pc = .ok (.if_icmp .gt off, 3)) (ht : (pc : Int) + off = (tgt : Int)) (hc : ¬ y < x) (k : zR g J h0 (pc + 3) L st h r h') : zR g J h0 pc L (zi y :: zi x :: st) h r h' :=
  zR.step (fun X _ _ _ _ _ hL kk => lv_icmp_gt X.1 X.2.1 hd ht (fun n => absurd n hc) (fun _ => kk _ hL)) k
theorem zr_icle_t {x y : Int32} {off : Int} {tgt : Nat} (hd : decode J.2.1 pc = .ok (.if_icmp .le off, 3)) (ht : (pc : Int) + off = (tgt : Int)) (hc : x ≤ y) (k : zR g J h0 tgt L st h r h') : zR g J h0 pc L (zi y :: zi x :: st) h r h' :=
  zR.step (fun X _ _ _ _ _ hL kk => lv_icmp_le X.1 X.2.1 hd ht (fun _ => kk _ hL) (fun n => absurd hc n)) k
theorem zr_icle_f {x y : Int32} {off : Int} (tgt : Nat) (hd : decode J.2.1 pc = .ok (.if_icmp .le off, 3)) (ht : (pc : Int) + off = (tgt : Int)) (hc : ¬ x ≤ y) (k : zR g J h0 (pc + 3) L st h r h') : zR g J h0 pc L (zi y :: zi x :: st) h r h' :=
  zR.step (fun X _ _ _ _ _ hL kk => lv_icmp_le X.1 X.2.1 hd ht (fun n => absurd n hc) (fun _ => kk _ hL)) k
theorem zr_ifnull_t {o : Option Nat} {off : Int} {tgt : Nat} (hd : decode J.2.1 pc = .ok (.ifnull off, 3)) (ht : (pc : Int) + off = (tgt : Int)) (hc : o = none) (k : zR g J h0 tgt L st h r h') : zR g J h0 pc L (zr o :: st) h r h' := by
  subst hc
  exact zR.step (fun X _ _ _ _ _ hL kk => lv_ifnullN X.1 X.2.1 hd ht (kk _ hL)) k
theorem zr_ifnull_f {o : Option Nat} {off : Int} (hd : decode J.2.1 pc = .ok (.ifnull off, 3)) (hc : ¬ o = none) (k : zR g J h0 (pc + 3) L st h r h') : zR g J h0 pc L (zr o :: st) h r h' := by
  cases o with
  | none => exact absurd rfl hc
  | some a => exact zR.step (fun X _ _ _ _ _ hL kk => lv_ifnull (x := g.2.2.1 + a) X.1 X.2.1 hd (kk _ hL)) k
theorem zr_ifnonnull_t {o : Option Nat} {off : Int} {tgt : Nat} (hd : decode J.2.1 pc = .ok (.ifnonnull off, 3)) (ht : (pc : Int) + off = (tgt : Int)) (hc : ¬ o = none) (k : zR g J h0 tgt L st h r h') : zR g J h0 pc L (zr o :: st) h r h' := by
  cases o with
  | none => exact absurd rfl hc
  | some a => exact zR.step (fun X _ _ _ _ _ hL kk => lv_ifnonnull (x := g.2.2.1 + a) X.1 X.2.1 hd ht (kk _ hL)) k
theorem zr_ifnonnull_f {o : Option Nat} {off : Int} (hd : decode J.2.1 pc = .ok (.ifnonnull off, 3)) (hc : o = none) (k : zR g J h0 (pc + 3) L st h r h') : zR g J h0 pc L (zr o :: st) h r h' := by
  subst hc
  exact zR.step (fun X _ _ _ _ _ hL kk => lv_ifnonnullN X.1 X.2.1 hd (kk _ hL)) k
theorem zr_tabIn {dflt lo hi : Int} {offs : Array Int} {len : Nat} {x : Int32} {off : Int} {tgt : Nat} (hd : decode J.2.1 pc = .ok (.tableswitch dflt lo hi offs, len)) (h1 : lo ≤ x.toInt ∧ x.toInt ≤ hi) (ho : offs[(x.toInt - lo).toNat]? = some off) (ht : (pc : Int) + off = (tgt : Int)) (k : zR g J h0 tgt L st h r h') : zR g J h0 pc L (zi x :: st) h r h' :=
  zR.step (fun X _ _ _ _ _ hL kk => lv_tableIn X.1 X.2.1 hd (by omega) (by omega) ho ht (kk _ hL)) k
theorem zr_tabOut {dflt lo hi : Int} {offs : Array Int} {len : Nat} {x : Int32} {tgt : Nat} (hd : decode J.2.1 pc = .ok (.tableswitch dflt lo hi offs, len)) (h1 : ¬ (lo ≤ x.toInt ∧ x.toInt ≤ hi)) (ht : (pc : Int) + dflt = (tgt : Int)) (k : zR g J h0 tgt L st h r h') : zR g J h0 pc L (zi x :: st) h r h' :=
  zR.step (fun X _ _ _ _ _ hL kk => lv_tableOut X.1 X.2.1 hd (by omega) ht (kk _ hL)) k
theorem zr_look {dflt : Int} {ps : Array (Int × Int)} {len : Nat} {x : Int32} {off : Int} {tgt : Nat} (hd : decode J.2.1 pc = .ok (.lookupswitch dflt ps, len)) (hp : (ps.toList.zip (ps.toList.drop 1)).all (fun (a, next) => a.1 < next.1) = true) (ho : Op.lookupswitch.offset ps.toList dflt x.toInt = off) (ht : (pc : Int) + off = (tgt : Int)) (k : zR g J h0 tgt L st h r h') : zR g J h0 pc L (zi x :: st) h r h' :=
  zR.step (fun X _ _ _ _ _ hL kk => lv_lookup X.1 X.2.1 hd hp ho ht (kk _ hL)) k
end zrows
end
section
/-! ===== rows that read and write the heap ===== -/
theorem zRA_eq {s : State} {c1 c2 : ClassId} {ty : FieldType} (h1 : va_RA s c1 ty) (h2 : va_RA s c2 ty) : c1 = c2 := by
  cases ty with
  | object C =>
    obtain ⟨_, _, -, -, -, a⟩ := h1
    obtain ⟨_, _, -, -, -, b⟩ := h2
    exact Option.some.inj (a.symm.trans b)
  | _ => exact Option.some.inj (Eq.trans (Eq.symm h1) h2)
def zFg (own : String) (idx ci k : Nat) : Prop := ∃ (C : String) (T : u_T) (N : Nat), vwCl[ci]? = some (C, T, N) ∧ k < N ∧ (∀ w ∈ u_ws C T N, w ∈ zWd) ∧ (Cond.fieldLink own idx (T k).1 (T k).2.1 (T k).2.2.1 ∈ zWd ∨ ∃ host, Cond.fieldLinkNest own idx (T k).1 (T k).2.1 (T k).2.2.1 host ∈ zNw)
def zFp (own nm : String) (idx ci k : Nat) (ty : FieldType) : Prop := ∃ (C : String) (T : u_T) (N : Nat) (ty0 : Nat → FieldType), vwCl[ci]? = some (C, T, N) ∧ k < N ∧ (∀ w ∈ u_ws C T N, w ∈ zWd) ∧ (∀ k, k < N → parseFieldDescriptor (T k).2.2.1 = some (ty0 k)) ∧ (∀ a, a < N → ∀ b, b < N → a ≠ b → (T a).2.1 ≠ (T b).2.1) ∧ parseFieldDescriptor (T k).2.2.1 = some ty ∧
  (((T k).2.2.2 = false ∧ Cond.fieldLink own idx (T k).1 (T k).2.1 (T k).2.2.1 ∈ zWd) ∨ ((T k).2.2.2 = false ∧ ∃ host, Cond.fieldLinkNest own idx (T k).1 (T k).2.1 (T k).2.2.1 host ∈ zNw) ∨ ((T k).2.2.2 = true ∧ nm = "<init>" ∧ (T k).1 = own ∧ Cond.fieldLink own idx (T k).1 (T k).2.1 (T k).2.2.1 ∈ zWd))
def zFn (own : String) (idx ci : Nat) (fs : List zV) : Prop := ∃ (C : String) (T : u_T) (N : Nat) (ty : Nat → FieldType), vwCl[ci]? = some (C, T, N) ∧ (∀ w ∈ u_ws C T N, w ∈ zWd) ∧ (∀ k, k < N → parseFieldDescriptor (T k).2.2.1 = some (ty k)) ∧ Cond.classLink own idx C ∈ zWd ∧ Cond.instantiable C N ∈ zWd ∧ Cond.initialized C ∈ zWd ∧ fs.length = N ∧ ∀ (g : zG) (j : Nat), j < N → defaultValue (ty j) = vp_V (fs.map (zv g)) j
section zheap
variable {g : zG} {J : zJ} {h0 : zH} {pc : Nat} {L : List (Option zV)} {st : List zV} {h : zH} {r : Option zV} {h' : zH}
theorem zr_get {idx ci k a : Nat} {fs : List zV} {v : zV} (hf : zFg J.1.cls idx ci k) (hd : decode J.2.1 pc = .ok (.getfield idx, 3)) (ha : h[a]? = some (.inr (ci, fs))) (hv : fs[k]? = some v) (kk : zR g J h0 (pc + 3) L (v :: st) h r h') : zR g J h0 pc L (zr (some a) :: st) h r h' := by
  obtain ⟨C, T, N, hc, hk, hin, hl⟩ := hf
  refine zR.step (fun X _ _ _ _ hT hL kk => ?_) kk
  have hv2 : (fs.map (zv g))[k]? = some (zv g v) := by rw [List.getElem?_map, hv]; rfl
  rcases hl with hl | ⟨host, hl⟩
  · exact va_get (D := g.1) (ci := ci) (v := zv g v) (C := C) (T := T) (N := N) X.1 X.2.1 X.2.2.2.2.1 hin X.2.2.2.1 X.2.2.2.2.2.2.1.1 hT.2.1 a (zw_get ha) hc k hk (X.2.2.2.2.1 _ hl) (fun _ h9 => h9) hv2 hd (kk _ hL)
  · exact va_getN (D := g.1) (ci := ci) (v := zv g v) (C := C) (T := T) (N := N) (host := host) X.1 X.2.1 X.2.2.2.2.1 hin X.2.2.2.1 X.2.2.2.2.2.2.1.1 hT.2.1 a (zw_get ha) hc k hk (va_Nw.use rfl (X.2.2.2.2.2.2.1.2.1 _ hl)) (fun _ h9 => h9) hv2 hd (kk _ hL)
theorem zr_put {idx ci k a : Nat} {ty : FieldType} {fs : List zV} {v : zV} (hf : zFp J.1.cls J.1.name idx ci k ty) (hd : decode J.2.1 pc = .ok (.putfield idx, 3)) (ha : h[a]? = some (.inr (ci, fs))) (hlen : k < fs.length) (hn : ∀ g : zG, narrow ty (zv g v) = zv g v ∧ fits ty (zv g v) = true) (kk : zR g J h0 (pc + 3) L st (h.set a (.inr (ci, fs.set k v))) r h') : zR g J h0 pc L (v :: zr (some a) :: st) h r h' := by
  obtain ⟨C, T, N, ty0, hc, hk, hin, hty, hnm, hpd, hl⟩ := hf
  refine zR.stepS (List.length_set ..) (zsl_set h a _ _ ha (by simp [zsz])) (fun {p l e R s m args below meth c Q H locs cells slots ls} X _ _ hT hL kk => ?_) kk
  have hlen2 : k < (fs.map (zv g)).length := by simpa using hlen
  have he : (zw g h).set a (g.2.2.1 + a, .inr (ci, (fs.map (zv g)).set k (zv g v))) = zw g (h.set a (.inr (ci, fs.set k v))) := by
    rw [← zw_set]
    simp only [zc, List.map_set]
  rcases hl with ⟨hfin, hl⟩ | ⟨hfin, host, hl⟩ | ⟨hfin, hnam, hdecl, hl⟩
  · refine va_put (D := g.1) (ci := ci) (v := zv g v) (ty := ty) (C := C) (T := T) (N := N) X.1 X.2.1 X.2.2.2.2.1 hin ty0 hty hnm X.2.2.2.1 X.2.2.2.2.2.2.1.1 hT.2.1 (zw_D g h) hT.2.2 a (zw_get ha) hc k hk (X.2.2.2.2.1 _ hl) (fun _ h9 => h9) hfin hpd (hn g).1 (hn g).2 hlen2 hd (fun H1 locs1 hP hD hS => ?_)
    rw [he] at hP
    exact kk H1 locs1 ls hP hS hL
  · refine va_putN (D := g.1) (ci := ci) (v := zv g v) (ty := ty) (C := C) (T := T) (N := N) (host := host) X.1 X.2.1 X.2.2.2.2.1 hin ty0 hty hnm X.2.2.2.1 X.2.2.2.2.2.2.1.1 hT.2.1 (zw_D g h) hT.2.2 a (zw_get ha) hc k hk (va_Nw.use rfl (X.2.2.2.2.2.2.1.2.1 _ hl)) (fun _ h9 => h9) hfin hpd (hn g).1 (hn g).2 hlen2 hd (fun H1 locs1 hP hD hS => ?_)
    rw [he] at hP
    exact kk H1 locs1 ls hP hS hL
  · refine va_putF (D := g.1) (ci := ci) (v := zv g v) (ty := ty) (C := C) (T := T) (N := N) X.1 X.2.1 X.2.2.2.2.1 hin ty0 hty hnm X.2.2.2.1 X.2.2.2.2.2.2.1.1 hT.2.1 (zw_D g h) hT.2.2 a (zw_get ha) hc k hk (X.2.2.2.2.1 _ hl) (fun _ h9 => h9) hfin (X.2.2.2.2.2.1.trans hnam) hdecl hpd (hn g).1 (hn g).2 hlen2 hd (fun H1 locs1 hP hD hS => ?_)
    rw [he] at hP
    exact kk H1 locs1 ls hP hS hL
theorem zn_i (x : Int32) (g : zG) : narrow .int (zv g (zi x)) = zv g (zi x) ∧ fits .int (zv g (zi x)) = true := ⟨rfl, rfl⟩
theorem zn_o (C : String) (o : Option Nat) (g : zG) : narrow (.object C) (zv g (zr o)) = zv g (zr o) ∧ fits (.object C) (zv g (zr o)) = true := by cases o <;> exact ⟨rfl, rfl⟩
theorem zn_a (t : FieldType) (o : Option Nat) (g : zG) : narrow (.array t) (zv g (zr o)) = zv g (zr o) ∧ fits (.array t) (zv g (zr o)) = true := by cases o <;> exact ⟨rfl, rfl⟩
theorem zr_alen {a t n : Nat} {ty : FieldType} {x : (Nat → Int32) ⊕ (Nat → Option Nat)} (ht : zty[t]? = some ty) (hd : decode J.2.1 pc = .ok (.arraylength, 1)) (ha : h[a]? = some (.inl (t, n, x))) (kk : zR g J h0 (pc + 1) L (zi (nI n) :: st) h r h') : zR g J h0 pc L (zr (some a) :: st) h r h' := by
  refine zR.step (fun X _ _ _ _ hT hL kk => ?_) kk
  rcases x with f | f
  · exact va_alen (D := g.1) X.1 X.2.1 X.2.2.2.2.2.2.1.1 hT.2.1 a t (zw_get ha) (ztys X.2.2.2.2.2.2.2 ht) rfl hd (kk _ hL)
  · exact va_alen (D := g.1) X.1 X.2.1 X.2.2.2.2.2.2.1.1 hT.2.1 a t (zw_get ha) (ztys X.2.2.2.2.2.2.2 ht) rfl hd (kk _ hL)
theorem zr_iald {a n : Nat} {f : Nat → Int32} {i : Int32} (hd : decode J.2.1 pc = .ok (.iaload, 1)) (ha : h[a]? = some (.inl (0, n, .inl f))) (hin : vp_in i n) (kk : zR g J h0 (pc + 1) L (zi (f i.toNatClampNeg) :: st) h r h') : zR g J h0 pc L (zi i :: zr (some a) :: st) h r h' :=
  zR.step (fun X _ _ _ _ hT hL kk => va_iald (D := g.1) X.1 X.2.1 X.2.2.2.2.2.2.1.1 hT.2.1 a 0 (zw_get ha) (ztys X.2.2.2.2.2.2.2 rfl) hin hd (kk _ hL)) kk
theorem zr_bald {a n : Nat} {f : Nat → Int32} {i : Int32} (hd : decode J.2.1 pc = .ok (.baload, 1)) (ha : h[a]? = some (.inl (1, n, .inl f))) (hin : vp_in i n) (kk : zR g J h0 (pc + 1) L (zi (f i.toNatClampNeg) :: st) h r h') : zR g J h0 pc L (zi i :: zr (some a) :: st) h r h' :=
  zR.step (fun X _ _ _ _ hT hL kk => va_bald (D := g.1) X.1 X.2.1 X.2.2.2.2.2.2.1.1 hT.2.1 a 1 (zw_get ha) (ztys X.2.2.2.2.2.2.2 rfl) hin hd (kk _ hL)) kk
theorem zr_cald {a n : Nat} {f : Nat → Int32} {i : Int32} (hd : decode J.2.1 pc = .ok (.caload, 1)) (ha : h[a]? = some (.inl (2, n, .inl f))) (hin : vp_in i n) (kk : zR g J h0 (pc + 1) L (zi (f i.toNatClampNeg) :: st) h r h') : zR g J h0 pc L (zi i :: zr (some a) :: st) h r h' :=
  zR.step (fun X _ _ _ _ hT hL kk => va_cald (D := g.1) X.1 X.2.1 X.2.2.2.2.2.2.1.1 hT.2.1 a 2 (zw_get ha) (ztys X.2.2.2.2.2.2.2 rfl) hin hd (kk _ hL)) kk
theorem zr_zald {a n : Nat} {f : Nat → Int32} {i : Int32} (hd : decode J.2.1 pc = .ok (.baload, 1)) (ha : h[a]? = some (.inl (3, n, .inl f))) (hin : vp_in i n) (kk : zR g J h0 (pc + 1) L (zi (f i.toNatClampNeg) :: st) h r h') : zR g J h0 pc L (zi i :: zr (some a) :: st) h r h' :=
  zR.step (fun X _ _ _ _ hT hL kk => va_zald (D := g.1) X.1 X.2.1 X.2.2.2.2.2.2.1.1 hT.2.1 a 3 (zw_get ha) (ztys X.2.2.2.2.2.2.2 rfl) hin hd (kk _ hL)) kk
theorem zr_aald {a t n : Nat} {C : String} {f : Nat → Option Nat} {i : Int32} (ht : zty[t]? = some (.object C)) (hd : decode J.2.1 pc = .ok (.aaload, 1)) (ha : h[a]? = some (.inl (t, n, .inr f))) (hin : vp_in i n) (kk : zR g J h0 (pc + 1) L (zr (f i.toNatClampNeg) :: st) h r h') : zR g J h0 pc L (zi i :: zr (some a) :: st) h r h' :=
  zR.step (fun X _ _ _ _ hT hL kk => va_aldq (D := g.1) X.1 X.2.1 X.2.2.2.2.2.2.1.1 hT.2.1 a t (zw_get ha) (ztys X.2.2.2.2.2.2.2 ht) hin hd (kk _ hL)) kk
theorem zr_iast {a n : Nat} {f : Nat → Int32} {i x : Int32} (hd : decode J.2.1 pc = .ok (.iastore, 1)) (ha : h[a]? = some (.inl (0, n, .inl f))) (hin : vp_in i n) (kk : zR g J h0 (pc + 1) L st (h.set a (.inl (0, n, .inl (upd f i.toNatClampNeg x)))) r h') : zR g J h0 pc L (zi x :: zi i :: zr (some a) :: st) h r h' := by
  refine zR.stepS (List.length_set ..) (zsl_set h a _ _ ha (by rfl)) (fun {p l e R s m args below meth c Q H locs cells slots ls} X _ _ hT hL kk => ?_) kk
  refine va_iast (D := g.1) X.1 X.2.1 X.2.2.2.2.2.2.1.1 hT.2.1 (zw_D g h) hT.2.2 a 0 (zw_get ha) (ztys X.2.2.2.2.2.2.2 rfl) hin hd (fun H1 locs1 hP hD hS => ?_)
  exact kk H1 locs1 ls (by rw [← zw_set]; exact hP) hS hL
theorem zr_bast {a n : Nat} {f : Nat → Int32} {i x : Int32} (hd : decode J.2.1 pc = .ok (.bastore, 1)) (ha : h[a]? = some (.inl (1, n, .inl f))) (hin : vp_in i n) (kk : zR g J h0 (pc + 1) L st (h.set a (.inl (1, n, .inl (upd f i.toNatClampNeg (vp_nar .byte x))))) r h') : zR g J h0 pc L (zi x :: zi i :: zr (some a) :: st) h r h' := by
  refine zR.stepS (List.length_set ..) (zsl_set h a _ _ ha (by rfl)) (fun {p l e R s m args below meth c Q H locs cells slots ls} X _ _ hT hL kk => ?_) kk
  refine va_bast (D := g.1) X.1 X.2.1 X.2.2.2.2.2.2.1.1 hT.2.1 (zw_D g h) hT.2.2 a 1 (zw_get ha) (ztys X.2.2.2.2.2.2.2 rfl) hin hd (fun H1 locs1 hP hD hS => ?_)
  exact kk H1 locs1 ls (by rw [← zw_set]; exact hP) hS hL
theorem zr_cast {a n : Nat} {f : Nat → Int32} {i x : Int32} (hd : decode J.2.1 pc = .ok (.castore, 1)) (ha : h[a]? = some (.inl (2, n, .inl f))) (hin : vp_in i n) (kk : zR g J h0 (pc + 1) L st (h.set a (.inl (2, n, .inl (upd f i.toNatClampNeg (vp_nar .char x))))) r h') : zR g J h0 pc L (zi x :: zi i :: zr (some a) :: st) h r h' := by
  refine zR.stepS (List.length_set ..) (zsl_set h a _ _ ha (by rfl)) (fun {p l e R s m args below meth c Q H locs cells slots ls} X _ _ hT hL kk => ?_) kk
  refine va_cast (D := g.1) X.1 X.2.1 X.2.2.2.2.2.2.1.1 hT.2.1 (zw_D g h) hT.2.2 a 2 (zw_get ha) (ztys X.2.2.2.2.2.2.2 rfl) hin hd (fun H1 locs1 hP hD hS => ?_)
  exact kk H1 locs1 ls (by rw [← zw_set]; exact hP) hS hL
theorem zr_zast {a n : Nat} {f : Nat → Int32} {i x : Int32} (hd : decode J.2.1 pc = .ok (.bastore, 1)) (ha : h[a]? = some (.inl (3, n, .inl f))) (hin : vp_in i n) (kk : zR g J h0 (pc + 1) L st (h.set a (.inl (3, n, .inl (upd f i.toNatClampNeg (vp_nar .boolean x))))) r h') : zR g J h0 pc L (zi x :: zi i :: zr (some a) :: st) h r h' := by
  refine zR.stepS (List.length_set ..) (zsl_set h a _ _ ha (by rfl)) (fun {p l e R s m args below meth c Q H locs cells slots ls} X _ _ hT hL kk => ?_) kk
  refine va_zast (D := g.1) X.1 X.2.1 X.2.2.2.2.2.2.1.1 hT.2.1 (zw_D g h) hT.2.2 a 3 (zw_get ha) (ztys X.2.2.2.2.2.2.2 rfl) hin hd (fun H1 locs1 hP hD hS => ?_)
  exact kk H1 locs1 ls (by rw [← zw_set]; exact hP) hS hL
theorem zr_aast {a t n ci : Nat} {rr : vw_C} {f : Nat → Option Nat} {i : Int32} {o : Option Nat} (ht : zty[t]? = some (.object rr.1)) (hc : vwCl[ci]? = some rr) (hd : decode J.2.1 pc = .ok (.aastore, 1)) (ha : h[a]? = some (.inl (t, n, .inr f))) (ho : ∀ v, o = some v → ∃ vs, h[v]? = some (.inr (ci, vs))) (hin : vp_in i n) (kk : zR g J h0 (pc + 1) L st (h.set a (.inl (t, n, .inr (va_up f i.toNatClampNeg o)))) r h') : zR g J h0 pc L (zr o :: zi i :: zr (some a) :: st) h r h' := by
  refine zR.stepS (List.length_set ..) (zsl_set h a _ _ ha (by rfl)) (fun {p l e R s m args below meth c Q H locs cells slots ls} X _ _ hT hL kk => ?_) kk
  have e9 : ∀ x : Option Nat, (fun j => ((va_up f i.toNatClampNeg x) j).map (fun a => g.2.2.1 + a)) = va_up (fun j => (f j).map (fun a => g.2.2.1 + a)) i.toNatClampNeg (x.map (fun a => g.2.2.1 + a)) := by
    intro x
    funext j
    by_cases hj : j = i.toNatClampNeg <;> simp [va_up, hj]
  cases o with
  | none =>
    refine va_astqN (D := g.1) X.1 X.2.1 X.2.2.2.2.2.2.1.1 hT.2.1 (zw_D g h) hT.2.2 a t (zw_get ha) (ztys X.2.2.2.2.2.2.2 ht) hin hd (fun H1 locs1 hP hD hS => ?_)
    exact kk H1 locs1 ls (by rw [← zw_set]; simp only [zc, e9]; exact hP) hS hL
  | some v =>
    obtain ⟨vs, hv⟩ := ho v rfl
    refine va_astq (D := g.1) X.1 X.2.1 X.2.2.2.2.2.2.1.1 hT.2.1 (zw_D g h) hT.2.2 a t v ci (zw_get ha) (ztys X.2.2.2.2.2.2.2 ht) (zw_get hv) hc hin hd (fun H1 locs1 hP hD hS => ?_)
    exact kk H1 locs1 ls (by rw [← zw_set]; simp only [zc, e9]; exact hP) hS hL
theorem zr_new {idx ci : Nat} {fs : List zV} (hf : zFn J.1.cls idx ci fs) (hd : decode J.2.1 pc = .ok (.new idx, 3)) (kk : zR g J h0 (pc + 3) L (zr (some h.length) :: st) (h ++ [.inr (ci, fs)]) r h') : zR g J h0 pc L st h r h' := by
  obtain ⟨C, T, N, ty, hc, hin, hty, w1, w2, w3, hlen, hdf⟩ := hf
  refine zR.stepA (e1 := .inr (ci, fs)) (fun {p l e R s m args below meth c Q H locs cells slots ls} X _ _ b1 b2 hT hL hb kk => ?_) kk
  have hs9 : zsz (.inr (ci, fs)) = N := hlen
  rw [hs9] at b2
  refine va_new (D := g.1) (ci := ci) (fs := fs.map (zv g)) (C := C) (T := T) (N := N) X.1 X.2.1 X.2.2.2.2.1 hin ty hty X.2.2.2.1 (X.2.2.2.2.1 _ w1) (X.2.2.2.2.1 _ w2) (X.2.2.2.2.1 _ w3) X.2.2.2.2.2.2.1.1 hT.2.1 (zw_D g h) hT.2.2 (fun q hq => Nat.le_trans hb hq) hc (hdf g) b1 b2 hd (fun q H1 hP hD hS => ?_)
  have := kk H1 locs q hP hD hS
  rw [hs9] at this
  exact this
theorem zr_newa {atype : ArrayType} {t : Nat} {n : Int32} (hw : Cond.arrayClass (newarray.typeOf atype) ∈ zWd) (ht : zty[t]? = some (newarray.typeOf atype)) (hz : ∀ (cA : ClassId) (N : Nat), vp_cell cA (N, .inl (fun _ => 0)) = arrV cA N (fun _ => defaultValue (newarray.typeOf atype))) (hd : decode J.2.1 pc = .ok (.newarray atype, 2)) (hn : ¬ n < 0) (hb9 : n.toNatClampNeg * componentBytes (newarray.typeOf atype) ≤ 536870912)
    (kk : zR g J h0 (pc + 2) L (zr (some h.length) :: st) (h ++ [.inl (t, n.toNatClampNeg, .inl (fun _ => 0))]) r h') : zR g J h0 pc L (zi n :: st) h r h' := by
  refine zR.stepA (e1 := .inl (t, n.toNatClampNeg, .inl (fun _ => 0))) (fun {p l e R s m args below meth c Q H locs cells slots ls} X _ _ b1 b2 hT hL hb kk => ?_) kk
  refine va_newa (D := g.1) X.1 X.2.1 (X.2.2.2.2.1 _ hw) rfl X.2.2.2.2.2.2.1.1 hT.2.1 (zw_D g h) hT.2.2 (fun q hq => Nat.le_trans hb hq) (a0 := (n.toNatClampNeg, .inl (fun _ => 0))) (fun cA => hz cA _) hn rfl hb9 b1 b2 hd (fun q cA H1 hK hP hD hS => ?_)
  have hcA : cA = zca g t := zRA_eq (hK.2 g.2.1.length (cA, _) (by simp)).2 (X.2.2.2.2.2.2.1.1.2 t _ (ztys X.2.2.2.2.2.2.2 ht)).2
  subst hcA
  exact kk H1 locs q hP hD hS
theorem zr_newq {idx t : Nat} {C : String} {n : Int32} (hw : Cond.classLink J.1.cls idx C ∈ zWd) (ho : C = RX0 ∨ C = RX9) (ht : zty[t]? = some (.object C)) (hd : decode J.2.1 pc = .ok (.anewarray idx, 3)) (hn : ¬ n < 0) (hb9 : n.toNatClampNeg * 4 ≤ 536870912)
    (kk : zR g J h0 (pc + 3) L (zr (some h.length) :: st) (h ++ [.inl (t, n.toNatClampNeg, .inr (fun _ => none))]) r h') : zR g J h0 pc L (zi n :: st) h r h' := by
  refine zR.stepA (e1 := .inl (t, n.toNatClampNeg, .inr (fun _ => none))) (fun {p l e R s m args below meth c Q H locs cells slots ls} X _ _ b1 b2 hT hL hb kk => ?_) kk
  have hao : va_AO C s := by
    rcases ho with rfl | rfl
    · exact X.2.2.2.2.2.2.1.2.2.1
    · exact X.2.2.2.2.2.2.1.2.2.2.1
  refine va_newq (D := g.1) X.1 X.2.1 X.2.2.2.1 (X.2.2.2.2.1 _ hw) hao X.2.2.2.2.2.2.1.1 hT.2.1 (zw_D g h) hT.2.2 (fun q hq => Nat.le_trans hb hq) hn rfl hb9 b1 b2 hd (fun q cA H1 hK hP hD hS => ?_)
  have hcA : cA = zca g t := zRA_eq (hK.2 g.2.1.length (cA, _) (by simp)).2 (X.2.2.2.2.2.2.1.1.2 t _ (ztys X.2.2.2.2.2.2.2 ht)).2
  subst hcA
  exact kk H1 locs q hP hD hS
end zheap
end
section
/-! ===== contracts and calls ===== -/
def zWs (J : zJ) : List Cond := Cond.code J.1 J.2.1 J.2.2.1 J.2.2.2.1 :: zWd
def zB (g : zG) (h : zH) (U : State) : Prop := U.heap.size = g.2.2.1 + h.length ∧ va_P g.1 vwCl (zw g h) U.heap ∧ zU g U
def zRm (J : zJ) (c s : Nat) : Room := { frames := J.2.2.2.2.1, cells := c, slots := s, locals := J.2.2.2.2.2 }
def zCa (g : zG) (J : zJ) (as : List zV) (h : zH) (r : Option zV) (h' : zH) : Prop :=
  (h.length ≤ h'.length ∧ zsl h ≤ zsl h') ∧ ∀ l : Launch, Met l J.1 (zWs J) (zRm J (h'.length - h.length) (zsl h' - zsl h)) (va_Pc (as.map (zv g)) (zB g h)) (fun _ => zQ3 g r h') (h'.length - h.length) (zsl h' - zsl h) (zA g)
theorem zlg (g : zG) : ∀ as : List zV, lg_sl (as.map (zv g)) = as.map (fun v => Slot.val (zv g v))
  | [] => rfl
  | v :: as => by
    have := zlg g as
    simp only [lg_sl] at this
    simp [lg_sl, zv_cat, this]
theorem zarg (g : zG) : ∀ (as : List zV) (k n : Nat), zas g k (as.map some ++ List.replicate n none) = lv_args k (as.map (zv g))
  | [], k, n => by
    induction n generalizing k with
    | zero => simp [zas, lv_args]
    | succ n ih =>
      simp only [List.map_nil, List.nil_append] at ih ⊢
      rw [List.replicate_succ, zas, ih]
      simp [lv_args]
  | v :: as, k, n => by
    simp only [List.map_cons, List.cons_append, zas, lv_args, zv_cat]
    rw [zarg g as (k + 1) n, if_neg (by decide)]
theorem zCa.of {g : zG} {J : zJ} {as : List zV} {h : zH} {r : Option zV} {h' : zH} (hty : g.2.1.map (fun q => q.2) = zty) (hy : plainName J.1.cls = true) (hn : as.length ≤ J.2.2.1) (k : zR g J h 0 (as.map some ++ List.replicate (J.2.2.1 - as.length) none) [] h r h') : zCa g J as h r h' := by
  have hok := k.2.1
  refine ⟨k.1, fun l => ?_⟩
  refine Met.ofW (cc := J.2.1) (maxL := J.2.2.1) (ret := J.2.2.2.1) hy rfl ?_
  intro p e s m args below meth c s₁ B hml hv
  obtain ⟨rfl, hsz, hP, hu⟩ := hv
  have hts := atoms_spec (ws := zWs J) B.pre
  have X : zX g J p s m (as.map (zv g)).toArray meth c := ⟨B.exec, B.bytes, hml, findClass_of_methodNamed B.named, fun w hw => hts w (List.mem_cons_of_mem _ hw), (name_of_methodNamed B.named B.method).1, hu, hty⟩
  have hlen : (lg_sl (as.map (zv g))).length = as.length := by rw [zlg]; simp
  have hl := lv_entry (as.map (zv g)) (n := J.2.2.1) (by rw [hlen]; exact hn)
  rw [lg_entry_eq]
  generalize (lg_sl (as.map (zv g)) ++ List.replicate (J.2.2.1 - (lg_sl (as.map (zv g))).length) Slot.unset).toArray = ls at hl ⊢
  have hL : zL g ls J.2.2.1 (as.map some ++ List.replicate (J.2.2.1 - as.length) none) := by
    unfold zL
    rw [zarg]
    exact hl
  have hk := k.2.2 (Nat.le_refl _) (Nat.le_refl _) p l e (zRm J (h'.length - h.length) (zsl h' - zsl h)) s m (as.map (zv g)).toArray below meth c (MQ below (fun _ => zQ3 g r h') (as.map (zv g)).toArray s (h'.length - h.length) (zsl h' - zsl h) (zA g)) X hsz (Nat.le_refl _) (Nat.le_refl _) (Nat.le_refl _) (Nat.le_refl _) ?_ s.heap [] ls ⟨hsz, hP, va_S.rf⟩ hL
  · rw [Nat.sub_self, Nat.sub_self] at hk
    exact hk
  · intro pc' ls2 H locs hT hd
    have hr := B.returns
    have hlocks := B.notSynchronized
    have hq : ∀ t : State, t.heap = H → s.WarmedH t.vm → zQ3 g r h' s (.returned (r.map (zv g))) t := fun t ht hW => ⟨⟨rfl, by rw [ht]; exact hT.2.1⟩, hT.2.2.F ht⟩
    revert hok hr
    generalize J.2.2.2.1 = rt
    intro hok hr
    rcases r with _ | (x | (o | q))
    · cases rt with
      | none => exact W.vret (Qc := fun _ => zQ3 g none h') B.exec B.bytes hr hq hT.2.2.2.2 hd hlocks
      | some ty => exact hok.elim
    · cases rt with
      | none => exact hok.elim
      | some ty => exact W.zret (Qc := fun _ => zQ3 g (some (.inl x)) h') (v := x) B.exec B.bytes hr hok hq hT.2.2.2.2 hd hlocks
    · cases rt with
      | none => exact hok.elim
      | some ty => exact W.aret (Qc := fun _ => zQ3 g (some (.inr (.inl o))) h') (v := zv g (.inr (.inl o))) B.exec B.bytes hr hok (by cases o with
          | none => exact Or.inl rfl
          | some a => exact Or.inr ⟨_, rfl⟩) hq hT.2.2.2.2 hd hlocks
    · cases rt with
      | none => exact hok.elim
      | some ty => exact hok.elim
theorem zgood {ws : List Cond} (h : ∀ w ∈ ws, w ∈ zWd) : GoodIn zWd ws := fun w hw => zWd_good (h w hw)
theorem zblind (g : zG) (h : zH) (as : List zV) : FrameBlind (va_Pc (as.map (zv g)) (zB g h)) := fun a U f mk q => ⟨q.1, q.2.1, q.2.2.1, q.2.2.2.call f mk a⟩
theorem zsum (g : zG) : ∀ rest : List zV, ((rest.map (zv g)).map (fun v => v.category)).sum = rest.length
  | [] => rfl
  | v :: rest => by
    have := zsum g rest
    simp only [List.map_cons, List.sum_cons, zv_cat, this, List.length_cons]
    omega
def zMp (J : zJ) (n : Nat) : Prop := J.1.cls ≠ "java/lang/invoke/MethodHandle" ∧ J.1.cls ≠ "java/lang/invoke/VarHandle" ∧ (parseMethodDescriptor J.1.desc).map (fun d => d.parameters.length) = some n
def zMv (J : zJ) (n : Nat) : Prop := (Cond.instanceMethod J.1 ∈ zWd ∧ Cond.selects J.1.cls J.1 J.1 ∈ zWd ∧ Cond.initialized J.1.cls ∈ zWd ∧ Cond.code J.1 J.2.1 J.2.2.1 J.2.2.2.1 ∈ zWd) ∧ zMp J n
def zMs (J : zJ) (n : Nat) : Prop := (Cond.static J.1 ∈ zWd ∧ Cond.initialized J.1.cls ∈ zWd ∧ Cond.code J.1 J.2.1 J.2.2.1 J.2.2.2.1 ∈ zWd) ∧ zMp J n
def zMc (J : zJ) (n : Nat) : Prop := (Cond.instanceMethod J.1 ∈ zWd ∧ Cond.initialized J.1.cls ∈ zWd ∧ Cond.code J.1 J.2.1 J.2.2.1 J.2.2.2.1 ∈ zWd) ∧ J.1.name = "<init>" ∧ J.2.2.2.1 = none ∧ zMp J n
def zFits (J J' : zJ) : Prop := J'.2.2.2.2.1 + 1 ≤ J.2.2.2.2.1 ∧ 8 + (J'.2.2.1 + 11) + J'.2.2.2.2.2 ≤ J.2.2.2.2.2
section zcalls
variable {g : zG} {J J' : zJ} {h0 : zH} {pc idx n : Nat} {L : List (Option zV)} {rest as : List zV} {h h1 : zH} {r r1 : Option zV} {h' : zH}
theorem zpre {p : Program} {s : State} {m : MethodId} {args : Array Value} {meth : Method} {c : Code} {H : Heap} {locs : List Loc} (X : zX g J p s m args meth c) (hT : zT g s h H locs) (U : State) (hU : U.heap = H) (hW : s.WarmedH U.vm) : va_Pc (as.map (zv g)) (zB g h) (as.map (zv g)).toArray U :=
  ⟨rfl, by rw [hU]; exact hT.1, by rw [hU]; exact hT.2.1, zU.warm X.2.2.2.2.2.2.1 hW (fun a h1 h2 => by rw [hU]; exact hT.2.2.2.1 a h1 h2)⟩
theorem zstk (st : List zV) (a : Nat) : ((as.reverse ++ zr (some a) :: rest).map (zv g)) = (as.map (zv g)).reverse ++ .ref (g.2.2.1 + a) :: rest.map (zv g) := by
  simp [List.map_reverse, zv, va_rf]
theorem zr_callV {a ci : Nat} {fs : List zV} {q : vw_C} (hl : Cond.methodLink J.1.cls idx J'.1 ∈ zWd) (hM : zMv J' n) (hF : zFits J J') (hd : decode J.2.1 pc = .ok (.invokevirtual idx, 3)) (hn : as.length = n) (hrest : rest.length ≤ 8) (hq : vwCl[ci]? = some q) (hq1 : q.1 = J'.1.cls) (ha : h[a]? = some (.inr (ci, fs))) (hc : zCa g J' (zr (some a) :: as) h r1 h1)
    (kk : zR g J h0 (pc + 3) L (r1.toList ++ rest) h1 r h') : zR g J h0 pc L (as.reverse ++ zr (some a) :: rest) h r h' := by
  refine zR.stepC hc.1 (fun {p l e R s m args below meth c H locs cells slots ls} X b1 b2 hT hL b3 b4 => ?_) kk
  obtain ⟨⟨m1, m2, m3, m4⟩, m5, m6, m7⟩ := hM
  have hgood : GoodIn zWd (wsV J.1.cls idx J'.1.cls J'.1 (zWs J')) := zgood (fun w hw => by
    simp only [wsV, zWs, List.cons_append, List.nil_append, List.mem_cons] at hw
    rcases hw with rfl | rfl | rfl | rfl | rfl | hw
    · exact hl
    · exact m1
    · exact m2
    · exact m3
    · exact m4
    · exact hw)
  have hrec := va_recv X.2.2.2.2.2.2.1.1 hT.2.1 hq (zw_get ha)
  rw [hq1] at hrec
  rw [zstk []]
  exact va_runV (As := as.map (zv g)) (rest := rest.map (zv g)) (b := g.2.2.1 + a) ⟨X.1, X.2.1, X.2.2.1, X.2.2.2.1, X.2.2.2.2.1⟩ (hc.2 l) (cwV n X.2.2.2.2.1 hgood rfl rfl rfl ⟨rfl, m5, m6, m7⟩ ⟨Nat.le_trans hF.1 b1, Nat.le_trans hF.2 b2⟩) ⟨zblind g h _, hrec, fun U hU hW => zpre X hT U hU hW⟩ rfl (by simpa using hn) hL.1 rfl (lv_room (by rw [zsum]; exact hrest)) hd ⟨b3, b4⟩
theorem zr_callS (hl : Cond.methodLink J.1.cls idx J'.1 ∈ zWd) (hM : zMs J' n) (hF : zFits J J') (hd : decode J.2.1 pc = .ok (.invokestatic idx, 3)) (hn : as.length = n) (hrest : rest.length ≤ 8) (hc : zCa g J' as h r1 h1)
    (kk : zR g J h0 (pc + 3) L (r1.toList ++ rest) h1 r h') : zR g J h0 pc L (as.reverse ++ rest) h r h' := by
  refine zR.stepC hc.1 (fun {p l e R s m args below meth c H locs cells slots ls} X b1 b2 hT hL b3 b4 => ?_) kk
  obtain ⟨⟨m1, m3, m4⟩, m5, m6, m7⟩ := hM
  have hgood : GoodIn zWd (va_wsS J.1.cls idx J'.1 (zWs J')) := zgood (fun w hw => by
    simp only [va_wsS, zWs, List.cons_append, List.nil_append, List.mem_cons] at hw
    rcases hw with rfl | rfl | rfl | rfl | hw
    · exact hl
    · exact m1
    · exact m3
    · exact m4
    · exact hw)
  rw [List.map_append, List.map_reverse]
  exact va_runS (As := as.map (zv g)) (rest := rest.map (zv g)) ⟨X.1, X.2.1, X.2.2.1, X.2.2.2.1, X.2.2.2.2.1⟩ (hc.2 l) (va_cwS n X.2.2.2.2.1 hgood rfl rfl rfl ⟨m5, m6, m7⟩ ⟨Nat.le_trans hF.1 b1, Nat.le_trans hF.2 b2⟩) ⟨zblind g h _, fun U hU hW => zpre X hT U hU hW⟩ rfl (by simpa using hn) hL.1 rfl (lv_room (by rw [zsum]; exact hrest)) hd ⟨b3, b4⟩
theorem zr_callI {a : Nat} (hl : Cond.methodLink J.1.cls idx J'.1 ∈ zWd) (hM : zMc J' n) (hF : zFits J J') (hd : decode J.2.1 pc = .ok (.invokespecial idx, 3)) (hn : as.length = n) (hrest : rest.length ≤ 8) (hc : zCa g J' (zr (some a) :: as) h r1 h1)
    (kk : zR g J h0 (pc + 3) L (r1.toList ++ rest) h1 r h') : zR g J h0 pc L (as.reverse ++ zr (some a) :: rest) h r h' := by
  refine zR.stepC hc.1 (fun {p l e R s m args below meth c H locs cells slots ls} X b1 b2 hT hL b3 b4 => ?_) kk
  obtain ⟨⟨m1, m3, m4⟩, m8, m9, m5, m6, m7⟩ := hM
  have hgood : GoodIn zWd (zWs J') := zgood (fun w hw => by
    simp only [zWs, List.mem_cons] at hw
    rcases hw with rfl | hw
    · exact m4
    · exact hw)
  rw [zstk []]
  exact va_runI (As := as.map (zv g)) (rest := rest.map (zv g)) (b := g.2.2.1 + a) ⟨X.1, X.2.1, X.2.2.1, X.2.2.2.1, X.2.2.2.2.1⟩ (hc.2 l) (cwI n X.2.2.2.2.1 hgood (ws' := zWd) (bytes := J'.2.1) (maxL := J'.2.2.1) (by rw [zWs, m9]) rfl rfl (X.2.2.2.2.1 _ m3) (X.2.2.2.2.1 _ hl) (X.2.2.2.2.1 _ m1) m8 ⟨m5, m6, m7⟩ ⟨Nat.le_trans hF.1 b1, Nat.le_trans hF.2 b2⟩) ⟨zblind g h _, fun U hU hW => zpre (as := zr (some a) :: as) X hT U hU hW⟩ rfl (by simpa using hn) hL.1 rfl (lv_room (by rw [zsum]; exact hrest)) hd ⟨b3, b4⟩
theorem zr_callIN {a : Nat} {host : String} (hl : Cond.methodLinkNest J.1.cls idx J'.1 host ∈ zNw) (hM : zMc J' n) (hF : zFits J J') (hd : decode J.2.1 pc = .ok (.invokespecial idx, 3)) (hn : as.length = n) (hrest : rest.length ≤ 8) (hc : zCa g J' (zr (some a) :: as) h r1 h1)
    (kk : zR g J h0 (pc + 3) L (r1.toList ++ rest) h1 r h') : zR g J h0 pc L (as.reverse ++ zr (some a) :: rest) h r h' := by
  refine zR.stepC hc.1 (fun {p l e R s m args below meth c H locs cells slots ls} X b1 b2 hT hL b3 b4 => ?_) kk
  obtain ⟨⟨m1, m3, m4⟩, m8, m9, m5, m6, m7⟩ := hM
  have hgood : GoodIn zWd (zWs J') := zgood (fun w hw => by
    simp only [zWs, List.mem_cons] at hw
    rcases hw with rfl | hw
    · exact m4
    · exact hw)
  rw [zstk []]
  exact va_runIN (host := host) (As := as.map (zv g)) (rest := rest.map (zv g)) (b := g.2.2.1 + a) ⟨X.1, X.2.1, X.2.2.1, X.2.2.2.1, X.2.2.2.2.1⟩ (hc.2 l) ⟨va_cnB n X.2.2.2.2.1 hgood (ws' := zWd) (bytes := J'.2.1) (maxL := J'.2.2.1) (by rw [zWs, m9]) rfl rfl (X.2.2.2.2.2.2.1.2.1 _ hl) (X.2.2.2.2.1 _ m3) ⟨m5, m6, m7⟩ ⟨Nat.le_trans hF.1 b1, Nat.le_trans hF.2 b2⟩, m8, X.2.2.2.2.1 _ m1⟩ ⟨zblind g h _, fun U hU hW => zpre (as := zr (some a) :: as) X hT U hU hW⟩ rfl (by simpa using hn) hL.1 rfl (lv_room (by rw [zsum]; exact hrest)) hd ⟨b3, b4⟩
theorem zr_callSN {host : String} (hl : Cond.methodLinkNest J.1.cls idx J'.1 host ∈ zNw) (hM : zMs J' n) (hF : zFits J J') (hd : decode J.2.1 pc = .ok (.invokestatic idx, 3)) (hn : as.length = n) (hrest : rest.length ≤ 8) (hc : zCa g J' as h r1 h1)
    (kk : zR g J h0 (pc + 3) L (r1.toList ++ rest) h1 r h') : zR g J h0 pc L (as.reverse ++ rest) h r h' := by
  refine zR.stepC hc.1 (fun {p l e R s m args below meth c H locs cells slots ls} X b1 b2 hT hL b3 b4 => ?_) kk
  obtain ⟨⟨m1, m3, m4⟩, m5, m6, m7⟩ := hM
  have hgood : GoodIn zWd (zWs J') := zgood (fun w hw => by
    simp only [zWs, List.mem_cons] at hw
    rcases hw with rfl | hw
    · exact m4
    · exact hw)
  rw [List.map_append, List.map_reverse]
  exact va_runSN (host := host) (As := as.map (zv g)) (rest := rest.map (zv g)) ⟨X.1, X.2.1, X.2.2.1, X.2.2.2.1, X.2.2.2.2.1⟩ (hc.2 l) ⟨va_cnB n X.2.2.2.2.1 hgood rfl rfl rfl (X.2.2.2.2.2.2.1.2.1 _ hl) (X.2.2.2.2.1 _ m3) ⟨m5, m6, m7⟩ ⟨Nat.le_trans hF.1 b1, Nat.le_trans hF.2 b2⟩, X.2.2.2.2.1 _ m1, trivial⟩ ⟨zblind g h _, fun U hU hW => zpre X hT U hU hW⟩ rfl (by simpa using hn) hL.1 rfl (lv_room (by rw [zsum]; exact hrest)) hd ⟨b3, b4⟩
theorem zr_objInit {a : Nat} (hl : Cond.methodLink J.1.cls idx objectInit ∈ zWd) (h1 : Cond.instanceMethod objectInit ∈ zWd) (h2 : Cond.code objectInit ⟨#[0xb1]⟩ 1 none ∈ zWd) (hf : 1 ≤ J.2.2.2.2.1 ∧ rest.length + 12 ≤ J.2.2.2.2.2) (hd : decode J.2.1 pc = .ok (.invokespecial idx, 3)) (kk : zR g J h0 (pc + 3) L rest h r h') : zR g J h0 pc L (zr (some a) :: rest) h r h' := by
  refine zR.step (fun {p l e R s m args below meth c Q H locs cells slots ls} X b1 b2 _ _ hT hL kk => ?_) kk
  exact W.objInit (a := g.2.2.1 + a) (rest := rest.map (zv g)) X.1 X.2.1 X.2.2.2.1 (X.2.2.2.2.1 _ hl) (X.2.2.2.2.1 _ h1) (X.2.2.2.2.1 _ h2) rfl (by rw [X.2.2.1]; exact hL.1) rfl hd (Nat.le_trans hf.1 b1) (by show 2 * 0 + _ + 12 ≤ _; rw [zsum]; have := hf.2; omega) (kk _ hL)
theorem zr_mmax {x y : Int32} (w1 : Cond.methodLink J.1.cls idx Lib.Math.max.name ∈ zWd) (w2 : Cond.static Lib.Math.max.name ∈ zWd) (w3 : Cond.initialized "java/lang/Math" ∈ zWd) (w4 : Cond.code Lib.Math.max.name Lib.Math.max.code 2 (some .int) ∈ zWd) (hf : 1 ≤ J.2.2.2.2.1 ∧ rest.length + 13 ≤ J.2.2.2.2.2) (hd : decode J.2.1 pc = .ok (.invokestatic idx, 3)) (kk : zR g J h0 (pc + 3) L (zi (if x < y then y else x) :: rest) h r h') : zR g J h0 pc L (zi y :: zi x :: rest) h r h' := by
  refine zR.step (fun {p l e R s m args below meth c Q H locs cells slots ls} X b1 b2 b3 b4 hT hL kk => ?_) kk
  exact va_mmax X.1 X.2.1 (by rw [X.2.2.1]; exact hL.1.symm) X.2.2.2.1 (X.2.2.2.2.1 _ w1) (X.2.2.2.2.1 _ w2) (X.2.2.2.2.1 _ w3) (X.2.2.2.2.1 _ w4) (Nat.le_trans hf.1 b1) (by rw [zsum]; have := hf.2; omega) b3 b4 hd (kk _ hL)
theorem zr_mmin {x y : Int32} (w1 : Cond.methodLink J.1.cls idx Lib.Math.min.name ∈ zWd) (w2 : Cond.static Lib.Math.min.name ∈ zWd) (w3 : Cond.initialized "java/lang/Math" ∈ zWd) (w4 : Cond.code Lib.Math.min.name Lib.Math.min.code 2 (some .int) ∈ zWd) (hf : 1 ≤ J.2.2.2.2.1 ∧ rest.length + 13 ≤ J.2.2.2.2.2) (hd : decode J.2.1 pc = .ok (.invokestatic idx, 3)) (kk : zR g J h0 (pc + 3) L (zi (if y < x then y else x) :: rest) h r h') : zR g J h0 pc L (zi y :: zi x :: rest) h r h' := by
  refine zR.step (fun {p l e R s m args below meth c Q H locs cells slots ls} X b1 b2 b3 b4 hT hL kk => ?_) kk
  exact va_mmin X.1 X.2.1 (by rw [X.2.2.1]; exact hL.1.symm) X.2.2.2.1 (X.2.2.2.2.1 _ w1) (X.2.2.2.2.1 _ w2) (X.2.2.2.2.1 _ w3) (X.2.2.2.2.1 _ w4) (Nat.le_trans hf.1 b1) (by rw [zsum]; have := hf.2; omega) b3 b4 hd (kk _ hL)
/-- clone of an array, and the cast behind it -/
def zMk (own : String) (idx : Nat) (ad : String) : Prop := Cond.methodLink own idx ⟨ad, "clone", "()Ljava/lang/Object;"⟩ ∈ zWd ∧ Cond.sameMethod ad "java/lang/Object" "clone" "()Ljava/lang/Object;" ∈ zWd ∧ Cond.native ⟨"java/lang/Object", "clone", "()Ljava/lang/Object;"⟩ ∈ zWd ∧ Cond.instanceMethod ⟨"java/lang/Object", "clone", "()Ljava/lang/Object;"⟩ ∈ zWd ∧ Cond.selects ad ⟨ad, "clone", "()Ljava/lang/Object;"⟩ ⟨"java/lang/Object", "clone", "()Ljava/lang/Object;"⟩ ∈ zWd ∧ Cond.castable ad "java/lang/Cloneable" ∈ zNw
theorem znm {s : State} {cA : ClassId} {ty : FieldType} {ad : String} (h : va_RA s cA ty) (he : "[" ++ ty.toString = ad) : s.vm.findClass ad = some cA := by
  subst he
  cases ty with
  | object C => exact h.choose_spec.choose_spec.2.2.2
  | _ => exact h
theorem zr_clone {a t nn : Nat} {ty : FieldType} {ad : String} {x : (Nat → Int32) ⊕ (Nat → Option Nat)} (hk : zMk J.1.cls idx ad) (ht : zty[t]? = some ty) (had : "[" ++ ty.toString = ad) (hx : match x with | .inl _ => ty = .int | .inr _ => ∃ C, ty = .object C) (hf : 1 ≤ J.2.2.2.2.1 ∧ rest.length + 14 ≤ J.2.2.2.2.2) (hd : decode J.2.1 pc = .ok (.invokevirtual idx, 3)) (ha : h[a]? = some (.inl (t, nn, x)))
    (kk : zR g J h0 (pc + 3) L (zr (some h.length) :: rest) (h ++ [.inl (t, nn, x)]) r h') : zR g J h0 pc L (zr (some a) :: rest) h r h' := by
  obtain ⟨w1, w2, w3, w4, w5, w6⟩ := hk
  refine zR.stepA (e1 := .inl (t, nn, x)) (fun {p l e R s m args below meth c Q H locs cells slots ls} X c1 c2 b1 b2 hT hL hb kk => ?_) kk
  have hK := X.2.2.2.2.2.2.1.1
  have hty := ztys X.2.2.2.2.2.2.2 ht
  have hl9 : ((rest.map (zv g)).map fun v => v.category).sum + 14 ≤ R.locals := by rw [zsum]; have := hf.2; omega
  rcases x with f | f
  · subst hx
    refine va_clone (D := g.1) X.1 X.2.1 (by rw [X.2.2.1]; exact hL.1.symm) X.2.2.2.1 (X.2.2.2.2.1 _ w1) (X.2.2.2.2.1 _ w2) (X.2.2.2.2.1 _ w3) (X.2.2.2.2.1 _ w4) (X.2.2.2.2.1 _ w5) (X.2.2.2.2.2.2.1.2.1 _ w6) hK hT.2.1 (zw_D g h) hT.2.2 (fun q hq => Nat.le_trans hb hq) a t (zw_get ha) hty (znm (hK.2 t _ hty).2 had) (fun i v hv => va_fit (cA := zca g t) (n := nn) (F := fun j => .int (f j)) (ty := .int) (fun _ _ => rfl) i v hv) (Nat.le_trans hf.1 c1) hl9 b1 b2 hd (fun q H1 hK1 hP hD hS => ?_)
    exact kk H1 locs q hP hD hS
  · obtain ⟨C, rfl⟩ := hx
    refine va_clone (D := g.1) X.1 X.2.1 (by rw [X.2.2.1]; exact hL.1.symm) X.2.2.2.1 (X.2.2.2.2.1 _ w1) (X.2.2.2.2.1 _ w2) (X.2.2.2.2.1 _ w3) (X.2.2.2.2.1 _ w4) (X.2.2.2.2.1 _ w5) (X.2.2.2.2.2.2.1.2.1 _ w6) hK hT.2.1 (zw_D g h) hT.2.2 (fun q hq => Nat.le_trans hb hq) a t (zw_get ha) hty (znm (hK.2 t _ hty).2 had) (fun i v hv => va_fit (cA := zca g t) (n := nn) (F := fun j => va_rf ((f j).map (fun a => g.2.2.1 + a))) (ty := .object C) (fun j _ => by cases f j <;> rfl) i v hv) (Nat.le_trans hf.1 c1) hl9 b1 b2 hd (fun q H1 hK1 hP hD hS => ?_)
    exact kk H1 locs q hP hD hS
theorem zr_castA {a t nn : Nat} {ty : FieldType} {ad : String} {x : (Nat → Int32) ⊕ (Nat → Option Nat)} (hl : Cond.classLink J.1.cls idx ad ∈ zWd) (ht : zty[t]? = some ty) (had : "[" ++ ty.toString = ad) (hd : decode J.2.1 pc = .ok (.checkcast idx, 3)) (ha : h[a]? = some (.inl (t, nn, x))) (kk : zR g J h0 (pc + 3) L (zr (some a) :: rest) h r h') : zR g J h0 pc L (zr (some a) :: rest) h r h' := by
  refine zR.step (fun {p l e R s m args below meth c Q H locs cells slots ls} X b1 b2 b3 b4 hT hL kk => ?_) kk
  have hK := X.2.2.2.2.2.2.1.1
  have hty := ztys X.2.2.2.2.2.2.2 ht
  rcases x with f | f
  · exact va_castA (D := g.1) X.1 X.2.1 X.2.2.2.1 (X.2.2.2.2.1 _ hl) hT.2.1 a (zw_get ha) (znm (hK.2 t _ hty).2 had) hd (kk _ hL)
  · exact va_castA (D := g.1) X.1 X.2.1 X.2.2.2.1 (X.2.2.2.2.1 _ hl) hT.2.1 a (zw_get ha) (znm (hK.2 t _ hty).2 had) hd (kk _ hL)
theorem zr_copyi {a0 a n0 n1 : Nat} {f f1 : Nat → Int32} {sp dp n : Int32} (w1 : Cond.methodLink J.1.cls idx arraycopyName ∈ zWd) (w2 : Cond.native arraycopyName ∈ zWd) (w3 : Cond.static arraycopyName ∈ zWd) (w4 : Cond.initialized "java/lang/System" ∈ zWd) (hf : 1 ≤ J.2.2.2.2.1 ∧ rest.length + (nativeFrameWords "java/lang/System" "arraycopy" 5 + 11) ≤ J.2.2.2.2.2) (hd : decode J.2.1 pc = .ok (.invokestatic idx, 3)) (ha0 : h[a0]? = some (.inl (0, n0, .inl f))) (ha : h[a]? = some (.inl (0, n1, .inl f1)))
    (h1 : ¬ sp < 0) (h2 : ¬ dp < 0) (h3 : ¬ n < 0) (h4 : sp.toNatClampNeg + n.toNatClampNeg ≤ n0) (h5 : dp.toNatClampNeg + n.toNatClampNeg ≤ n1)
    (kk : zR g J h0 (pc + 3) L rest (h.set a (.inl (0, n1, .inl (va_cpy f f1 sp.toNatClampNeg dp.toNatClampNeg n.toNatClampNeg)))) r h') : zR g J h0 pc L (zi n :: zi dp :: zr (some a) :: zi sp :: zr (some a0) :: rest) h r h' := by
  refine zR.stepS (List.length_set ..) (zsl_set h a _ _ ha (by rfl)) (fun {p l e R s m args below meth c Q H locs cells slots ls} X b1 b2 hT hL kk => ?_) kk
  have hl9 : ((rest.map (zv g)).map fun v => v.category).sum + (nativeFrameWords "java/lang/System" "arraycopy" 5 + 11) ≤ R.locals := by rw [zsum]; have := hf.2; omega
  refine va_copyi (D := g.1) X.1 X.2.1 (by rw [X.2.2.1]; exact hL.1.symm) X.2.2.2.1 (X.2.2.2.2.1 _ w1) (X.2.2.2.2.1 _ w2) (X.2.2.2.2.1 _ w3) (X.2.2.2.2.1 _ w4) X.2.2.2.2.2.2.1.1 hT.2.1 (zw_D g h) hT.2.2 a0 a 0 0 (zw_get ha0) (zw_get ha) (ztys X.2.2.2.2.2.2.2 rfl) (ztys X.2.2.2.2.2.2.2 rfl) rfl h1 h2 h3 h4 h5 (fun _ _ => rfl) (Nat.le_trans hf.1 b1) hl9 hd (fun H1 locs1 hP hD hS => ?_)
  exact kk H1 locs1 ls (by rw [← zw_set]; exact hP) hS hL
end zcalls
end
section
/-! ===== what the shadows read and write; lock-step rows ===== -/
theorem zbd {α β : Type} {x : Option α} {f : α → Option β} {r : β} (h : x.bind f = some r) : ∃ y, x = some y ∧ f y = some r := Option.bind_eq_some_iff.mp h
def zo (h : zH) (ci : Nat) (o : Option Nat) : Option (Nat × List zV) := match o with
  | none => none
  | some a => match h[a]? with
    | some (.inr (c, fs)) => if c = ci then some (a, fs) else none
    | _ => none
def zck (h : zH) (ci : Nat) (o : Option Nat) : Option Nat := (zo h ci o).map (fun q => q.1)
def zgI (h : zH) (ci : Nat) (o : Option Nat) (k : Nat) : Option Int32 := (zo h ci o).bind fun q => match q.2[k]? with
  | some (.inl x) => some x
  | _ => none
def zgR (h : zH) (ci : Nat) (o : Option Nat) (k : Nat) : Option (Option Nat) := (zo h ci o).bind fun q => match q.2[k]? with
  | some (.inr (.inl x)) => some x
  | _ => none
def zpu (h : zH) (ci : Nat) (o : Option Nat) (k : Nat) (v : zV) : Option zH := (zo h ci o).bind fun q => if k < q.2.length then some (h.set q.1 (.inr (ci, q.2.set k v))) else none
def zaI (h : zH) (t : Nat) (o : Option Nat) : Option (Nat × Nat × (Nat → Int32)) := match o with
  | none => none
  | some a => match h[a]? with
    | some (.inl (t', n, .inl f)) => if t' = t then some (a, n, f) else none
    | _ => none
def zaR (h : zH) (t : Nat) (o : Option Nat) : Option (Nat × Nat × (Nat → Option Nat)) := match o with
  | none => none
  | some a => match h[a]? with
    | some (.inl (t', n, .inr f)) => if t' = t then some (a, n, f) else none
    | _ => none
def zlen (h : zH) (o : Option Nat) : Option Int32 := match o with
  | none => none
  | some a => match h[a]? with
    | some (.inl (t, n, _)) => if t < 6 then some (nI n) else none
    | _ => none
def zld (h : zH) (t : Nat) (o : Option Nat) (i : Int32) : Option Int32 := (zaI h t o).bind fun q => if i < 0 ∨ q.2.1 ≤ i.toNatClampNeg then none else some (q.2.2 i.toNatClampNeg)
def zst (h : zH) (t : Nat) (o : Option Nat) (i x : Int32) : Option zH := (zaI h t o).bind fun q => if i < 0 ∨ q.2.1 ≤ i.toNatClampNeg then none else some (h.set q.1 (.inl (t, q.2.1, .inl (upd q.2.2 i.toNatClampNeg x))))
def zldR (h : zH) (t : Nat) (o : Option Nat) (i : Int32) : Option (Option Nat) := (zaR h t o).bind fun q => if i < 0 ∨ q.2.1 ≤ i.toNatClampNeg then none else some (q.2.2 i.toNatClampNeg)
def zstR (h : zH) (t ci : Nat) (o : Option Nat) (i : Int32) (v : Option Nat) : Option zH := (zaR h t o).bind fun q => if i < 0 ∨ q.2.1 ≤ i.toNatClampNeg then none else if v ≠ none ∧ zck h ci v = none then none else some (h.set q.1 (.inl (t, q.2.1, .inr (va_up q.2.2 i.toNatClampNeg v))))
def znw {α : Type} (h : zH) (e : zE) (k : Nat → zH → Option α) : Option α := k h.length (h ++ [e])
def zna {α : Type} (h : zH) (t : Nat) (n : Int32) (k : Nat → zH → Option α) : Option α := if n < 0 ∨ 16777216 < n.toNatClampNeg then none else k h.length (h ++ [.inl (t, n.toNatClampNeg, .inl (fun _ => 0))])
def znq {α : Type} (h : zH) (t : Nat) (n : Int32) (k : Nat → zH → Option α) : Option α := if n < 0 ∨ 16777216 < n.toNatClampNeg then none else k h.length (h ++ [.inl (t, n.toNatClampNeg, .inr (fun _ => none))])
def zcl {α : Type} (h : zH) (t : Nat) (o : Option Nat) (k : Nat → zH → Option α) : Option α := match o with
  | none => none
  | some a => match h[a]? with
    | some (.inl (t', n, .inl f)) => if t' = t ∧ t = 0 then k h.length (h ++ [.inl (t, n, .inl f)]) else none
    | some (.inl (t', n, .inr f)) => if t' = t ∧ t = 4 then k h.length (h ++ [.inl (t, n, .inr f)]) else none
    | _ => none
def zcp (h : zH) (o0 : Option Nat) (sp : Int32) (o : Option Nat) (dp n : Int32) : Option zH := (zaI h 0 o0).bind fun q0 => (zaI h 0 o).bind fun q => if sp < 0 ∨ dp < 0 ∨ n < 0 ∨ q0.2.1 < sp.toNatClampNeg + n.toNatClampNeg ∨ q.2.1 < dp.toNatClampNeg + n.toNatClampNeg then none else some (h.set q.1 (.inl (0, q.2.1, .inl (va_cpy q0.2.2 q.2.2 sp.toNatClampNeg dp.toNatClampNeg n.toNatClampNeg))))
theorem zo_spec {h : zH} {ci : Nat} {o : Option Nat} {q : Nat × List zV} (e : zo h ci o = some q) : o = some q.1 ∧ h[q.1]? = some (.inr (ci, q.2)) := by
  unfold zo at e
  split at e
  · cases e
  · split at e
    · split at e
      · next a c fs h1 h2 => cases e; subst h2; exact ⟨rfl, h1⟩
      · cases e
    · cases e
theorem zaI_spec {h : zH} {t : Nat} {o : Option Nat} {q : Nat × Nat × (Nat → Int32)} (e : zaI h t o = some q) : o = some q.1 ∧ h[q.1]? = some (.inl (t, q.2.1, .inl q.2.2)) := by
  unfold zaI at e
  split at e
  · cases e
  · split at e
    · split at e
      · next a c fs f h1 h2 => cases e; subst h2; exact ⟨rfl, h1⟩
      · cases e
    · cases e
theorem zaR_spec {h : zH} {t : Nat} {o : Option Nat} {q : Nat × Nat × (Nat → Option Nat)} (e : zaR h t o = some q) : o = some q.1 ∧ h[q.1]? = some (.inl (t, q.2.1, .inr q.2.2)) := by
  unfold zaR at e
  split at e
  · cases e
  · split at e
    · split at e
      · next a c fs f h1 h2 => cases e; subst h2; exact ⟨rfl, h1⟩
      · cases e
    · cases e
theorem zck_spec {h : zH} {ci : Nat} {o : Option Nat} {a : Nat} (e : zck h ci o = some a) : o = some a ∧ ∃ fs, h[a]? = some (.inr (ci, fs)) := by
  unfold zck at e
  rw [Option.map_eq_some_iff] at e
  obtain ⟨q, h1, h2⟩ := e
  obtain ⟨h3, h4⟩ := zo_spec h1
  subst h2
  exact ⟨h3, _, h4⟩
section zlock
variable {g : zG} {J J' : zJ} {h0 : zH} {pc idx n : Nat} {L L' : List (Option zV)} {st rest as : List zV} {h h1 : zH} {r r1 : Option zV} {h' : zH}
theorem zr_forget (i : Nat) (hL : L.set i none = L') (k : zR g J h0 pc L' st h r h') : zR g J h0 pc L st h r h' := by
  subst hL
  refine zR.step (fun X _ _ _ _ hT hL kk => kk _ ⟨hL.1, hL.2.1, fun q hq => hL.2.2 q ?_⟩) k
  obtain ⟨j, v, h1, h2⟩ := zas_mem.mp hq
  refine zas_mem.mpr ⟨j, v, ?_, h2⟩
  by_cases hij : i = j
  · subst hij
    by_cases hl : i < L.length
    · rw [List.getElem?_set_self hl] at h1
      cases h1
    · rw [List.getElem?_eq_none (by simpa using hl)] at h1
      cases h1
  · rwa [List.getElem?_set_ne hij] at h1
theorem zq_istore_n {k : Fin 4} {i : Nat} {x : Int32} (hd : decode J.2.1 pc = .ok (.istore_n k, 1)) (hi : (k : Nat) = i) (hn : i < J.2.2.1) (hL : L.set i (some (zi x)) = L') (kk : zR g J h0 (pc + 1) L' st h r h') : zR g J h0 pc L (zi x :: st) h r h' := zr_istore_n hd hi hn (hL ▸ kk)
theorem zq_istore {i : Nat} {x : Int32} (hd : decode J.2.1 pc = .ok (.istore i, 2)) (hn : i < J.2.2.1) (hL : L.set i (some (zi x)) = L') (kk : zR g J h0 (pc + 2) L' st h r h') : zR g J h0 pc L (zi x :: st) h r h' := zr_istore hd hn (hL ▸ kk)
theorem zq_astore_n {k : Fin 4} {i : Nat} {v : Option Nat ⊕ Nat} (hd : decode J.2.1 pc = .ok (.astore_n k, 1)) (hi : (k : Nat) = i) (hn : i < J.2.2.1) (hL : L.set i (some (.inr v)) = L') (kk : zR g J h0 (pc + 1) L' st h r h') : zR g J h0 pc L (.inr v :: st) h r h' := zr_astore_n hd hi hn (hL ▸ kk)
theorem zq_astore {i : Nat} {v : Option Nat ⊕ Nat} (hd : decode J.2.1 pc = .ok (.astore i, 2)) (hn : i < J.2.2.1) (hL : L.set i (some (.inr v)) = L') (kk : zR g J h0 (pc + 2) L' st h r h') : zR g J h0 pc L (.inr v :: st) h r h' := zr_astore hd hn (hL ▸ kk)
theorem zq_iinc {i : Nat} {n : Int} {x y : Int32} (hd : decode J.2.1 pc = .ok (.iinc i n, 3)) (hl : L[i]? = some (some (zi x))) (hy : Int32.ofInt n = y) (hn : i < J.2.2.1) (hL : L.set i (some (zi (x + y))) = L') (kk : zR g J h0 (pc + 3) L' st h r h') : zR g J h0 pc L st h r h' := zr_iinc hd hl hy hn (hL ▸ kk)
theorem zq_getI {ci k : Nat} {o : Option Nat} {x : Int32} (hf : zFg J.1.cls idx ci k) (hd : decode J.2.1 pc = .ok (.getfield idx, 3)) (hx : zgI h ci o k = some x) (kk : zR g J h0 (pc + 3) L (zi x :: st) h r h') : zR g J h0 pc L (zr o :: st) h r h' := by
  obtain ⟨q, h1, h2⟩ := zbd hx
  obtain ⟨rfl, h4⟩ := zo_spec h1
  split at h2
  · next x' h5 => cases h2; exact zr_get hf hd h4 h5 kk
  · cases h2
theorem zq_getR {ci k : Nat} {o x : Option Nat} (hf : zFg J.1.cls idx ci k) (hd : decode J.2.1 pc = .ok (.getfield idx, 3)) (hx : zgR h ci o k = some x) (kk : zR g J h0 (pc + 3) L (zr x :: st) h r h') : zR g J h0 pc L (zr o :: st) h r h' := by
  obtain ⟨q, h1, h2⟩ := zbd hx
  obtain ⟨rfl, h4⟩ := zo_spec h1
  split at h2
  · next x' h5 => cases h2; exact zr_get hf hd h4 h5 kk
  · cases h2
theorem zq_put {ci k : Nat} {ty : FieldType} {o : Option Nat} {v : zV} (hf : zFp J.1.cls J.1.name idx ci k ty) (hd : decode J.2.1 pc = .ok (.putfield idx, 3)) (hn : ∀ g : zG, narrow ty (zv g v) = zv g v ∧ fits ty (zv g v) = true) (hx : zpu h ci o k v = some h1) (kk : zR g J h0 (pc + 3) L st h1 r h') : zR g J h0 pc L (v :: zr o :: st) h r h' := by
  obtain ⟨q, e1, e2⟩ := zbd hx
  obtain ⟨rfl, h4⟩ := zo_spec e1
  split at e2
  · next h5 => cases e2; exact zr_put hf hd h4 h5 hn kk
  · cases e2
theorem zq_alen {o : Option Nat} {x : Int32} (hd : decode J.2.1 pc = .ok (.arraylength, 1)) (hx : zlen h o = some x) (kk : zR g J h0 (pc + 1) L (zi x :: st) h r h') : zR g J h0 pc L (zr o :: st) h r h' := by
  unfold zlen at hx
  split at hx
  · cases hx
  · split at hx
    · split at hx
      · next a t nn y e1 e2 =>
        cases hx
        have ht : ∃ ty, zty[t]? = some ty := by
          have : t < zty.length := e2
          exact ⟨zty[t], List.getElem?_eq_getElem this⟩
        obtain ⟨ty, ht⟩ := ht
        exact zr_alen ht hd e1 kk
      · cases hx
    · cases hx
theorem zld_spec {t : Nat} {o : Option Nat} {i x : Int32} (hx : zld h t o i = some x) : ∃ a nn f, o = some a ∧ h[a]? = some (.inl (t, nn, .inl f)) ∧ vp_in i nn ∧ x = f i.toNatClampNeg := by
  obtain ⟨q, e1, e2⟩ := zbd hx
  obtain ⟨e3, e4⟩ := zaI_spec e1
  split at e2
  · cases e2
  · next hc => cases e2; exact ⟨_, _, _, e3, e4, hc, rfl⟩
theorem zst_spec {t : Nat} {o : Option Nat} {i x : Int32} (hx : zst h t o i x = some h1) : ∃ a nn f, o = some a ∧ h[a]? = some (.inl (t, nn, .inl f)) ∧ vp_in i nn ∧ h1 = h.set a (.inl (t, nn, .inl (upd f i.toNatClampNeg x))) := by
  obtain ⟨q, e1, e2⟩ := zbd hx
  obtain ⟨e3, e4⟩ := zaI_spec e1
  split at e2
  · cases e2
  · next hc => cases e2; exact ⟨_, _, _, e3, e4, hc, rfl⟩
theorem zq_iald {o : Option Nat} {i x : Int32} (hd : decode J.2.1 pc = .ok (.iaload, 1)) (hx : zld h 0 o i = some x) (kk : zR g J h0 (pc + 1) L (zi x :: st) h r h') : zR g J h0 pc L (zi i :: zr o :: st) h r h' := by
  obtain ⟨a, nn, f, rfl, e1, e2, rfl⟩ := zld_spec hx
  exact zr_iald hd e1 e2 kk
theorem zq_bald {o : Option Nat} {i x : Int32} (hd : decode J.2.1 pc = .ok (.baload, 1)) (hx : zld h 1 o i = some x) (kk : zR g J h0 (pc + 1) L (zi x :: st) h r h') : zR g J h0 pc L (zi i :: zr o :: st) h r h' := by
  obtain ⟨a, nn, f, rfl, e1, e2, rfl⟩ := zld_spec hx
  exact zr_bald hd e1 e2 kk
theorem zq_cald {o : Option Nat} {i x : Int32} (hd : decode J.2.1 pc = .ok (.caload, 1)) (hx : zld h 2 o i = some x) (kk : zR g J h0 (pc + 1) L (zi x :: st) h r h') : zR g J h0 pc L (zi i :: zr o :: st) h r h' := by
  obtain ⟨a, nn, f, rfl, e1, e2, rfl⟩ := zld_spec hx
  exact zr_cald hd e1 e2 kk
theorem zq_zald {o : Option Nat} {i x : Int32} (hd : decode J.2.1 pc = .ok (.baload, 1)) (hx : zld h 3 o i = some x) (kk : zR g J h0 (pc + 1) L (zi x :: st) h r h') : zR g J h0 pc L (zi i :: zr o :: st) h r h' := by
  obtain ⟨a, nn, f, rfl, e1, e2, rfl⟩ := zld_spec hx
  exact zr_zald hd e1 e2 kk
theorem zq_iast {o : Option Nat} {i x : Int32} (hd : decode J.2.1 pc = .ok (.iastore, 1)) (hx : zst h 0 o i x = some h1) (kk : zR g J h0 (pc + 1) L st h1 r h') : zR g J h0 pc L (zi x :: zi i :: zr o :: st) h r h' := by
  obtain ⟨a, nn, f, rfl, e1, e2, rfl⟩ := zst_spec hx
  exact zr_iast hd e1 e2 kk
theorem zq_bast {o : Option Nat} {i x : Int32} (hd : decode J.2.1 pc = .ok (.bastore, 1)) (hx : zst h 1 o i (vp_nar .byte x) = some h1) (kk : zR g J h0 (pc + 1) L st h1 r h') : zR g J h0 pc L (zi x :: zi i :: zr o :: st) h r h' := by
  obtain ⟨a, nn, f, rfl, e1, e2, rfl⟩ := zst_spec hx
  exact zr_bast hd e1 e2 kk
theorem zq_cast {o : Option Nat} {i x : Int32} (hd : decode J.2.1 pc = .ok (.castore, 1)) (hx : zst h 2 o i (vp_nar .char x) = some h1) (kk : zR g J h0 (pc + 1) L st h1 r h') : zR g J h0 pc L (zi x :: zi i :: zr o :: st) h r h' := by
  obtain ⟨a, nn, f, rfl, e1, e2, rfl⟩ := zst_spec hx
  exact zr_cast hd e1 e2 kk
theorem zq_zast {o : Option Nat} {i x : Int32} (hd : decode J.2.1 pc = .ok (.bastore, 1)) (hx : zst h 3 o i (vp_nar .boolean x) = some h1) (kk : zR g J h0 (pc + 1) L st h1 r h') : zR g J h0 pc L (zi x :: zi i :: zr o :: st) h r h' := by
  obtain ⟨a, nn, f, rfl, e1, e2, rfl⟩ := zst_spec hx
  exact zr_zast hd e1 e2 kk
theorem zq_aald {t : Nat} {C : String} {o x : Option Nat} {i : Int32} (ht : zty[t]? = some (.object C)) (hd : decode J.2.1 pc = .ok (.aaload, 1)) (hx : zldR h t o i = some x) (kk : zR g J h0 (pc + 1) L (zr x :: st) h r h') : zR g J h0 pc L (zi i :: zr o :: st) h r h' := by
  obtain ⟨q, e1, e2⟩ := zbd hx
  obtain ⟨rfl, e4⟩ := zaR_spec e1
  split at e2
  · cases e2
  · next hc => cases e2; exact zr_aald ht hd e4 hc kk
theorem zq_aast {t ci : Nat} {rr : vw_C} {o v : Option Nat} {i : Int32} (ht : zty[t]? = some (.object rr.1)) (hc : vwCl[ci]? = some rr) (hd : decode J.2.1 pc = .ok (.aastore, 1)) (hx : zstR h t ci o i v = some h1) (kk : zR g J h0 (pc + 1) L st h1 r h') : zR g J h0 pc L (zr v :: zi i :: zr o :: st) h r h' := by
  obtain ⟨q, e1, e2⟩ := zbd hx
  obtain ⟨rfl, e4⟩ := zaR_spec e1
  split at e2
  · cases e2
  · next hc2 =>
    split at e2
    · cases e2
    · next hc3 =>
      cases e2
      refine zr_aast ht hc hd e4 (fun w hw => ?_) hc2 kk
      subst hw
      cases hk : zck h ci (some w) with
      | none => exact absurd ⟨by simp, hk⟩ hc3
      | some a =>
        obtain ⟨e5, fs, e6⟩ := zck_spec hk
        cases e5
        exact ⟨fs, e6⟩
theorem zq_new {ci a : Nat} {fs : List zV} (hf : zFn J.1.cls idx ci fs) (hd : decode J.2.1 pc = .ok (.new idx, 3)) (ha : a = h.length) (hh : h1 = h ++ [.inr (ci, fs)]) (kk : zR g J h0 (pc + 3) L (zr (some a) :: st) h1 r h') : zR g J h0 pc L st h r h' := by
  subst ha; subst hh
  exact zr_new hf hd kk
theorem znw_spec {α : Type} {e : zE} {k : Nat → zH → Option α} {x : α} (e1 : znw h e k = some x) : ∃ a h1, a = h.length ∧ h1 = h ++ [e] ∧ k a h1 = some x := ⟨_, _, rfl, rfl, e1⟩
theorem zna_spec {α : Type} {t : Nat} {nn : Int32} {k : Nat → zH → Option α} {x : α} (e1 : zna h t nn k = some x) : ∃ a h1, (a = h.length ∧ ¬ nn < 0 ∧ nn.toNatClampNeg ≤ 16777216 ∧ h1 = h ++ [.inl (t, nn.toNatClampNeg, .inl (fun _ => 0))]) ∧ k a h1 = some x := by
  unfold zna at e1
  split at e1
  · cases e1
  · next hc => exact ⟨_, _, ⟨rfl, fun q => hc (Or.inl q), Nat.not_lt.mp fun q => hc (Or.inr q), rfl⟩, e1⟩
theorem znq_spec {α : Type} {t : Nat} {nn : Int32} {k : Nat → zH → Option α} {x : α} (e1 : znq h t nn k = some x) : ∃ a h1, (a = h.length ∧ ¬ nn < 0 ∧ nn.toNatClampNeg ≤ 16777216 ∧ h1 = h ++ [.inl (t, nn.toNatClampNeg, .inr (fun _ => none))]) ∧ k a h1 = some x := by
  unfold znq at e1
  split at e1
  · cases e1
  · next hc => exact ⟨_, _, ⟨rfl, fun q => hc (Or.inl q), Nat.not_lt.mp fun q => hc (Or.inr q), rfl⟩, e1⟩
theorem zcl_spec {α : Type} {t : Nat} {o : Option Nat} {k : Nat → zH → Option α} {x : α} (e1 : zcl h t o k = some x) : ∃ a h1, (∃ b nn y, a = h.length ∧ o = some b ∧ h[b]? = some (.inl (t, nn, y)) ∧ (match y with | .inl _ => t = 0 | .inr _ => t = 4) ∧ h1 = h ++ [.inl (t, nn, y)]) ∧ k a h1 = some x := by
  unfold zcl at e1
  split at e1
  · cases e1
  · split at e1
    · split at e1
      · next b t' nn f h2 hc =>
        obtain ⟨rfl, hc⟩ := hc
        exact ⟨_, _, ⟨b, nn, .inl f, rfl, rfl, h2, hc, rfl⟩, e1⟩
      · cases e1
    · split at e1
      · next b t' nn f h2 hc =>
        obtain ⟨rfl, hc⟩ := hc
        exact ⟨_, _, ⟨b, nn, .inr f, rfl, rfl, h2, hc, rfl⟩, e1⟩
      · cases e1
    · cases e1
theorem zq_newa {atype : ArrayType} {t a : Nat} {nn : Int32} (hw : Cond.arrayClass (newarray.typeOf atype) ∈ zWd) (ht : zty[t]? = some (newarray.typeOf atype)) (hz : ∀ (cA : ClassId) (N : Nat), vp_cell cA (N, .inl (fun _ => 0)) = arrV cA N (fun _ => defaultValue (newarray.typeOf atype))) (hb : componentBytes (newarray.typeOf atype) ≤ 32) (hd : decode J.2.1 pc = .ok (.newarray atype, 2))
    (ha : a = h.length ∧ ¬ nn < 0 ∧ nn.toNatClampNeg ≤ 16777216 ∧ h1 = h ++ [.inl (t, nn.toNatClampNeg, .inl (fun _ => 0))]) (kk : zR g J h0 (pc + 2) L (zr (some a) :: st) h1 r h') : zR g J h0 pc L (zi nn :: st) h r h' := by
  obtain ⟨rfl, e1, e2, rfl⟩ := ha
  exact zr_newa hw ht hz hd e1 (Nat.le_trans (Nat.mul_le_mul e2 hb) (by decide)) kk
theorem zq_newq {t a : Nat} {C : String} {nn : Int32} (hw : Cond.classLink J.1.cls idx C ∈ zWd) (ho : C = RX0 ∨ C = RX9) (ht : zty[t]? = some (.object C)) (hd : decode J.2.1 pc = .ok (.anewarray idx, 3)) (ha : a = h.length ∧ ¬ nn < 0 ∧ nn.toNatClampNeg ≤ 16777216 ∧ h1 = h ++ [.inl (t, nn.toNatClampNeg, .inr (fun _ => none))])
    (kk : zR g J h0 (pc + 3) L (zr (some a) :: st) h1 r h') : zR g J h0 pc L (zi nn :: st) h r h' := by
  obtain ⟨rfl, e1, e2, rfl⟩ := ha
  exact zr_newq hw ho ht hd e1 (Nat.le_trans (Nat.mul_le_mul_right 4 e2) (by decide)) kk
theorem zq_clone {a t : Nat} {ty : FieldType} {ad : String} {o : Option Nat} (hk : zMk J.1.cls idx ad) (ht : zty[t]? = some ty) (had : "[" ++ ty.toString = ad) (hty : (t = 0 ∧ ty = .int) ∨ (t = 4 ∧ ∃ C, ty = .object C)) (hf : 1 ≤ J.2.2.2.2.1 ∧ rest.length + 14 ≤ J.2.2.2.2.2) (hd : decode J.2.1 pc = .ok (.invokevirtual idx, 3))
    (hx : ∃ b nn y, a = h.length ∧ o = some b ∧ h[b]? = some (.inl (t, nn, y)) ∧ (match y with | .inl _ => t = 0 | .inr _ => t = 4) ∧ h1 = h ++ [.inl (t, nn, y)]) (kk : zR g J h0 (pc + 3) L (zr (some a) :: rest) h1 r h') : zR g J h0 pc L (zr o :: rest) h r h' := by
  obtain ⟨b, nn, y, rfl, rfl, e1, e2, rfl⟩ := hx
  refine zr_clone hk ht had ?_ hf hd e1 kk
  rcases y with f | f
  · have e2 : t = 0 := e2
    rcases hty with ⟨-, h2⟩ | ⟨h2, -⟩
    · exact h2
    · omega
  · have e2 : t = 4 := e2
    rcases hty with ⟨h2, -⟩ | ⟨-, h2⟩
    · omega
    · exact h2
theorem zq_castA {t : Nat} {ty : FieldType} {ad : String} {o : Option Nat} {x : Option Int32} (hl : Cond.classLink J.1.cls idx ad ∈ zWd) (ht : zty[t]? = some ty) (had : "[" ++ ty.toString = ad) (hd : decode J.2.1 pc = .ok (.checkcast idx, 3)) (hx : ∃ a nn y, o = some a ∧ h[a]? = some (.inl (t, nn, y))) (kk : zR g J h0 (pc + 3) L (zr o :: rest) h r h') : zR g J h0 pc L (zr o :: rest) h r h' := by
  obtain ⟨a, nn, y, rfl, e1⟩ := hx
  exact zr_castA hl ht had hd e1 kk
theorem zq_copyi {o0 o : Option Nat} {sp dp nn : Int32} (w1 : Cond.methodLink J.1.cls idx arraycopyName ∈ zWd) (w2 : Cond.native arraycopyName ∈ zWd) (w3 : Cond.static arraycopyName ∈ zWd) (w4 : Cond.initialized "java/lang/System" ∈ zWd) (hf : 1 ≤ J.2.2.2.2.1 ∧ rest.length + (nativeFrameWords "java/lang/System" "arraycopy" 5 + 11) ≤ J.2.2.2.2.2) (hd : decode J.2.1 pc = .ok (.invokestatic idx, 3))
    (hx : zcp h o0 sp o dp nn = some h1) (kk : zR g J h0 (pc + 3) L rest h1 r h') : zR g J h0 pc L (zi nn :: zi dp :: zr o :: zi sp :: zr o0 :: rest) h r h' := by
  obtain ⟨q0, e1, e2⟩ := zbd hx
  obtain ⟨q, e3, e4⟩ := zbd e2
  obtain ⟨rfl, e5⟩ := zaI_spec e1
  obtain ⟨rfl, e6⟩ := zaI_spec e3
  split at e4
  · cases e4
  · next hc =>
    cases e4
    exact zr_copyi w1 w2 w3 w4 hf hd e5 e6 (fun q => hc (Or.inl q)) (fun q => hc (Or.inr (Or.inl q))) (fun q => hc (Or.inr (Or.inr (Or.inl q)))) (Nat.not_lt.mp fun q => hc (Or.inr (Or.inr (Or.inr (Or.inl q))))) (Nat.not_lt.mp fun q => hc (Or.inr (Or.inr (Or.inr (Or.inr q))))) kk
theorem zq_callV {a ci : Nat} {q : vw_C} {o : Option Nat} (hl : Cond.methodLink J.1.cls idx J'.1 ∈ zWd) (hM : zMv J' n) (hF : zFits J J') (hd : decode J.2.1 pc = .ok (.invokevirtual idx, 3)) (hn : as.length = n) (hrest : rest.length ≤ 8) (hq : vwCl[ci]? = some q) (hq1 : q.1 = J'.1.cls) (ho : zck h ci o = some a) (hst : as.reverse ++ zr o :: rest = st) (hc : zCa g J' (zr (some a) :: as) h r1 h1)
    (kk : zR g J h0 (pc + 3) L (r1.toList ++ rest) h1 r h') : zR g J h0 pc L st h r h' := by
  obtain ⟨rfl, fs, ha⟩ := zck_spec ho
  subst hst
  exact zr_callV hl hM hF hd hn hrest hq hq1 ha hc kk
theorem zq_callS (hl : Cond.methodLink J.1.cls idx J'.1 ∈ zWd) (hM : zMs J' n) (hF : zFits J J') (hd : decode J.2.1 pc = .ok (.invokestatic idx, 3)) (hn : as.length = n) (hrest : rest.length ≤ 8) (hst : as.reverse ++ rest = st) (hc : zCa g J' as h r1 h1) (kk : zR g J h0 (pc + 3) L (r1.toList ++ rest) h1 r h') : zR g J h0 pc L st h r h' := by
  subst hst
  exact zr_callS hl hM hF hd hn hrest hc kk
theorem zq_callSN {host : String} (hl : Cond.methodLinkNest J.1.cls idx J'.1 host ∈ zNw) (hM : zMs J' n) (hF : zFits J J') (hd : decode J.2.1 pc = .ok (.invokestatic idx, 3)) (hn : as.length = n) (hrest : rest.length ≤ 8) (hst : as.reverse ++ rest = st) (hc : zCa g J' as h r1 h1) (kk : zR g J h0 (pc + 3) L (r1.toList ++ rest) h1 r h') : zR g J h0 pc L st h r h' := by
  subst hst
  exact zr_callSN hl hM hF hd hn hrest hc kk
theorem zq_callI {a : Nat} (hl : Cond.methodLink J.1.cls idx J'.1 ∈ zWd) (hM : zMc J' n) (hF : zFits J J') (hd : decode J.2.1 pc = .ok (.invokespecial idx, 3)) (hn : as.length = n) (hrest : rest.length ≤ 8) (hst : as.reverse ++ zr (some a) :: rest = st) (hc : zCa g J' (zr (some a) :: as) h r1 h1) (kk : zR g J h0 (pc + 3) L (r1.toList ++ rest) h1 r h') : zR g J h0 pc L st h r h' := by
  subst hst
  exact zr_callI hl hM hF hd hn hrest hc kk
theorem zq_callIN {a : Nat} {host : String} (hl : Cond.methodLinkNest J.1.cls idx J'.1 host ∈ zNw) (hM : zMc J' n) (hF : zFits J J') (hd : decode J.2.1 pc = .ok (.invokespecial idx, 3)) (hn : as.length = n) (hrest : rest.length ≤ 8) (hst : as.reverse ++ zr (some a) :: rest = st) (hc : zCa g J' (zr (some a) :: as) h r1 h1) (kk : zR g J h0 (pc + 3) L (r1.toList ++ rest) h1 r h') : zR g J h0 pc L st h r h' := by
  subst hst
  exact zr_callIN hl hM hF hd hn hrest hc kk
theorem zok_b {x : Int32} (h : x = 0 ∨ x = 1) : zok (some .boolean) (some (zi x)) := by
  rcases h with rfl | rfl <;> rfl
theorem zne {x k : Int32} {n : Int} (h : ¬ x = k) (hk : k.toInt = n) : x.toInt ≠ n := by
  intro e
  exact h (Int32.toInt_inj.mp (e.trans hk.symm))
end zlock
end
