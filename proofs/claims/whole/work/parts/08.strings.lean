abbrev jJ0_coder_7d493 : zJ := (yJ0_coder_7d493, cJ0_coder_7d493, 1, (some .byte), 0, 0)
abbrev jJ0_isLatin1_aae02 : zJ := (yJ0_isLatin1_aae02, cJ0_isLatin1_aae02, 1, (some .boolean), 0, 0)
abbrev jJ3_checkIndex_8e157 : zJ := (yJ3_checkIndex_8e157, cJ3_checkIndex_8e157, 3, (some .int), 0, 0)
abbrev jJ0_checkIndex_df160 : zJ := (yJ0_checkIndex_df160, cJ0_checkIndex_df160, 2, none, 1, 22)
abbrev jJ1_charAt_3b067 : zJ := (yJ1_charAt_3b067, cJ1_charAt_3b067, 2, (some .char), 2, 43)
theorem ks_0 : Cond.code yJ0_coder_7d493 cJ0_coder_7d493 1 (some .byte) ∈ zWd := zWd_mem (zm2 (List.mem_of_getElem? (i := 37) rfl)) (by decide +kernel)
theorem ks_1 : Cond.instanceMethod ⟨"java/lang/String", "coder", "()B"⟩ ∈ zWd := zWd_mem (zm2 (List.mem_of_getElem? (i := 35) rfl)) (by decide +kernel)
theorem ks_2 : Cond.selects "java/lang/String" ⟨"java/lang/String", "coder", "()B"⟩ ⟨"java/lang/String", "coder", "()B"⟩ ∈ zWd := zWd_mem (zm2 (List.mem_of_getElem? (i := 36) rfl)) (by decide +kernel)
theorem ks_3 : Cond.initialized "java/lang/String" ∈ zWd := zWd_mem (zm1 (List.mem_of_getElem? (i := 10) rfl)) (by decide +kernel)
theorem ks_4 : Cond.code yJ0_isLatin1_aae02 cJ0_isLatin1_aae02 1 (some .boolean) ∈ zWd := zWd_mem (zm2 (List.mem_of_getElem? (i := 47) rfl)) (by decide +kernel)
theorem ks_5 : Cond.instanceMethod ⟨"java/lang/String", "isLatin1", "()Z"⟩ ∈ zWd := zWd_mem (zm2 (List.mem_of_getElem? (i := 45) rfl)) (by decide +kernel)
theorem ks_6 : Cond.selects "java/lang/String" ⟨"java/lang/String", "isLatin1", "()Z"⟩ ⟨"java/lang/String", "isLatin1", "()Z"⟩ ∈ zWd := zWd_mem (zm2 (List.mem_of_getElem? (i := 46) rfl)) (by decide +kernel)
theorem ks_7 : Cond.code yJ3_checkIndex_8e157 cJ3_checkIndex_8e157 3 (some .int) ∈ zWd := zWd_mem (zm2 (List.mem_of_getElem? (i := 58) rfl)) (by decide +kernel)
theorem ks_8 : Cond.static ⟨"jdk/internal/util/Preconditions", "checkIndex", "(IILjava/util/function/BiFunction;)I"⟩ ∈ zWd := zWd_mem (zm2 (List.mem_of_getElem? (i := 57) rfl)) (by decide +kernel)
theorem ks_9 : Cond.initialized "jdk/internal/util/Preconditions" ∈ zWd := zWd_mem (zm1 (List.mem_of_getElem? (i := 12) rfl)) (by decide +kernel)
theorem ks_10 : Cond.code yJ0_checkIndex_df160 cJ0_checkIndex_df160 2 none ∈ zWd := zWd_mem (zm2 (List.mem_of_getElem? (i := 53) rfl)) (by decide +kernel)
theorem ks_11 : Cond.static ⟨"java/lang/String", "checkIndex", "(II)V"⟩ ∈ zWd := zWd_mem (zm2 (List.mem_of_getElem? (i := 52) rfl)) (by decide +kernel)
theorem ks_12 : Cond.code yJ1_charAt_3b067 cJ1_charAt_3b067 2 (some .char) ∈ zWd := zWd_mem (zm2 (List.mem_of_getElem? (i := 50) rfl)) (by decide +kernel)
theorem ks_13 : Cond.static ⟨"java/lang/StringLatin1", "charAt", "([BI)C"⟩ ∈ zWd := zWd_mem (zm2 (List.mem_of_getElem? (i := 49) rfl)) (by decide +kernel)
theorem ks_14 : Cond.initialized "java/lang/StringLatin1" ∈ zWd := zWd_mem (zm1 (List.mem_of_getElem? (i := 11) rfl)) (by decide +kernel)
theorem ks_15 : Cond.code yJ0_length_8abf5 cJ0_length_8abf5 1 (some .int) ∈ zWd := zWd_mem (zm2 (List.mem_of_getElem? (i := 33) rfl)) (by decide +kernel)
theorem ks_16 : Cond.instanceMethod ⟨"java/lang/String", "length", "()I"⟩ ∈ zWd := zWd_mem (zm2 (List.mem_of_getElem? (i := 31) rfl)) (by decide +kernel)
theorem ks_17 : Cond.selects "java/lang/String" ⟨"java/lang/String", "length", "()I"⟩ ⟨"java/lang/String", "length", "()I"⟩ ∈ zWd := zWd_mem (zm2 (List.mem_of_getElem? (i := 32) rfl)) (by decide +kernel)
theorem ks_18 : Cond.code yJ0_charAt_5068e cJ0_charAt_5068e 2 (some .char) ∈ zWd := zWd_mem (zm2 (List.mem_of_getElem? (i := 43) rfl)) (by decide +kernel)
theorem ks_19 : Cond.instanceMethod ⟨"java/lang/String", "charAt", "(I)C"⟩ ∈ zWd := zWd_mem (zm2 (List.mem_of_getElem? (i := 41) rfl)) (by decide +kernel)
theorem ks_20 : Cond.selects "java/lang/String" ⟨"java/lang/String", "charAt", "(I)C"⟩ ⟨"java/lang/String", "charAt", "(I)C"⟩ ∈ zWd := zWd_mem (zm2 (List.mem_of_getElem? (i := 42) rfl)) (by decide +kernel)
theorem ks_21 : Cond.fieldLink "java/lang/String" 38 "java/lang/String" "COMPACT_STRINGS" "Z" ∈ zWd := zWd_mem (zm2 (List.mem_of_getElem? (i := 38) rfl)) (by decide +kernel)
theorem ks_22 : Cond.fieldLink "java/lang/String" 15 "java/lang/String" "coder" "B" ∈ zWd := zWd_mem (zm6 (List.mem_of_getElem? (i := 0) rfl)) (by decide +kernel)
theorem ks_23 : Cond.fieldLink "java/lang/String" 9 "java/lang/String" "value" "[B" ∈ zWd := zWd_mem (zm5 (List.mem_of_getElem? (i := 239) rfl)) (by decide +kernel)
theorem ks_24 : Cond.fieldLink "java/lang/String" 1053 "jdk/internal/util/Preconditions" "SIOOBE_FORMATTER" "Ljava/util/function/BiFunction;" ∈ zWd := zWd_mem (zm2 (List.mem_of_getElem? (i := 54) rfl)) (by decide +kernel)
theorem ks_25 : Cond.methodLink "java/lang/String" 335 ⟨"java/lang/String", "coder", "()B"⟩ ∈ zWd := zWd_mem (zm2 (List.mem_of_getElem? (i := 34) rfl)) (by decide +kernel)
theorem ks_26 : Cond.methodLink "java/lang/String" 492 ⟨"java/lang/String", "isLatin1", "()Z"⟩ ∈ zWd := zWd_mem (zm2 (List.mem_of_getElem? (i := 44) rfl)) (by decide +kernel)
theorem ks_27 : Cond.methodLink "java/lang/String" 495 ⟨"java/lang/StringLatin1", "charAt", "([BI)C"⟩ ∈ zWd := zWd_mem (zm2 (List.mem_of_getElem? (i := 48) rfl)) (by decide +kernel)
theorem ks_28 : Cond.methodLink "java/lang/StringLatin1" 9 ⟨"java/lang/String", "checkIndex", "(II)V"⟩ ∈ zWd := zWd_mem (zm2 (List.mem_of_getElem? (i := 51) rfl)) (by decide +kernel)
theorem ks_29 : Cond.methodLink "java/lang/String" 1059 ⟨"jdk/internal/util/Preconditions", "checkIndex", "(IILjava/util/function/BiFunction;)I"⟩ ∈ zWd := zWd_mem (zm2 (List.mem_of_getElem? (i := 56) rfl)) (by decide +kernel)
theorem ky_J0_coder_7d493 : zMv jJ0_coder_7d493 0 := ⟨⟨ks_1, ks_2, ks_3, ks_0⟩, ⟨by decide +kernel, by decide +kernel, by decide +kernel⟩⟩
theorem ky_J0_isLatin1_aae02 : zMv jJ0_isLatin1_aae02 0 := ⟨⟨ks_5, ks_6, ks_3, ks_4⟩, ⟨by decide +kernel, by decide +kernel, by decide +kernel⟩⟩
theorem ky_J3_checkIndex_8e157 : zMs jJ3_checkIndex_8e157 3 := ⟨⟨ks_8, ks_9, ks_7⟩, ⟨by decide +kernel, by decide +kernel, by decide +kernel⟩⟩
theorem ky_J0_checkIndex_df160 : zMs jJ0_checkIndex_df160 2 := ⟨⟨ks_11, ks_3, ks_10⟩, ⟨by decide +kernel, by decide +kernel, by decide +kernel⟩⟩
theorem ky_J1_charAt_3b067 : zMs jJ1_charAt_3b067 2 := ⟨⟨ks_13, ks_14, ks_12⟩, ⟨by decide +kernel, by decide +kernel, by decide +kernel⟩⟩
theorem ky_J0_length_8abf5 : zMv jJ0_length_8abf5 0 := ⟨⟨ks_16, ks_17, ks_3, ks_15⟩, ⟨by decide +kernel, by decide +kernel, by decide +kernel⟩⟩
theorem ky_J0_charAt_5068e : zMv jJ0_charAt_5068e 1 := ⟨⟨ks_19, ks_20, ks_3, ks_18⟩, ⟨by decide +kernel, by decide +kernel, by decide +kernel⟩⟩
theorem dJ0_coder_7d493_0 : decode cJ0_coder_7d493 0 = .ok (.getstatic 38, 3) := by decide +kernel
theorem dJ0_coder_7d493_3 : decode cJ0_coder_7d493 3 = .ok (.ifCond .eq 10, 3) := by decide +kernel
theorem dJ0_coder_7d493_6 : decode cJ0_coder_7d493 6 = .ok (.aload_n 0, 1) := by decide +kernel
theorem dJ0_coder_7d493_7 : decode cJ0_coder_7d493 7 = .ok (.getfield 15, 3) := by decide +kernel
theorem dJ0_coder_7d493_10 : decode cJ0_coder_7d493 10 = .ok (.goto 4, 3) := by decide +kernel
theorem dJ0_coder_7d493_13 : decode cJ0_coder_7d493 13 = .ok (.iconst 1, 1) := by decide +kernel
theorem dJ0_coder_7d493_14 : decode cJ0_coder_7d493 14 = .ok (.ireturn, 1) := by decide +kernel
theorem dJ0_isLatin1_aae02_0 : decode cJ0_isLatin1_aae02 0 = .ok (.getstatic 38, 3) := by decide +kernel
theorem dJ0_isLatin1_aae02_3 : decode cJ0_isLatin1_aae02 3 = .ok (.ifCond .eq 14, 3) := by decide +kernel
theorem dJ0_isLatin1_aae02_6 : decode cJ0_isLatin1_aae02 6 = .ok (.aload_n 0, 1) := by decide +kernel
theorem dJ0_isLatin1_aae02_7 : decode cJ0_isLatin1_aae02 7 = .ok (.getfield 15, 3) := by decide +kernel
theorem dJ0_isLatin1_aae02_10 : decode cJ0_isLatin1_aae02 10 = .ok (.ifCond .ne 7, 3) := by decide +kernel
theorem dJ0_isLatin1_aae02_13 : decode cJ0_isLatin1_aae02 13 = .ok (.iconst 1, 1) := by decide +kernel
theorem dJ0_isLatin1_aae02_14 : decode cJ0_isLatin1_aae02 14 = .ok (.goto 4, 3) := by decide +kernel
theorem dJ0_isLatin1_aae02_17 : decode cJ0_isLatin1_aae02 17 = .ok (.iconst 0, 1) := by decide +kernel
theorem dJ0_isLatin1_aae02_18 : decode cJ0_isLatin1_aae02 18 = .ok (.ireturn, 1) := by decide +kernel
theorem dJ3_checkIndex_8e157_0 : decode cJ3_checkIndex_8e157 0 = .ok (.iload_n 0, 1) := by decide +kernel
theorem dJ3_checkIndex_8e157_1 : decode cJ3_checkIndex_8e157 1 = .ok (.ifCond .lt 8, 3) := by decide +kernel
theorem dJ3_checkIndex_8e157_4 : decode cJ3_checkIndex_8e157 4 = .ok (.iload_n 0, 1) := by decide +kernel
theorem dJ3_checkIndex_8e157_5 : decode cJ3_checkIndex_8e157 5 = .ok (.iload_n 1, 1) := by decide +kernel
theorem dJ3_checkIndex_8e157_6 : decode cJ3_checkIndex_8e157 6 = .ok (.if_icmp .lt 10, 3) := by decide +kernel
theorem dJ3_checkIndex_8e157_9 : decode cJ3_checkIndex_8e157 9 = .ok (.aload_n 2, 1) := by decide +kernel
theorem dJ3_checkIndex_8e157_10 : decode cJ3_checkIndex_8e157 10 = .ok (.iload_n 0, 1) := by decide +kernel
theorem dJ3_checkIndex_8e157_11 : decode cJ3_checkIndex_8e157 11 = .ok (.iload_n 1, 1) := by decide +kernel
theorem dJ3_checkIndex_8e157_12 : decode cJ3_checkIndex_8e157 12 = .ok (.invokestatic 95, 3) := by decide +kernel
theorem dJ3_checkIndex_8e157_15 : decode cJ3_checkIndex_8e157 15 = .ok (.athrow, 1) := by decide +kernel
theorem dJ3_checkIndex_8e157_16 : decode cJ3_checkIndex_8e157 16 = .ok (.iload_n 0, 1) := by decide +kernel
theorem dJ3_checkIndex_8e157_17 : decode cJ3_checkIndex_8e157 17 = .ok (.ireturn, 1) := by decide +kernel
theorem dJ0_checkIndex_df160_0 : decode cJ0_checkIndex_df160 0 = .ok (.iload_n 0, 1) := by decide +kernel
theorem dJ0_checkIndex_df160_1 : decode cJ0_checkIndex_df160 1 = .ok (.iload_n 1, 1) := by decide +kernel
theorem dJ0_checkIndex_df160_2 : decode cJ0_checkIndex_df160 2 = .ok (.getstatic 1053, 3) := by decide +kernel
theorem dJ0_checkIndex_df160_5 : decode cJ0_checkIndex_df160 5 = .ok (.invokestatic 1059, 3) := by decide +kernel
theorem dJ0_checkIndex_df160_8 : decode cJ0_checkIndex_df160 8 = .ok (.pop, 1) := by decide +kernel
theorem dJ0_checkIndex_df160_9 : decode cJ0_checkIndex_df160 9 = .ok (.return_, 1) := by decide +kernel
theorem dJ1_charAt_3b067_0 : decode cJ1_charAt_3b067 0 = .ok (.iload_n 1, 1) := by decide +kernel
theorem dJ1_charAt_3b067_1 : decode cJ1_charAt_3b067 1 = .ok (.aload_n 0, 1) := by decide +kernel
theorem dJ1_charAt_3b067_2 : decode cJ1_charAt_3b067 2 = .ok (.arraylength, 1) := by decide +kernel
theorem dJ1_charAt_3b067_3 : decode cJ1_charAt_3b067 3 = .ok (.invokestatic 9, 3) := by decide +kernel
theorem dJ1_charAt_3b067_6 : decode cJ1_charAt_3b067 6 = .ok (.aload_n 0, 1) := by decide +kernel
theorem dJ1_charAt_3b067_7 : decode cJ1_charAt_3b067 7 = .ok (.iload_n 1, 1) := by decide +kernel
theorem dJ1_charAt_3b067_8 : decode cJ1_charAt_3b067 8 = .ok (.baload, 1) := by decide +kernel
theorem dJ1_charAt_3b067_9 : decode cJ1_charAt_3b067 9 = .ok (.sipush 255, 3) := by decide +kernel
theorem dJ1_charAt_3b067_12 : decode cJ1_charAt_3b067 12 = .ok (.iand, 1) := by decide +kernel
theorem dJ1_charAt_3b067_13 : decode cJ1_charAt_3b067 13 = .ok (.i2c, 1) := by decide +kernel
theorem dJ1_charAt_3b067_14 : decode cJ1_charAt_3b067 14 = .ok (.ireturn, 1) := by decide +kernel
theorem dJ0_length_8abf5_0 : decode cJ0_length_8abf5 0 = .ok (.aload_n 0, 1) := by decide +kernel
theorem dJ0_length_8abf5_1 : decode cJ0_length_8abf5 1 = .ok (.getfield 9, 3) := by decide +kernel
theorem dJ0_length_8abf5_4 : decode cJ0_length_8abf5 4 = .ok (.arraylength, 1) := by decide +kernel
theorem dJ0_length_8abf5_5 : decode cJ0_length_8abf5 5 = .ok (.aload_n 0, 1) := by decide +kernel
theorem dJ0_length_8abf5_6 : decode cJ0_length_8abf5 6 = .ok (.invokevirtual 335, 3) := by decide +kernel
theorem dJ0_length_8abf5_9 : decode cJ0_length_8abf5 9 = .ok (.ishr, 1) := by decide +kernel
theorem dJ0_length_8abf5_10 : decode cJ0_length_8abf5 10 = .ok (.ireturn, 1) := by decide +kernel
theorem dJ0_charAt_5068e_0 : decode cJ0_charAt_5068e 0 = .ok (.aload_n 0, 1) := by decide +kernel
theorem dJ0_charAt_5068e_1 : decode cJ0_charAt_5068e 1 = .ok (.invokevirtual 492, 3) := by decide +kernel
theorem dJ0_charAt_5068e_4 : decode cJ0_charAt_5068e 4 = .ok (.ifCond .eq 12, 3) := by decide +kernel
theorem dJ0_charAt_5068e_7 : decode cJ0_charAt_5068e 7 = .ok (.aload_n 0, 1) := by decide +kernel
theorem dJ0_charAt_5068e_8 : decode cJ0_charAt_5068e 8 = .ok (.getfield 9, 3) := by decide +kernel
theorem dJ0_charAt_5068e_11 : decode cJ0_charAt_5068e 11 = .ok (.iload_n 1, 1) := by decide +kernel
theorem dJ0_charAt_5068e_12 : decode cJ0_charAt_5068e 12 = .ok (.invokestatic 495, 3) := by decide +kernel
theorem dJ0_charAt_5068e_15 : decode cJ0_charAt_5068e 15 = .ok (.ireturn, 1) := by decide +kernel
theorem dJ0_charAt_5068e_16 : decode cJ0_charAt_5068e 16 = .ok (.aload_n 0, 1) := by decide +kernel
theorem dJ0_charAt_5068e_17 : decode cJ0_charAt_5068e 17 = .ok (.getfield 9, 3) := by decide +kernel
theorem dJ0_charAt_5068e_20 : decode cJ0_charAt_5068e 20 = .ok (.iload_n 1, 1) := by decide +kernel
theorem dJ0_charAt_5068e_21 : decode cJ0_charAt_5068e 21 = .ok (.invokestatic 498, 3) := by decide +kernel
theorem dJ0_charAt_5068e_24 : decode cJ0_charAt_5068e 24 = .ok (.ireturn, 1) := by decide +kernel
section zstrs
variable {g : zG} {J J' : zJ} {h0 : zH} {pc idx k n : Nat} {L : List (Option zV)} {st rest as : List zV} {h h1 : zH} {r r1 : Option zV} {h' : zH} {x i : Int32}
theorem zt_comp (ho : J.1.cls = "java/lang/String") (hl : Cond.fieldLink "java/lang/String" idx "java/lang/String" "COMPACT_STRINGS" "Z" ∈ zWd) (hd : decode J.2.1 pc = .ok (.getstatic idx, 3)) (kk : zR g J h0 (pc + 3) L (zi 1 :: st) h r h') : zR g J h0 pc L st h r h' :=
  zR.step (fun X _ _ _ _ hT hL kk => va_gets (own := "java/lang/String") X.1 X.2.1 X.2.2.2.2.2.2.1.2.2.2.2.1 hT.2.2 (by rw [← ho]; exact X.2.2.2.1) (X.2.2.2.2.1 _ hl) (fun _ q => q) hd (kk _ hL)) kk
theorem zt_coder (hk : k < 8) (ho : J.1.cls = "java/lang/String") (hl : Cond.fieldLink "java/lang/String" idx "java/lang/String" "coder" "B" ∈ zWd) (hd : decode J.2.1 pc = .ok (.getfield idx, 3)) (kk : zR g J h0 (pc + 3) L (zi 0 :: st) h r h') : zR g J h0 pc L (zs k :: st) h r h' :=
  zR.step (fun X _ _ _ _ hT hL kk => vk_getf (own := "java/lang/String") X.1 X.2.1 (X.2.2.2.2.2.2.1.2.2.2.2.2.2.1.1 k hk).2.1 hT.2.2 (by rw [← ho]; exact X.2.2.2.1) (X.2.2.2.2.1 _ hl) (fun _ q => q) hd (kk _ hL)) kk
theorem zt_value (hk : k < 8) (ho : J.1.cls = "java/lang/String") (hl : Cond.fieldLink "java/lang/String" idx "java/lang/String" "value" "[B" ∈ zWd) (hd : decode J.2.1 pc = .ok (.getfield idx, 3)) (kk : zR g J h0 (pc + 3) L (zs (16 + k) :: st) h r h') : zR g J h0 pc L (zs k :: st) h r h' :=
  zR.step (fun X _ _ _ _ hT hL kk => vk_getf (own := "java/lang/String") X.1 X.2.1 (X.2.2.2.2.2.2.1.2.2.2.2.2.2.1.1 k hk).2.2.1 hT.2.2 (by rw [← ho]; exact X.2.2.2.1) (X.2.2.2.2.1 _ hl) (fun _ q => q) hd (kk _ hL)) kk
theorem zt_len (hk : k < 8) (hd : decode J.2.1 pc = .ok (.arraylength, 1)) (kk : zR g J h0 (pc + 1) L (zi (nI (zSl.getD k 0)) :: st) h r h') : zR g J h0 pc L (zs (16 + k) :: st) h r h' :=
  zR.step (fun X _ _ _ _ hT hL kk => va_tlen X.1 X.2.1 (X.2.2.2.2.2.2.1.2.2.2.2.2.2.1.1 k hk).2.2.2 hT.2.2 rfl hd (kk _ hL)) kk
theorem zt_ld (hk : k < 8) (hin : vp_in i (zSl.getD k 0)) (hd : decode J.2.1 pc = .ok (.baload, 1)) (kk : zR g J h0 (pc + 1) L (zi ((zSb.getD k []).getD i.toNatClampNeg 0) :: st) h r h') : zR g J h0 pc L (zi i :: zs (16 + k) :: st) h r h' :=
  zR.step (fun X _ _ _ _ hT hL kk => va_tb X.1 X.2.1 (X.2.2.2.2.2.2.1.2.2.2.2.2.2.1.1 k hk).2.2.2 hT.2.2 hin rfl hd (kk _ hL)) kk
theorem zt_fmt (ho : J.1.cls = "java/lang/String") (hl : Cond.fieldLink "java/lang/String" idx "jdk/internal/util/Preconditions" "SIOOBE_FORMATTER" "Ljava/util/function/BiFunction;" ∈ zWd) (hd : decode J.2.1 pc = .ok (.getstatic idx, 3)) (k1 : zR g J h0 (pc + 3) L (zr none :: st) h r h') (k2 : zR g J h0 (pc + 3) L (zs 32 :: st) h r h') : zR g J h0 pc L st h r h' := by
  refine ⟨k1.1, k1.2.1, fun a1 a2 p l e R s m args below meth c Q X hs f1 f2 f3 f4 hr H locs ls hT hL => ?_⟩
  rcases X.2.2.2.2.2.2.1.2.2.2.2.2.2.2.2.2 with hZ | hZ
  · exact va_gets (own := "java/lang/String") X.1 X.2.1 hZ hT.2.2 (by rw [← ho]; exact X.2.2.2.1) (X.2.2.2.2.1 _ hl) (fun _ q => q) hd (k1.2.2 a1 a2 p l e R s m args below meth c Q X hs f1 f2 f3 f4 hr H locs ls hT hL)
  · exact va_gets (own := "java/lang/String") X.1 X.2.1 hZ hT.2.2 (by rw [← ho]; exact X.2.2.2.1) (X.2.2.2.2.1 _ hl) (fun _ q => q) hd (k2.2.2 a1 a2 p l e R s m args below meth c Q X hs f1 f2 f3 f4 hr H locs ls hT hL)
theorem zt_i2c (hd : decode J.2.1 pc = .ok (.i2c, 1)) (kk : zR g J h0 (pc + 1) L (zi (x.toUInt32 % 65536).toInt32 :: st) h r h') : zR g J h0 pc L (zi x :: st) h r h' :=
  zR.step (fun X _ _ _ _ hT hL kk => lv_i2c X.1 X.2.1 hd rfl (kk _ hL)) kk
theorem zt_call (hk : k < 8) (hcl : J'.1.cls = "java/lang/String") (hl : Cond.methodLink J.1.cls idx J'.1 ∈ zWd) (hM : zMv J' n) (hF : zFits J J') (hd : decode J.2.1 pc = .ok (.invokevirtual idx, 3)) (hn : as.length = n) (hrest : rest.length ≤ 8) (hst : as.reverse ++ zs k :: rest = st) (hc : zCa g J' (zs k :: as) h r1 h1)
    (kk : zR g J h0 (pc + 3) L (r1.toList ++ rest) h1 r h') : zR g J h0 pc L st h r h' := by
  subst hst
  refine zR.stepC hc.1 (fun {p l e R s m args below meth c H locs cells slots ls} X b1 b2 hT hL b3 b4 => ?_) kk
  obtain ⟨⟨m1, m2, m3, m4⟩, m5, m6, m7⟩ := hM
  have hgood : GoodIn zWd (wsV J.1.cls idx J'.1.cls J'.1 (zWs J')) := zgood (fun w hw => by
    simp only [wsV, zWs, List.cons_append, List.nil_append, List.mem_cons] at hw
    rcases hw with rfl | rfl | rfl | rfl | rfl | hw
    · exact hl
    · exact m1
    · exact m2
    · exact m3
    · exact m4
    · exact hw)
  have hrec := vk_recv X.2.2.2.2.2.2.1.2.2.2.2.2.2.1 hk hT.2.2
  rw [← hcl] at hrec
  have e1 : ((as.reverse ++ zs k :: rest).map (zv g)) = (as.map (zv g)).reverse ++ .ref (g.2.2.2.1 k) :: rest.map (zv g) := by
    simp [List.map_reverse, zv]
  rw [e1]
  exact va_runV (As := as.map (zv g)) (rest := rest.map (zv g)) (b := g.2.2.2.1 k) ⟨X.1, X.2.1, X.2.2.1, X.2.2.2.1, X.2.2.2.2.1⟩ (hc.2 l) (cwV n X.2.2.2.2.1 hgood rfl rfl rfl ⟨rfl, m5, m6, m7⟩ ⟨Nat.le_trans hF.1 b1, Nat.le_trans hF.2 b2⟩) ⟨zblind g h _, hrec, fun U hU hW => zpre (as := zs k :: as) X hT U hU hW⟩ rfl (by simpa using hn) hL.1 rfl (lv_room (by rw [zsum]; exact hrest)) hd ⟨b3, b4⟩
end zstrs

theorem zt_c_coder {g : zG} (hg : g.2.1.map (fun q => q.2) = zty) {k : Nat} (hk : k < 8) (h : zH) : zCa g jJ0_coder_7d493 [zs k] h (some (zi 0)) h := by
  refine zCa.of hg (by decide +kernel) (Nat.le_of_ble_eq_true rfl) ?_
  refine zt_comp rfl ks_21 dJ0_coder_7d493_0 ?_
  refine zr_ifeq_f 13 dJ0_coder_7d493_3 (by decide) (by decide) ?_
  refine zr_aload_n (v := .inr k) dJ0_coder_7d493_6 rfl rfl ?_
  refine zt_coder hk rfl ks_22 dJ0_coder_7d493_7 ?_
  refine zr_goto (tgt := 14) dJ0_coder_7d493_10 (by decide) ?_
  exact zr_ret _ rfl dJ0_coder_7d493_14
theorem zt_c_isLatin1 {g : zG} (hg : g.2.1.map (fun q => q.2) = zty) {k : Nat} (hk : k < 8) (h : zH) : zCa g jJ0_isLatin1_aae02 [zs k] h (some (zi 1)) h := by
  refine zCa.of hg (by decide +kernel) (Nat.le_of_ble_eq_true rfl) ?_
  refine zt_comp rfl ks_21 dJ0_isLatin1_aae02_0 ?_
  refine zr_ifeq_f 17 dJ0_isLatin1_aae02_3 (by decide) (by decide) ?_
  refine zr_aload_n (v := .inr k) dJ0_isLatin1_aae02_6 rfl rfl ?_
  refine zt_coder hk rfl ks_22 dJ0_isLatin1_aae02_7 ?_
  refine zr_ifne_f 17 dJ0_isLatin1_aae02_10 (by decide) rfl ?_
  refine zr_iconst (v := 1) dJ0_isLatin1_aae02_13 (by decide) ?_
  refine zr_goto (tgt := 18) dJ0_isLatin1_aae02_14 (by decide) ?_
  exact zr_ret _ rfl dJ0_isLatin1_aae02_18
theorem zt_c_pre {g : zG} (hg : g.2.1.map (fun q => q.2) = zty) {i n : Int32} {v : zV} (h1 : ¬ i < 0) (h2 : i < n) (h : zH) : zCa g jJ3_checkIndex_8e157 [zi i, zi n, v] h (some (zi i)) h := by
  refine zCa.of hg (by decide +kernel) (Nat.le_of_ble_eq_true rfl) ?_
  refine zr_iload_n (x := i) dJ3_checkIndex_8e157_0 rfl rfl ?_
  refine zr_iflt_f 9 dJ3_checkIndex_8e157_1 (by decide) h1 ?_
  refine zr_iload_n (x := i) dJ3_checkIndex_8e157_4 rfl rfl ?_
  refine zr_iload_n (x := n) dJ3_checkIndex_8e157_5 rfl rfl ?_
  refine zr_iclt_t (tgt := 16) dJ3_checkIndex_8e157_6 (by decide) h2 ?_
  refine zr_iload_n (x := i) dJ3_checkIndex_8e157_16 rfl rfl ?_
  exact zr_ret _ rfl dJ3_checkIndex_8e157_17
theorem zt_c_chk {g : zG} (hg : g.2.1.map (fun q => q.2) = zty) {i n : Int32} (h1 : ¬ i < 0) (h2 : i < n) (h : zH) : zCa g jJ0_checkIndex_df160 [zi i, zi n] h none h := by
  refine zCa.of hg (by decide +kernel) (Nat.le_of_ble_eq_true rfl) ?_
  refine zr_iload_n (x := i) dJ0_checkIndex_df160_0 rfl rfl ?_
  refine zr_iload_n (x := n) dJ0_checkIndex_df160_1 rfl rfl ?_
  have key : ∀ v : zV, zR g jJ0_checkIndex_df160 h 5 [some (zi i), some (zi n)] [v, zi n, zi i] h none h := by
    intro v
    refine zq_callS (J' := jJ3_checkIndex_8e157) (as := [zi i, zi n, v]) (rest := []) (r1 := some (zi i)) ks_29 ky_J3_checkIndex_8e157 ⟨by decide, by decide⟩ dJ0_checkIndex_df160_5 rfl (Nat.le_of_ble_eq_true rfl) rfl (zt_c_pre hg h1 h2 h) ?_
    refine zr_pop dJ0_checkIndex_df160_8 ?_
    exact zr_ret none trivial dJ0_checkIndex_df160_9
  exact zt_fmt rfl ks_24 dJ0_checkIndex_df160_2 (key _) (key _)
theorem zt_c_lat {g : zG} (hg : g.2.1.map (fun q => q.2) = zty) {k : Nat} (hk : k < 8) {i : Int32} (h1 : vp_in i (zSl.getD k 0)) (h : zH) : zCa g jJ1_charAt_3b067 [zs (16 + k), zi i] h (some (zi ((zSb.getD k []).getD i.toNatClampNeg 0))) h := by
  have hb : zSl.getD k 0 < 2 ^ 31 := by
    rcases (show k = 0 ∨ k = 1 ∨ k = 2 ∨ k = 3 ∨ k = 4 ∨ k = 5 ∨ k = 6 ∨ k = 7 by omega) with rfl | rfl | rfl | rfl | rfl | rfl | rfl | rfl <;> decide
  obtain ⟨j, hj, rfl⟩ := vp_in_of h1 hb
  rw [nI_clamp (by omega)]
  have hx : (((zSb.getD k []).getD j 0 &&& (255 : Int32)).toUInt32 % 65536).toInt32 = (zSb.getD k []).getD j 0 ∧ narrow .char (.int ((zSb.getD k []).getD j 0)) = .int ((zSb.getD k []).getD j 0) := by
    have hj7 : j < 7 := by
      have : zSl.getD k 0 ≤ 7 := by
        rcases (show k = 0 ∨ k = 1 ∨ k = 2 ∨ k = 3 ∨ k = 4 ∨ k = 5 ∨ k = 6 ∨ k = 7 by omega) with rfl | rfl | rfl | rfl | rfl | rfl | rfl | rfl <;> decide
      omega
    rcases (show k = 0 ∨ k = 1 ∨ k = 2 ∨ k = 3 ∨ k = 4 ∨ k = 5 ∨ k = 6 ∨ k = 7 by omega) with rfl | rfl | rfl | rfl | rfl | rfl | rfl | rfl <;> rcases (show j = 0 ∨ j = 1 ∨ j = 2 ∨ j = 3 ∨ j = 4 ∨ j = 5 ∨ j = 6 by omega) with rfl | rfl | rfl | rfl | rfl | rfl | rfl <;> decide
  refine zCa.of hg (by decide +kernel) (Nat.le_of_ble_eq_true rfl) ?_
  refine zr_iload_n (x := nI j) dJ1_charAt_3b067_0 rfl rfl ?_
  refine zr_aload_n (v := .inr (16 + k)) dJ1_charAt_3b067_1 rfl rfl ?_
  refine zt_len hk dJ1_charAt_3b067_2 ?_
  refine zq_callS (J' := jJ0_checkIndex_df160) (as := [zi (nI j), zi (nI (zSl.getD k 0))]) (rest := []) (r1 := none) ks_28 ky_J0_checkIndex_df160 ⟨by decide, by decide⟩ dJ1_charAt_3b067_3 rfl (Nat.le_of_ble_eq_true rfl) rfl (zt_c_chk hg (nI_pos (by omega)) (nI_lt hj (by omega)) h) ?_
  refine zr_aload_n (v := .inr (16 + k)) dJ1_charAt_3b067_6 rfl rfl ?_
  refine zr_iload_n (x := nI j) dJ1_charAt_3b067_7 rfl rfl ?_
  refine zt_ld hk h1 dJ1_charAt_3b067_8 ?_
  rw [nI_clamp (by omega)]
  refine zr_sipush (v := (255 : Int32)) dJ1_charAt_3b067_9 (by decide) ?_
  refine zr_iand dJ1_charAt_3b067_12 ?_
  refine zt_i2c dJ1_charAt_3b067_13 ?_
  rw [hx.1]
  exact zr_ret _ hx.2 dJ1_charAt_3b067_14
theorem zt_c_len {g : zG} (hg : g.2.1.map (fun q => q.2) = zty) {k : Nat} (hk : k < 8) (h : zH) : zCa g jJ0_length_8abf5 [zs k] h (some (zi (nI (zSl.getD k 0)))) h := by
  have hx : nI (zSl.getD k 0) >>> ((0 : Int32) &&& 31) = nI (zSl.getD k 0) := by
    rcases (show k = 0 ∨ k = 1 ∨ k = 2 ∨ k = 3 ∨ k = 4 ∨ k = 5 ∨ k = 6 ∨ k = 7 by omega) with rfl | rfl | rfl | rfl | rfl | rfl | rfl | rfl <;> decide
  refine zCa.of hg (by decide +kernel) (Nat.le_of_ble_eq_true rfl) ?_
  refine zr_aload_n (v := .inr k) dJ0_length_8abf5_0 rfl rfl ?_
  refine zt_value hk rfl ks_23 dJ0_length_8abf5_1 ?_
  refine zt_len hk dJ0_length_8abf5_4 ?_
  refine zr_aload_n (v := .inr k) dJ0_length_8abf5_5 rfl rfl ?_
  refine zt_call (J' := jJ0_coder_7d493) (as := []) (rest := [zi (nI (zSl.getD k 0))]) (r1 := some (zi 0)) hk rfl ks_25 ky_J0_coder_7d493 ⟨by decide, by decide⟩ dJ0_length_8abf5_6 rfl (Nat.le_of_ble_eq_true rfl) rfl (zt_c_coder hg hk h) ?_
  refine zr_ishr dJ0_length_8abf5_9 ?_
  rw [hx]
  exact zr_ret _ rfl dJ0_length_8abf5_10
theorem zt_c_at {g : zG} (hg : g.2.1.map (fun q => q.2) = zty) {k : Nat} (hk : k < 8) {i : Int32} (h1 : vp_in i (zSl.getD k 0)) (h : zH) : zCa g jJ0_charAt_5068e [zs k, zi i] h (some (zi ((zSb.getD k []).getD i.toNatClampNeg 0))) h := by
  have hl := zt_c_lat hg hk h1 h
  have hok : narrow .char (.int ((zSb.getD k []).getD i.toNatClampNeg 0)) = .int ((zSb.getD k []).getD i.toNatClampNeg 0) := by
    have hb : zSl.getD k 0 ≤ 7 := by
      rcases (show k = 0 ∨ k = 1 ∨ k = 2 ∨ k = 3 ∨ k = 4 ∨ k = 5 ∨ k = 6 ∨ k = 7 by omega) with rfl | rfl | rfl | rfl | rfl | rfl | rfl | rfl <;> decide
    obtain ⟨j, hj, rfl⟩ := vp_in_of h1 (by omega)
    rw [nI_clamp (by omega)]
    have hj7 : j < 7 := by omega
    rcases (show k = 0 ∨ k = 1 ∨ k = 2 ∨ k = 3 ∨ k = 4 ∨ k = 5 ∨ k = 6 ∨ k = 7 by omega) with rfl | rfl | rfl | rfl | rfl | rfl | rfl | rfl <;> rcases (show j = 0 ∨ j = 1 ∨ j = 2 ∨ j = 3 ∨ j = 4 ∨ j = 5 ∨ j = 6 by omega) with rfl | rfl | rfl | rfl | rfl | rfl | rfl <;> decide
  refine zCa.of hg (by decide +kernel) (Nat.le_of_ble_eq_true rfl) ?_
  refine zr_aload_n (v := .inr k) dJ0_charAt_5068e_0 rfl rfl ?_
  refine zt_call (J' := jJ0_isLatin1_aae02) (as := []) (rest := []) (r1 := some (zi 1)) hk rfl ks_26 ky_J0_isLatin1_aae02 ⟨by decide, by decide⟩ dJ0_charAt_5068e_1 rfl (Nat.le_of_ble_eq_true rfl) rfl (zt_c_isLatin1 hg hk h) ?_
  refine zr_ifeq_f 16 dJ0_charAt_5068e_4 (by decide) (by decide) ?_
  refine zr_aload_n (v := .inr k) dJ0_charAt_5068e_7 rfl rfl ?_
  refine zt_value hk rfl ks_23 dJ0_charAt_5068e_8 ?_
  refine zr_iload_n (x := i) dJ0_charAt_5068e_11 rfl rfl ?_
  refine zq_callS (J' := jJ1_charAt_3b067) (as := [zs (16 + k), zi i]) (rest := []) (r1 := some (zi ((zSb.getD k []).getD i.toNatClampNeg 0))) ks_27 ky_J1_charAt_3b067 ⟨by decide, by decide⟩ dJ0_charAt_5068e_12 rfl (Nat.le_of_ble_eq_true rfl) rfl hl ?_
  exact zr_ret _ hok dJ0_charAt_5068e_15
section zstr2
variable {g : zG} {J : zJ} {h0 : zH} {pc idx k : Nat} {L : List (Option zV)} {st : List zV} {h : zH} {r : Option zV} {h' : zH} {x i : Int32}
theorem zq_strlen (hg : g.2.1.map (fun q => q.2) = zty) (hl : Cond.methodLink J.1.cls idx yJ0_length_8abf5 ∈ zWd) (hf : zFits J jJ0_length_8abf5) (hs : st.length ≤ 8) (hd : decode J.2.1 pc = .ok (.invokevirtual idx, 3)) (hx : zstl k = some x) (kk : zR g J h0 (pc + 3) L (zi x :: st) h r h') : zR g J h0 pc L (zs k :: st) h r h' := by
  unfold zstl at hx
  split at hx
  · next hk =>
    cases hx
    exact zt_call (J' := jJ0_length_8abf5) (as := []) (rest := st) (r1 := some (zi (nI (zSl.getD k 0)))) hk rfl hl ky_J0_length_8abf5 hf hd rfl hs rfl (zt_c_len hg hk h) kk
  · cases hx
theorem zq_strat (hg : g.2.1.map (fun q => q.2) = zty) (hl : Cond.methodLink J.1.cls idx yJ0_charAt_5068e ∈ zWd) (hf : zFits J jJ0_charAt_5068e) (hs : st.length ≤ 8) (hd : decode J.2.1 pc = .ok (.invokevirtual idx, 3)) (hx : zstc k i = some x) (kk : zR g J h0 (pc + 3) L (zi x :: st) h r h') : zR g J h0 pc L (zi i :: zs k :: st) h r h' := by
  unfold zstc at hx
  split at hx
  · next hk =>
    cases hx
    exact zt_call (J' := jJ0_charAt_5068e) (as := [zi i]) (rest := st) (r1 := some (zi ((zSb.getD k []).getD i.toNatClampNeg 0))) hk.1 rfl hl ky_J0_charAt_5068e hf hd rfl hs rfl (zt_c_at hg hk.1 hk.2 h) kk
  · cases hx
end zstr2
