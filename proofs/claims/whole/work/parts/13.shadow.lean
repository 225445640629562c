theorem dX5_readSign_0 : decode cX5_readSign 0 = .ok (.aload_n 0, 1) := by decide +kernel
theorem dX5_readSign_1 : decode cX5_readSign 1 = .ok (.invokevirtual 41, 3) := by decide +kernel
theorem dX5_readSign_4 : decode cX5_readSign 4 = .ok (.aload_n 0, 1) := by decide +kernel
theorem dX5_readSign_5 : decode cX5_readSign 5 = .ok (.getfield 12, 3) := by decide +kernel
theorem dX5_readSign_8 : decode cX5_readSign 8 = .ok (.aload_n 0, 1) := by decide +kernel
theorem dX5_readSign_9 : decode cX5_readSign 9 = .ok (.getfield 25, 3) := by decide +kernel
theorem dX5_readSign_12 : decode cX5_readSign 12 = .ok (.invokevirtual 130, 3) := by decide +kernel
theorem dX5_readSign_15 : decode cX5_readSign 15 = .ok (.iload_n 1, 1) := by decide +kernel
theorem dX5_readSign_16 : decode cX5_readSign 16 = .ok (.if_icmp .eq 13, 3) := by decide +kernel
theorem dX5_readSign_19 : decode cX5_readSign 19 = .ok (.aload_n 0, 1) := by decide +kernel
theorem dX5_readSign_20 : decode cX5_readSign 20 = .ok (.iconst 1, 1) := by decide +kernel
theorem dX5_readSign_21 : decode cX5_readSign 21 = .ok (.aload_n 0, 1) := by decide +kernel
theorem dX5_readSign_22 : decode cX5_readSign 22 = .ok (.getfield 25, 3) := by decide +kernel
theorem dX5_readSign_25 : decode cX5_readSign 25 = .ok (.invokevirtual 58, 3) := by decide +kernel
theorem dX5_readSign_28 : decode cX5_readSign 28 = .ok (.ireturn, 1) := by decide +kernel
theorem dX5_readSign_29 : decode cX5_readSign 29 = .ok (.aload_n 0, 1) := by decide +kernel
theorem dX5_readSign_30 : decode cX5_readSign 30 = .ok (.dup, 1) := by decide +kernel
theorem dX5_readSign_31 : decode cX5_readSign 31 = .ok (.getfield 25, 3) := by decide +kernel
theorem dX5_readSign_34 : decode cX5_readSign 34 = .ok (.iconst 1, 1) := by decide +kernel
theorem dX5_readSign_35 : decode cX5_readSign 35 = .ok (.iadd, 1) := by decide +kernel
theorem dX5_readSign_36 : decode cX5_readSign 36 = .ok (.putfield 25, 3) := by decide +kernel
theorem dX5_readSign_39 : decode cX5_readSign 39 = .ok (.iconst 1, 1) := by decide +kernel
theorem dX5_readSign_40 : decode cX5_readSign 40 = .ok (.ireturn, 1) := by decide +kernel
def f_X5_readSign (N : Nat) (l0 : Nat) (l1 : Int32) (h : zH) : Option (Int32 × zH) := (zck h 5 (some l0)).bind fun q1 => (f_X5_skipBlanks N q1 h).bind fun h1 => (zgR h1 5 (some l0) 0).bind fun x1 => (zgI h1 5 (some l0) 2).bind fun x2 => (zck h1 10 x1).bind fun q2 => (f_X10_signAt N q2 x2 h1).bind fun x3 => if x3 = l1 then (zgI h1 5 (some l0) 2).bind fun x4 => (zpu h1 5 (some l0) 2 (zi (x4 + (1 : Int32)))).bind fun h2 => some ((1 : Int32), h2) else (zgI h1 5 (some l0) 2).bind fun x5 => (zck h1 5 (some l0)).bind fun q3 => zb2 (f_X5_refuse N q3 (1 : Int32) x5 h1) fun x6 h3 => if x6 = 0 ∨ x6 = 1 then some (x6, h3) else none
set_option maxHeartbeats 4000000 in
set_option maxRecDepth 100000 in
theorem s_X5_readSign {g : zG} (hg : g.2.1.map (fun q => q.2) = zty) {h0 : zH} (N : Nat) (l0 : Nat) (l1 : Int32) (h : zH) (r : Int32) (h' : zH) (hf : f_X5_readSign N l0 l1 h = some (r, h')) : zR g jX5_readSign h0 0 [some (zr (some l0)), some (zi l1)] [] h (some (zi r)) h' := by
  unfold f_X5_readSign at hf
  refine zr_aload_n (v := .inl (some l0)) dX5_readSign_0 rfl rfl ?_
  revert hf; refine zbi (fun q1 e_q1 hf => ?_)
  revert hf; refine zbi (fun h1 e_h1 hf => ?_)
  refine zq_callV (J' := jX5_skipBlanks) (as := []) (rest := []) (r1 := none) (q := (RX5, TX5, 7)) kw_220 km_X5_skipBlanks kt_179 dX5_readSign_1 rfl (Nat.le_of_ble_eq_true rfl) rfl rfl e_q1 rfl (c_X5_skipBlanks hg e_h1) ?_
  refine zr_aload_n (v := .inl (some l0)) dX5_readSign_4 rfl rfl ?_
  revert hf; refine zbi (fun x1 e_x1 hf => ?_)
  refine zq_getR kg_149 dX5_readSign_5 e_x1 ?_
  refine zr_aload_n (v := .inl (some l0)) dX5_readSign_8 rfl rfl ?_
  revert hf; refine zbi (fun x2 e_x2 hf => ?_)
  refine zq_getI kg_148 dX5_readSign_9 e_x2 ?_
  revert hf; refine zbi (fun q2 e_q2 hf => ?_)
  revert hf; refine zbi (fun x3 e_x3 hf => ?_)
  refine zq_callV (J' := jX10_signAt) (as := [zi x2]) (rest := []) (r1 := (some (zi x3))) (q := (RX10, TX10, 2)) kw_207 km_X10_signAt kt_180 dX5_readSign_12 rfl (Nat.le_of_ble_eq_true rfl) rfl rfl e_q2 rfl (c_X10_signAt hg e_x3) ?_
  refine zr_iload_n (x := l1) dX5_readSign_15 rfl rfl ?_
  by_cases hc1 : x3 = l1
  · rw [if_pos hc1] at hf
    refine zr_iceq_t (tgt := 29) dX5_readSign_16 (by decide) hc1 ?_
    refine zr_aload_n (v := .inl (some l0)) dX5_readSign_29 rfl rfl ?_
    refine zr_dup dX5_readSign_30 ?_
    revert hf; refine zbi (fun x4 e_x4 hf => ?_)
    refine zq_getI kg_148 dX5_readSign_31 e_x4 ?_
    refine zr_iconst (v := (1 : Int32)) dX5_readSign_34 (by decide) ?_
    refine zr_iadd dX5_readSign_35 ?_
    revert hf; refine zbi (fun h2 e_h2 hf => ?_)
    refine zq_put (kp_155 _) dX5_readSign_36 (zn_i _) e_h2 ?_
    refine zr_iconst (v := (1 : Int32)) dX5_readSign_39 (by decide) ?_
    cases hf
    exact zr_ret _ rfl dX5_readSign_40
  · rw [if_neg hc1] at hf
    refine zr_iceq_f 29 dX5_readSign_16 (by decide) hc1 ?_
    refine zr_aload_n (v := .inl (some l0)) dX5_readSign_19 rfl rfl ?_
    refine zr_iconst (v := (1 : Int32)) dX5_readSign_20 (by decide) ?_
    refine zr_aload_n (v := .inl (some l0)) dX5_readSign_21 rfl rfl ?_
    revert hf; refine zbi (fun x5 e_x5 hf => ?_)
    refine zq_getI kg_148 dX5_readSign_22 e_x5 ?_
    revert hf; refine zbi (fun q3 e_q3 hf => ?_)
    revert hf; refine zbi2 (fun x6 h3 e_x6 hf => ?_)
    refine zq_callV (J' := jX5_refuse) (as := [zi (1 : Int32), zi x5]) (rest := []) (r1 := (some (zi x6))) (q := (RX5, TX5, 7)) kw_227 km_X5_refuse kt_181 dX5_readSign_25 rfl (Nat.le_of_ble_eq_true rfl) rfl rfl e_q3 rfl (c_X5_refuse hg e_x6) ?_
    by_cases hc2 : x6 = 0 ∨ x6 = 1
    · rw [if_pos hc2] at hf
      cases hf
      exact zr_ret _ (zok_b hc2) dX5_readSign_28
    · rw [if_neg hc2] at hf
      cases hf
theorem c_X5_readSign {g : zG} (hg : g.2.1.map (fun q => q.2) = zty) {N : Nat} {l0 : Nat} {l1 : Int32} {h : zH} {r : Int32} {h' : zH} (hf : f_X5_readSign N l0 l1 h = some (r, h')) : zCa g jX5_readSign [zr (some l0), zi l1] h (some (zi r)) h' :=
  zCa.of hg (by decide +kernel) (Nat.le_of_ble_eq_true rfl) (s_X5_readSign hg N l0 l1 h r h' hf)
theorem dX6_addLine_0 : decode cX6_addLine 0 = .ok (.aload_n 0, 1) := by decide +kernel
theorem dX6_addLine_1 : decode cX6_addLine 1 = .ok (.getfield 9, 3) := by decide +kernel
theorem dX6_addLine_4 : decode cX6_addLine 4 = .ok (.iconst 1, 1) := by decide +kernel
theorem dX6_addLine_5 : decode cX6_addLine 5 = .ok (.isub, 1) := by decide +kernel
theorem dX6_addLine_6 : decode cX6_addLine 6 = .ok (.istore_n 3, 1) := by decide +kernel
theorem dX6_addLine_7 : decode cX6_addLine 7 = .ok (.iload_n 3, 1) := by decide +kernel
theorem dX6_addLine_8 : decode cX6_addLine 8 = .ok (.ifCond .lt 19, 3) := by decide +kernel
theorem dX6_addLine_11 : decode cX6_addLine 11 = .ok (.iload_n 3, 1) := by decide +kernel
theorem dX6_addLine_12 : decode cX6_addLine 12 = .ok (.iconst 4, 1) := by decide +kernel
theorem dX6_addLine_13 : decode cX6_addLine 13 = .ok (.if_icmp .ge 14, 3) := by decide +kernel
theorem dX6_addLine_16 : decode cX6_addLine 16 = .ok (.aload_n 0, 1) := by decide +kernel
theorem dX6_addLine_17 : decode cX6_addLine 17 = .ok (.getfield 15, 3) := by decide +kernel
theorem dX6_addLine_20 : decode cX6_addLine 20 = .ok (.iload_n 3, 1) := by decide +kernel
theorem dX6_addLine_21 : decode cX6_addLine 21 = .ok (.iaload, 1) := by decide +kernel
theorem dX6_addLine_22 : decode cX6_addLine 22 = .ok (.bipush 12, 2) := by decide +kernel
theorem dX6_addLine_24 : decode cX6_addLine 24 = .ok (.if_icmp .lt 4, 3) := by decide +kernel
theorem dX6_addLine_27 : decode cX6_addLine 27 = .ok (.return_, 1) := by decide +kernel
theorem dX6_addLine_28 : decode cX6_addLine 28 = .ok (.iload_n 3, 1) := by decide +kernel
theorem dX6_addLine_29 : decode cX6_addLine 29 = .ok (.bipush 12, 2) := by decide +kernel
theorem dX6_addLine_31 : decode cX6_addLine 31 = .ok (.imul, 1) := by decide +kernel
theorem dX6_addLine_32 : decode cX6_addLine 32 = .ok (.aload_n 0, 1) := by decide +kernel
theorem dX6_addLine_33 : decode cX6_addLine 33 = .ok (.getfield 15, 3) := by decide +kernel
theorem dX6_addLine_36 : decode cX6_addLine 36 = .ok (.iload_n 3, 1) := by decide +kernel
theorem dX6_addLine_37 : decode cX6_addLine 37 = .ok (.iaload, 1) := by decide +kernel
theorem dX6_addLine_38 : decode cX6_addLine 38 = .ok (.iadd, 1) := by decide +kernel
theorem dX6_addLine_39 : decode cX6_addLine 39 = .ok (.istore 4, 2) := by decide +kernel
theorem dX6_addLine_41 : decode cX6_addLine 41 = .ok (.aload_n 0, 1) := by decide +kernel
theorem dX6_addLine_42 : decode cX6_addLine 42 = .ok (.getfield 19, 3) := by decide +kernel
theorem dX6_addLine_45 : decode cX6_addLine 45 = .ok (.iload 4, 2) := by decide +kernel
theorem dX6_addLine_47 : decode cX6_addLine 47 = .ok (.iload_n 1, 1) := by decide +kernel
theorem dX6_addLine_48 : decode cX6_addLine 48 = .ok (.iastore, 1) := by decide +kernel
theorem dX6_addLine_49 : decode cX6_addLine 49 = .ok (.aload_n 0, 1) := by decide +kernel
theorem dX6_addLine_50 : decode cX6_addLine 50 = .ok (.getfield 22, 3) := by decide +kernel
theorem dX6_addLine_53 : decode cX6_addLine 53 = .ok (.iload 4, 2) := by decide +kernel
theorem dX6_addLine_55 : decode cX6_addLine 55 = .ok (.iload_n 2, 1) := by decide +kernel
theorem dX6_addLine_56 : decode cX6_addLine 56 = .ok (.iastore, 1) := by decide +kernel
theorem dX6_addLine_57 : decode cX6_addLine 57 = .ok (.aload_n 0, 1) := by decide +kernel
theorem dX6_addLine_58 : decode cX6_addLine 58 = .ok (.getfield 15, 3) := by decide +kernel
theorem dX6_addLine_61 : decode cX6_addLine 61 = .ok (.iload_n 3, 1) := by decide +kernel
theorem dX6_addLine_62 : decode cX6_addLine 62 = .ok (.dup2, 1) := by decide +kernel
theorem dX6_addLine_63 : decode cX6_addLine 63 = .ok (.iaload, 1) := by decide +kernel
theorem dX6_addLine_64 : decode cX6_addLine 64 = .ok (.iconst 1, 1) := by decide +kernel
theorem dX6_addLine_65 : decode cX6_addLine 65 = .ok (.iadd, 1) := by decide +kernel
theorem dX6_addLine_66 : decode cX6_addLine 66 = .ok (.iastore, 1) := by decide +kernel
theorem dX6_addLine_67 : decode cX6_addLine 67 = .ok (.return_, 1) := by decide +kernel
def f_X6_addLine (N : Nat) (l0 : Nat) (l1 : Int32) (l2 : Int32) (h : zH) : Option zH := (zgI h 6 (some l0) 0).bind fun x1 => if (x1 - (1 : Int32)) < 0 then some h else if (4 : Int32) ≤ (x1 - (1 : Int32)) then some h else (zgR h 6 (some l0) 1).bind fun x2 => (zld h 0 x2 (x1 - (1 : Int32))).bind fun x3 => if x3 < (12 : Int32) then (zgR h 6 (some l0) 1).bind fun x4 => (zld h 0 x4 (x1 - (1 : Int32))).bind fun x5 => (zgR h 6 (some l0) 2).bind fun x6 => (zst h 0 x6 (((x1 - (1 : Int32)) * (12 : Int32)) + x5) l1).bind fun h1 => (zgR h1 6 (some l0) 3).bind fun x7 => (zst h1 0 x7 (((x1 - (1 : Int32)) * (12 : Int32)) + x5) l2).bind fun h2 => (zgR h2 6 (some l0) 1).bind fun x8 => (zld h2 0 x8 (x1 - (1 : Int32))).bind fun x9 => (zst h2 0 x8 (x1 - (1 : Int32)) (x9 + (1 : Int32))).bind fun h3 => some h3 else some h
set_option maxHeartbeats 4000000 in
set_option maxRecDepth 100000 in
theorem s_X6_addLine {g : zG} (hg : g.2.1.map (fun q => q.2) = zty) {h0 : zH} (N : Nat) (l0 : Nat) (l1 : Int32) (l2 : Int32) (h : zH) (h' : zH) (hf : f_X6_addLine N l0 l1 l2 h = some h') : zR g jX6_addLine h0 0 [some (zr (some l0)), some (zi l1), some (zi l2), none, none] [] h none h' := by
  unfold f_X6_addLine at hf
  refine zr_aload_n (v := .inl (some l0)) dX6_addLine_0 rfl rfl ?_
  revert hf; refine zbi (fun x1 e_x1 hf => ?_)
  refine zq_getI kg_109 dX6_addLine_1 e_x1 ?_
  refine zr_iconst (v := (1 : Int32)) dX6_addLine_4 (by decide) ?_
  refine zr_isub dX6_addLine_5 ?_
  refine zq_istore_n (x := (x1 - (1 : Int32))) (L' := [some (zr (some l0)), some (zi l1), some (zi l2), some (zi (x1 - (1 : Int32))), none]) dX6_addLine_6 rfl (by decide) rfl ?_
  refine zr_iload_n (x := (x1 - (1 : Int32))) dX6_addLine_7 rfl rfl ?_
  by_cases hc1 : (x1 - (1 : Int32)) < 0
  · rw [if_pos hc1] at hf
    refine zr_iflt_t (tgt := 27) dX6_addLine_8 (by decide) hc1 ?_
    cases hf
    exact zr_ret none trivial dX6_addLine_27
  · rw [if_neg hc1] at hf
    refine zr_iflt_f 27 dX6_addLine_8 (by decide) hc1 ?_
    refine zr_iload_n (x := (x1 - (1 : Int32))) dX6_addLine_11 rfl rfl ?_
    refine zr_iconst (v := (4 : Int32)) dX6_addLine_12 (by decide) ?_
    by_cases hc2 : (4 : Int32) ≤ (x1 - (1 : Int32))
    · rw [if_pos hc2] at hf
      refine zr_icge_t (tgt := 27) dX6_addLine_13 (by decide) hc2 ?_
      cases hf
      exact zr_ret none trivial dX6_addLine_27
    · rw [if_neg hc2] at hf
      refine zr_icge_f 27 dX6_addLine_13 (by decide) hc2 ?_
      refine zr_aload_n (v := .inl (some l0)) dX6_addLine_16 rfl rfl ?_
      revert hf; refine zbi (fun x2 e_x2 hf => ?_)
      refine zq_getR kg_104 dX6_addLine_17 e_x2 ?_
      refine zr_iload_n (x := (x1 - (1 : Int32))) dX6_addLine_20 rfl rfl ?_
      revert hf; refine zbi (fun x3 e_x3 hf => ?_)
      refine zq_iald dX6_addLine_21 e_x3 ?_
      refine zr_bipush (v := (12 : Int32)) dX6_addLine_22 (by decide) ?_
      by_cases hc3 : x3 < (12 : Int32)
      · rw [if_pos hc3] at hf
        refine zr_iclt_t (tgt := 28) dX6_addLine_24 (by decide) hc3 ?_
        refine zr_iload_n (x := (x1 - (1 : Int32))) dX6_addLine_28 rfl rfl ?_
        refine zr_bipush (v := (12 : Int32)) dX6_addLine_29 (by decide) ?_
        refine zr_imul dX6_addLine_31 ?_
        refine zr_aload_n (v := .inl (some l0)) dX6_addLine_32 rfl rfl ?_
        revert hf; refine zbi (fun x4 e_x4 hf => ?_)
        refine zq_getR kg_104 dX6_addLine_33 e_x4 ?_
        refine zr_iload_n (x := (x1 - (1 : Int32))) dX6_addLine_36 rfl rfl ?_
        revert hf; refine zbi (fun x5 e_x5 hf => ?_)
        refine zq_iald dX6_addLine_37 e_x5 ?_
        refine zr_iadd dX6_addLine_38 ?_
        refine zq_istore (x := (((x1 - (1 : Int32)) * (12 : Int32)) + x5)) (L' := [some (zr (some l0)), some (zi l1), some (zi l2), some (zi (x1 - (1 : Int32))), some (zi (((x1 - (1 : Int32)) * (12 : Int32)) + x5))]) dX6_addLine_39 (by decide) rfl ?_
        refine zr_aload_n (v := .inl (some l0)) dX6_addLine_41 rfl rfl ?_
        revert hf; refine zbi (fun x6 e_x6 hf => ?_)
        refine zq_getR kg_105 dX6_addLine_42 e_x6 ?_
        refine zr_iload (x := (((x1 - (1 : Int32)) * (12 : Int32)) + x5)) dX6_addLine_45 rfl ?_
        refine zr_iload_n (x := l1) dX6_addLine_47 rfl rfl ?_
        revert hf; refine zbi (fun h1 e_h1 hf => ?_)
        refine zq_iast dX6_addLine_48 e_h1 ?_
        refine zr_aload_n (v := .inl (some l0)) dX6_addLine_49 rfl rfl ?_
        revert hf; refine zbi (fun x7 e_x7 hf => ?_)
        refine zq_getR kg_108 dX6_addLine_50 e_x7 ?_
        refine zr_iload (x := (((x1 - (1 : Int32)) * (12 : Int32)) + x5)) dX6_addLine_53 rfl ?_
        refine zr_iload_n (x := l2) dX6_addLine_55 rfl rfl ?_
        revert hf; refine zbi (fun h2 e_h2 hf => ?_)
        refine zq_iast dX6_addLine_56 e_h2 ?_
        refine zr_aload_n (v := .inl (some l0)) dX6_addLine_57 rfl rfl ?_
        revert hf; refine zbi (fun x8 e_x8 hf => ?_)
        refine zq_getR kg_104 dX6_addLine_58 e_x8 ?_
        refine zr_iload_n (x := (x1 - (1 : Int32))) dX6_addLine_61 rfl rfl ?_
        refine zr_dup2 dX6_addLine_62 ?_
        revert hf; refine zbi (fun x9 e_x9 hf => ?_)
        refine zq_iald dX6_addLine_63 e_x9 ?_
        refine zr_iconst (v := (1 : Int32)) dX6_addLine_64 (by decide) ?_
        refine zr_iadd dX6_addLine_65 ?_
        revert hf; refine zbi (fun h3 e_h3 hf => ?_)
        refine zq_iast dX6_addLine_66 e_h3 ?_
        cases hf
        exact zr_ret none trivial dX6_addLine_67
      · rw [if_neg hc3] at hf
        refine zr_iclt_f 28 dX6_addLine_24 (by decide) hc3 ?_
        cases hf
        exact zr_ret none trivial dX6_addLine_27
theorem c_X6_addLine {g : zG} (hg : g.2.1.map (fun q => q.2) = zty) {N : Nat} {l0 : Nat} {l1 : Int32} {l2 : Int32} {h : zH} {h' : zH} (hf : f_X6_addLine N l0 l1 l2 h = some h') : zCa g jX6_addLine [zr (some l0), zi l1, zi l2] h none h' :=
  zCa.of hg (by decide +kernel) (Nat.le_of_ble_eq_true rfl) (s_X6_addLine hg N l0 l1 l2 h h' hf)
theorem dX5_readFace_0 : decode cX5_readFace 0 = .ok (.aload_n 0, 1) := by decide +kernel
theorem dX5_readFace_1 : decode cX5_readFace 1 = .ok (.getfield 21, 3) := by decide +kernel
theorem dX5_readFace_4 : decode cX5_readFace 4 = .ok (.invokevirtual 105, 3) := by decide +kernel
theorem dX5_readFace_7 : decode cX5_readFace 7 = .ok (.ifCond .ne 10, 3) := by decide +kernel
theorem dX5_readFace_10 : decode cX5_readFace 10 = .ok (.aload_n 0, 1) := by decide +kernel
theorem dX5_readFace_11 : decode cX5_readFace 11 = .ok (.iconst 3, 1) := by decide +kernel
theorem dX5_readFace_12 : decode cX5_readFace 12 = .ok (.iload_n 1, 1) := by decide +kernel
theorem dX5_readFace_13 : decode cX5_readFace 13 = .ok (.invokevirtual 58, 3) := by decide +kernel
theorem dX5_readFace_16 : decode cX5_readFace 16 = .ok (.ireturn, 1) := by decide +kernel
theorem dX5_readFace_17 : decode cX5_readFace 17 = .ok (.sipush 10001, 3) := by decide +kernel
theorem dX5_readFace_20 : decode cX5_readFace 20 = .ok (.istore_n 2, 1) := by decide +kernel
theorem dX5_readFace_21 : decode cX5_readFace 21 = .ok (.iconst 0, 1) := by decide +kernel
theorem dX5_readFace_22 : decode cX5_readFace 22 = .ok (.istore_n 3, 1) := by decide +kernel
theorem dX5_readFace_23 : decode cX5_readFace 23 = .ok (.iconst 0, 1) := by decide +kernel
theorem dX5_readFace_24 : decode cX5_readFace 24 = .ok (.istore 4, 2) := by decide +kernel
theorem dX5_readFace_26 : decode cX5_readFace 26 = .ok (.iload 4, 2) := by decide +kernel
theorem dX5_readFace_28 : decode cX5_readFace 28 = .ok (.bipush 12, 2) := by decide +kernel
theorem dX5_readFace_30 : decode cX5_readFace 30 = .ok (.if_icmp .ge 78, 3) := by decide +kernel
theorem dX5_readFace_33 : decode cX5_readFace 33 = .ok (.iload 4, 2) := by decide +kernel
theorem dX5_readFace_35 : decode cX5_readFace 35 = .ok (.ifCond .le 12, 3) := by decide +kernel
theorem dX5_readFace_38 : decode cX5_readFace 38 = .ok (.aload_n 0, 1) := by decide +kernel
theorem dX5_readFace_39 : decode cX5_readFace 39 = .ok (.invokevirtual 108, 3) := by decide +kernel
theorem dX5_readFace_42 : decode cX5_readFace 42 = .ok (.ifCond .ne 5, 3) := by decide +kernel
theorem dX5_readFace_45 : decode cX5_readFace 45 = .ok (.iconst 1, 1) := by decide +kernel
theorem dX5_readFace_46 : decode cX5_readFace 46 = .ok (.ireturn, 1) := by decide +kernel
theorem dX5_readFace_47 : decode cX5_readFace 47 = .ok (.aload_n 0, 1) := by decide +kernel
theorem dX5_readFace_48 : decode cX5_readFace 48 = .ok (.iconst 1, 1) := by decide +kernel
theorem dX5_readFace_49 : decode cX5_readFace 49 = .ok (.iload_n 2, 1) := by decide +kernel
theorem dX5_readFace_50 : decode cX5_readFace 50 = .ok (.iconst 1, 1) := by decide +kernel
theorem dX5_readFace_51 : decode cX5_readFace 51 = .ok (.isub, 1) := by decide +kernel
theorem dX5_readFace_52 : decode cX5_readFace 52 = .ok (.invokevirtual 85, 3) := by decide +kernel
theorem dX5_readFace_55 : decode cX5_readFace 55 = .ok (.ifCond .ne 5, 3) := by decide +kernel
theorem dX5_readFace_58 : decode cX5_readFace 58 = .ok (.iconst 0, 1) := by decide +kernel
theorem dX5_readFace_59 : decode cX5_readFace 59 = .ok (.ireturn, 1) := by decide +kernel
theorem dX5_readFace_60 : decode cX5_readFace 60 = .ok (.aload_n 0, 1) := by decide +kernel
theorem dX5_readFace_61 : decode cX5_readFace 61 = .ok (.getfield 29, 3) := by decide +kernel
theorem dX5_readFace_64 : decode cX5_readFace 64 = .ok (.istore_n 2, 1) := by decide +kernel
theorem dX5_readFace_65 : decode cX5_readFace 65 = .ok (.aload_n 0, 1) := by decide +kernel
theorem dX5_readFace_66 : decode cX5_readFace 66 = .ok (.bipush 58, 2) := by decide +kernel
theorem dX5_readFace_68 : decode cX5_readFace 68 = .ok (.invokevirtual 51, 3) := by decide +kernel
theorem dX5_readFace_71 : decode cX5_readFace 71 = .ok (.ifCond .eq 15, 3) := by decide +kernel
theorem dX5_readFace_74 : decode cX5_readFace 74 = .ok (.aload_n 0, 1) := by decide +kernel
theorem dX5_readFace_75 : decode cX5_readFace 75 = .ok (.iload_n 3, 1) := by decide +kernel
theorem dX5_readFace_76 : decode cX5_readFace 76 = .ok (.iconst 1, 1) := by decide +kernel
theorem dX5_readFace_77 : decode cX5_readFace 77 = .ok (.iadd, 1) := by decide +kernel
theorem dX5_readFace_78 : decode cX5_readFace 78 = .ok (.bipush 20, 2) := by decide +kernel
theorem dX5_readFace_80 : decode cX5_readFace 80 = .ok (.invokevirtual 85, 3) := by decide +kernel
theorem dX5_readFace_83 : decode cX5_readFace 83 = .ok (.ifCond .ne 5, 3) := by decide +kernel
theorem dX5_readFace_86 : decode cX5_readFace 86 = .ok (.iconst 0, 1) := by decide +kernel
theorem dX5_readFace_87 : decode cX5_readFace 87 = .ok (.ireturn, 1) := by decide +kernel
theorem dX5_readFace_88 : decode cX5_readFace 88 = .ok (.aload_n 0, 1) := by decide +kernel
theorem dX5_readFace_89 : decode cX5_readFace 89 = .ok (.getfield 29, 3) := by decide +kernel
theorem dX5_readFace_92 : decode cX5_readFace 92 = .ok (.istore_n 3, 1) := by decide +kernel
theorem dX5_readFace_93 : decode cX5_readFace 93 = .ok (.aload_n 0, 1) := by decide +kernel
theorem dX5_readFace_94 : decode cX5_readFace 94 = .ok (.getfield 21, 3) := by decide +kernel
theorem dX5_readFace_97 : decode cX5_readFace 97 = .ok (.iload_n 2, 1) := by decide +kernel
theorem dX5_readFace_98 : decode cX5_readFace 98 = .ok (.iload_n 3, 1) := by decide +kernel
theorem dX5_readFace_99 : decode cX5_readFace 99 = .ok (.invokevirtual 111, 3) := by decide +kernel
theorem dX5_readFace_102 : decode cX5_readFace 102 = .ok (.iinc 4 1, 3) := by decide +kernel
theorem dX5_readFace_105 : decode cX5_readFace 105 = .ok (.goto (-79), 3) := by decide +kernel
theorem dX5_readFace_108 : decode cX5_readFace 108 = .ok (.aload_n 0, 1) := by decide +kernel
theorem dX5_readFace_109 : decode cX5_readFace 109 = .ok (.invokevirtual 108, 3) := by decide +kernel
theorem dX5_readFace_112 : decode cX5_readFace 112 = .ok (.ifCond .eq 15, 3) := by decide +kernel
theorem dX5_readFace_115 : decode cX5_readFace 115 = .ok (.aload_n 0, 1) := by decide +kernel
theorem dX5_readFace_116 : decode cX5_readFace 116 = .ok (.iconst 3, 1) := by decide +kernel
theorem dX5_readFace_117 : decode cX5_readFace 117 = .ok (.aload_n 0, 1) := by decide +kernel
theorem dX5_readFace_118 : decode cX5_readFace 118 = .ok (.getfield 25, 3) := by decide +kernel
theorem dX5_readFace_121 : decode cX5_readFace 121 = .ok (.invokevirtual 58, 3) := by decide +kernel
theorem dX5_readFace_124 : decode cX5_readFace 124 = .ok (.ifCond .eq 7, 3) := by decide +kernel
theorem dX5_readFace_127 : decode cX5_readFace 127 = .ok (.iconst 1, 1) := by decide +kernel
theorem dX5_readFace_128 : decode cX5_readFace 128 = .ok (.goto 4, 3) := by decide +kernel
theorem dX5_readFace_131 : decode cX5_readFace 131 = .ok (.iconst 0, 1) := by decide +kernel
theorem dX5_readFace_132 : decode cX5_readFace 132 = .ok (.ireturn, 1) := by decide +kernel
def f_X5_readFace_47 (N : Nat) (k26 : Nat → Int32 → Int32 → Int32 → zH → Option (Int32 × zH)) (l0 : Nat) (l2 : Int32) (l3 : Int32) (l4 : Int32) (h : zH) : Option (Int32 × zH) := (zck h 5 (some l0)).bind fun q1 => zb2 (f_X5_readNumber N q1 (1 : Int32) (l2 - (1 : Int32)) h) fun x1 h1 => if x1 = 0 then some ((0 : Int32), h1) else (zgI h1 5 (some l0) 3).bind fun x2 => (zck h1 5 (some l0)).bind fun q2 => zb2 (f_X5_readSign N q2 (58 : Int32) h1) fun x3 h2 => if x3 = 0 then some ((0 : Int32), h2) else (zck h2 5 (some l0)).bind fun q3 => zb2 (f_X5_readNumber N q3 (l3 + (1 : Int32)) (20 : Int32) h2) fun x4 h3 => if x4 = 0 then some ((0 : Int32), h3) else (zgI h3 5 (some l0) 3).bind fun x5 => (zgR h3 5 (some l0) 1).bind fun x6 => (zck h3 6 x6).bind fun q4 => (f_X6_addLine N q4 x2 x5 h3).bind fun h4 => k26 l0 x2 x5 (l4 + (1 : Int32)) h4
set_option maxHeartbeats 4000000 in
set_option maxRecDepth 100000 in
theorem s_X5_readFace_47 {g : zG} (hg : g.2.1.map (fun q => q.2) = zty) {h0 : zH} (N : Nat) (k26 : Nat → Int32 → Int32 → Int32 → zH → Option (Int32 × zH)) (hk26 : ∀ (l0 : Nat) (l2 : Int32) (l3 : Int32) (l4 : Int32) (h : zH) (r : Int32) (h' : zH), k26 l0 l2 l3 l4 h = some (r, h') → zR g jX5_readFace h0 26 [some (zr (some l0)), none, some (zi l2), some (zi l3), some (zi l4)] [] h (some (zi r)) h') (l0 : Nat) (l2 : Int32) (l3 : Int32) (l4 : Int32) (h : zH) (r : Int32) (h' : zH) (hf : f_X5_readFace_47 N k26 l0 l2 l3 l4 h = some (r, h')) : zR g jX5_readFace h0 47 [some (zr (some l0)), none, some (zi l2), some (zi l3), some (zi l4)] [] h (some (zi r)) h' := by
  unfold f_X5_readFace_47 at hf
  refine zr_aload_n (v := .inl (some l0)) dX5_readFace_47 rfl rfl ?_
  refine zr_iconst (v := (1 : Int32)) dX5_readFace_48 (by decide) ?_
  refine zr_iload_n (x := l2) dX5_readFace_49 rfl rfl ?_
  refine zr_iconst (v := (1 : Int32)) dX5_readFace_50 (by decide) ?_
  refine zr_isub dX5_readFace_51 ?_
  revert hf; refine zbi (fun q1 e_q1 hf => ?_)
  revert hf; refine zbi2 (fun x1 h1 e_x1 hf => ?_)
  refine zq_callV (J' := jX5_readNumber) (as := [zi (1 : Int32), zi (l2 - (1 : Int32))]) (rest := []) (r1 := (some (zi x1))) (q := (RX5, TX5, 7)) kw_231 km_X5_readNumber kt_183 dX5_readFace_52 rfl (Nat.le_of_ble_eq_true rfl) rfl rfl e_q1 rfl (c_X5_readNumber hg e_x1) ?_
  by_cases hc1 : x1 = 0
  · rw [if_pos hc1] at hf
    refine zr_ifne_f 60 dX5_readFace_55 (by decide) hc1 ?_
    refine zr_iconst (v := (0 : Int32)) dX5_readFace_58 (by decide) ?_
    cases hf
    exact zr_ret _ rfl dX5_readFace_59
  · rw [if_neg hc1] at hf
    refine zr_ifne_t (tgt := 60) dX5_readFace_55 (by decide) hc1 ?_
    refine zr_aload_n (v := .inl (some l0)) dX5_readFace_60 rfl rfl ?_
    revert hf; refine zbi (fun x2 e_x2 hf => ?_)
    refine zq_getI kg_173 dX5_readFace_61 e_x2 ?_
    refine zq_istore_n (x := x2) (L' := [some (zr (some l0)), none, some (zi x2), some (zi l3), some (zi l4)]) dX5_readFace_64 rfl (by decide) rfl ?_
    refine zr_aload_n (v := .inl (some l0)) dX5_readFace_65 rfl rfl ?_
    refine zr_bipush (v := (58 : Int32)) dX5_readFace_66 (by decide) ?_
    revert hf; refine zbi (fun q2 e_q2 hf => ?_)
    revert hf; refine zbi2 (fun x3 h2 e_x3 hf => ?_)
    refine zq_callV (J' := jX5_readSign) (as := [zi (58 : Int32)]) (rest := []) (r1 := (some (zi x3))) (q := (RX5, TX5, 7)) kw_235 km_X5_readSign kt_185 dX5_readFace_68 rfl (Nat.le_of_ble_eq_true rfl) rfl rfl e_q2 rfl (c_X5_readSign hg e_x3) ?_
    by_cases hc2 : x3 = 0
    · rw [if_pos hc2] at hf
      refine zr_ifeq_t (tgt := 86) dX5_readFace_71 (by decide) hc2 ?_
      refine zr_iconst (v := (0 : Int32)) dX5_readFace_86 (by decide) ?_
      cases hf
      exact zr_ret _ rfl dX5_readFace_87
    · rw [if_neg hc2] at hf
      refine zr_ifeq_f 86 dX5_readFace_71 (by decide) hc2 ?_
      refine zr_aload_n (v := .inl (some l0)) dX5_readFace_74 rfl rfl ?_
      refine zr_iload_n (x := l3) dX5_readFace_75 rfl rfl ?_
      refine zr_iconst (v := (1 : Int32)) dX5_readFace_76 (by decide) ?_
      refine zr_iadd dX5_readFace_77 ?_
      refine zr_bipush (v := (20 : Int32)) dX5_readFace_78 (by decide) ?_
      revert hf; refine zbi (fun q3 e_q3 hf => ?_)
      revert hf; refine zbi2 (fun x4 h3 e_x4 hf => ?_)
      refine zq_callV (J' := jX5_readNumber) (as := [zi (l3 + (1 : Int32)), zi (20 : Int32)]) (rest := []) (r1 := (some (zi x4))) (q := (RX5, TX5, 7)) kw_231 km_X5_readNumber kt_183 dX5_readFace_80 rfl (Nat.le_of_ble_eq_true rfl) rfl rfl e_q3 rfl (c_X5_readNumber hg e_x4) ?_
      by_cases hc3 : x4 = 0
      · rw [if_pos hc3] at hf
        refine zr_ifne_f 88 dX5_readFace_83 (by decide) hc3 ?_
        refine zr_iconst (v := (0 : Int32)) dX5_readFace_86 (by decide) ?_
        cases hf
        exact zr_ret _ rfl dX5_readFace_87
      · rw [if_neg hc3] at hf
        refine zr_ifne_t (tgt := 88) dX5_readFace_83 (by decide) hc3 ?_
        refine zr_aload_n (v := .inl (some l0)) dX5_readFace_88 rfl rfl ?_
        revert hf; refine zbi (fun x5 e_x5 hf => ?_)
        refine zq_getI kg_173 dX5_readFace_89 e_x5 ?_
        refine zq_istore_n (x := x5) (L' := [some (zr (some l0)), none, some (zi x2), some (zi x5), some (zi l4)]) dX5_readFace_92 rfl (by decide) rfl ?_
        refine zr_aload_n (v := .inl (some l0)) dX5_readFace_93 rfl rfl ?_
        revert hf; refine zbi (fun x6 e_x6 hf => ?_)
        refine zq_getR kg_186 dX5_readFace_94 e_x6 ?_
        refine zr_iload_n (x := x2) dX5_readFace_97 rfl rfl ?_
        refine zr_iload_n (x := x5) dX5_readFace_98 rfl rfl ?_
        revert hf; refine zbi (fun q4 e_q4 hf => ?_)
        revert hf; refine zbi (fun h4 e_h4 hf => ?_)
        refine zq_callV (J' := jX6_addLine) (as := [zi x2, zi x5]) (rest := []) (r1 := none) (q := (RX6, TX6, 11)) kw_239 km_X6_addLine kt_188 dX5_readFace_99 rfl (Nat.le_of_ble_eq_true rfl) rfl rfl e_q4 rfl (c_X6_addLine hg e_h4) ?_
        refine zq_iinc (x := l4) (y := (1 : Int32)) (L' := [some (zr (some l0)), none, some (zi x2), some (zi x5), some (zi (l4 + (1 : Int32)))]) dX5_readFace_102 rfl (by decide) (by decide) rfl ?_
        refine zr_goto (tgt := 26) dX5_readFace_105 (by decide) ?_
        exact hk26 l0 x2 x5 (l4 + (1 : Int32)) h4 r h' hf
def f_X5_readFace_26 (N : Nat) : Nat → Nat → Int32 → Int32 → Int32 → zH → Option (Int32 × zH)
  | 0, _, _, _, _, _ => none
  | n + 1, l0, l2, l3, l4, h => if (12 : Int32) ≤ l4 then (zck h 5 (some l0)).bind fun q1 => zb2 (f_X5_isDigitNext N q1 h) fun x1 h1 => if x1 = 0 then some ((1 : Int32), h1) else (zgI h1 5 (some l0) 2).bind fun x2 => (zck h1 5 (some l0)).bind fun q2 => zb2 (f_X5_refuse N q2 (3 : Int32) x2 h1) fun x3 h2 => if x3 = 0 then some ((0 : Int32), h2) else some ((1 : Int32), h2) else if l4 ≤ 0 then f_X5_readFace_47 N (fun l0 l2 l3 l4 h => f_X5_readFace_26 N n l0 l2 l3 l4 h) l0 l2 l3 l4 h else (zck h 5 (some l0)).bind fun q3 => zb2 (f_X5_isDigitNext N q3 h) fun x4 h3 => if x4 = 0 then some ((1 : Int32), h3) else f_X5_readFace_47 N (fun l0 l2 l3 l4 h => f_X5_readFace_26 N n l0 l2 l3 l4 h) l0 l2 l3 l4 h3
set_option maxHeartbeats 4000000 in
set_option maxRecDepth 100000 in
theorem s_X5_readFace_26 {g : zG} (hg : g.2.1.map (fun q => q.2) = zty) {h0 : zH} (N : Nat) : ∀ (n : Nat) (l0 : Nat) (l2 : Int32) (l3 : Int32) (l4 : Int32) (h : zH) (r : Int32) (h' : zH), f_X5_readFace_26 N n l0 l2 l3 l4 h = some (r, h') → zR g jX5_readFace h0 26 [some (zr (some l0)), none, some (zi l2), some (zi l3), some (zi l4)] [] h (some (zi r)) h' := by
  intro n
  induction n with
  | zero =>
    intro l0 l2 l3 l4 h r h' hf
    cases hf
  | succ n ih =>
    intro l0 l2 l3 l4 h r h' hf
    rw [f_X5_readFace_26] at hf
    refine zr_iload (x := l4) dX5_readFace_26 rfl ?_
    refine zr_bipush (v := (12 : Int32)) dX5_readFace_28 (by decide) ?_
    by_cases hc1 : (12 : Int32) ≤ l4
    · rw [if_pos hc1] at hf
      refine zr_icge_t (tgt := 108) dX5_readFace_30 (by decide) hc1 ?_
      refine zr_aload_n (v := .inl (some l0)) dX5_readFace_108 rfl rfl ?_
      revert hf; refine zbi (fun q1 e_q1 hf => ?_)
      revert hf; refine zbi2 (fun x1 h1 e_x1 hf => ?_)
      refine zq_callV (J' := jX5_isDigitNext) (as := []) (rest := []) (r1 := (some (zi x1))) (q := (RX5, TX5, 7)) kw_243 km_X5_isDigitNext kt_190 dX5_readFace_109 rfl (Nat.le_of_ble_eq_true rfl) rfl rfl e_q1 rfl (c_X5_isDigitNext hg e_x1) ?_
      by_cases hc2 : x1 = 0
      · rw [if_pos hc2] at hf
        refine zr_ifeq_t (tgt := 127) dX5_readFace_112 (by decide) hc2 ?_
        refine zr_iconst (v := (1 : Int32)) dX5_readFace_127 (by decide) ?_
        refine zr_goto (tgt := 132) dX5_readFace_128 (by decide) ?_
        cases hf
        exact zr_ret _ rfl dX5_readFace_132
      · rw [if_neg hc2] at hf
        refine zr_ifeq_f 127 dX5_readFace_112 (by decide) hc2 ?_
        refine zr_aload_n (v := .inl (some l0)) dX5_readFace_115 rfl rfl ?_
        refine zr_iconst (v := (3 : Int32)) dX5_readFace_116 (by decide) ?_
        refine zr_aload_n (v := .inl (some l0)) dX5_readFace_117 rfl rfl ?_
        revert hf; refine zbi (fun x2 e_x2 hf => ?_)
        refine zq_getI kg_148 dX5_readFace_118 e_x2 ?_
        revert hf; refine zbi (fun q2 e_q2 hf => ?_)
        revert hf; refine zbi2 (fun x3 h2 e_x3 hf => ?_)
        refine zq_callV (J' := jX5_refuse) (as := [zi (3 : Int32), zi x2]) (rest := []) (r1 := (some (zi x3))) (q := (RX5, TX5, 7)) kw_227 km_X5_refuse kt_191 dX5_readFace_121 rfl (Nat.le_of_ble_eq_true rfl) rfl rfl e_q2 rfl (c_X5_refuse hg e_x3) ?_
        by_cases hc3 : x3 = 0
        · rw [if_pos hc3] at hf
          refine zr_ifeq_t (tgt := 131) dX5_readFace_124 (by decide) hc3 ?_
          refine zr_iconst (v := (0 : Int32)) dX5_readFace_131 (by decide) ?_
          cases hf
          exact zr_ret _ rfl dX5_readFace_132
        · rw [if_neg hc3] at hf
          refine zr_ifeq_f 131 dX5_readFace_124 (by decide) hc3 ?_
          refine zr_iconst (v := (1 : Int32)) dX5_readFace_127 (by decide) ?_
          refine zr_goto (tgt := 132) dX5_readFace_128 (by decide) ?_
          cases hf
          exact zr_ret _ rfl dX5_readFace_132
    · rw [if_neg hc1] at hf
      refine zr_icge_f 108 dX5_readFace_30 (by decide) hc1 ?_
      refine zr_iload (x := l4) dX5_readFace_33 rfl ?_
      by_cases hc4 : l4 ≤ 0
      · rw [if_pos hc4] at hf
        refine zr_ifle_t (tgt := 47) dX5_readFace_35 (by decide) hc4 ?_
        exact s_X5_readFace_47 hg N _ ih l0 l2 l3 l4 h r h' hf
      · rw [if_neg hc4] at hf
        refine zr_ifle_f 47 dX5_readFace_35 (by decide) hc4 ?_
        refine zr_aload_n (v := .inl (some l0)) dX5_readFace_38 rfl rfl ?_
        revert hf; refine zbi (fun q3 e_q3 hf => ?_)
        revert hf; refine zbi2 (fun x4 h3 e_x4 hf => ?_)
        refine zq_callV (J' := jX5_isDigitNext) (as := []) (rest := []) (r1 := (some (zi x4))) (q := (RX5, TX5, 7)) kw_243 km_X5_isDigitNext kt_190 dX5_readFace_39 rfl (Nat.le_of_ble_eq_true rfl) rfl rfl e_q3 rfl (c_X5_isDigitNext hg e_x4) ?_
        by_cases hc5 : x4 = 0
        · rw [if_pos hc5] at hf
          refine zr_ifne_f 47 dX5_readFace_42 (by decide) hc5 ?_
          refine zr_iconst (v := (1 : Int32)) dX5_readFace_45 (by decide) ?_
          cases hf
          exact zr_ret _ rfl dX5_readFace_46
        · rw [if_neg hc5] at hf
          refine zr_ifne_t (tgt := 47) dX5_readFace_42 (by decide) hc5 ?_
          exact s_X5_readFace_47 hg N _ ih l0 l2 l3 l4 h3 r h' hf
def f_X5_readFace (N : Nat) (l0 : Nat) (l1 : Int32) (h : zH) : Option (Int32 × zH) := (zgR h 5 (some l0) 1).bind fun x1 => (zck h 6 x1).bind fun q1 => zb2 (f_X6_addFace N q1 h) fun x2 h1 => if x2 = 0 then (zck h1 5 (some l0)).bind fun q2 => zb2 (f_X5_refuse N q2 (3 : Int32) l1 h1) fun x3 h2 => if x3 = 0 ∨ x3 = 1 then some (x3, h2) else none else f_X5_readFace_26 N N l0 (10001 : Int32) (0 : Int32) (0 : Int32) h1
set_option maxHeartbeats 4000000 in
set_option maxRecDepth 100000 in
theorem s_X5_readFace {g : zG} (hg : g.2.1.map (fun q => q.2) = zty) {h0 : zH} (N : Nat) (l0 : Nat) (l1 : Int32) (h : zH) (r : Int32) (h' : zH) (hf : f_X5_readFace N l0 l1 h = some (r, h')) : zR g jX5_readFace h0 0 [some (zr (some l0)), some (zi l1), none, none, none] [] h (some (zi r)) h' := by
  unfold f_X5_readFace at hf
  refine zr_aload_n (v := .inl (some l0)) dX5_readFace_0 rfl rfl ?_
  revert hf; refine zbi (fun x1 e_x1 hf => ?_)
  refine zq_getR kg_186 dX5_readFace_1 e_x1 ?_
  revert hf; refine zbi (fun q1 e_q1 hf => ?_)
  revert hf; refine zbi2 (fun x2 h1 e_x2 hf => ?_)
  refine zq_callV (J' := jX6_addFace) (as := []) (rest := []) (r1 := (some (zi x2))) (q := (RX6, TX6, 11)) kw_247 km_X6_addFace kt_193 dX5_readFace_4 rfl (Nat.le_of_ble_eq_true rfl) rfl rfl e_q1 rfl (c_X6_addFace hg e_x2) ?_
  by_cases hc1 : x2 = 0
  · rw [if_pos hc1] at hf
    refine zr_ifne_f 17 dX5_readFace_7 (by decide) hc1 ?_
    refine zr_aload_n (v := .inl (some l0)) dX5_readFace_10 rfl rfl ?_
    refine zr_iconst (v := (3 : Int32)) dX5_readFace_11 (by decide) ?_
    refine zr_iload_n (x := l1) dX5_readFace_12 rfl rfl ?_
    revert hf; refine zbi (fun q2 e_q2 hf => ?_)
    revert hf; refine zbi2 (fun x3 h2 e_x3 hf => ?_)
    refine zq_callV (J' := jX5_refuse) (as := [zi (3 : Int32), zi l1]) (rest := []) (r1 := (some (zi x3))) (q := (RX5, TX5, 7)) kw_227 km_X5_refuse kt_191 dX5_readFace_13 rfl (Nat.le_of_ble_eq_true rfl) rfl rfl e_q2 rfl (c_X5_refuse hg e_x3) ?_
    by_cases hc2 : x3 = 0 ∨ x3 = 1
    · rw [if_pos hc2] at hf
      cases hf
      exact zr_ret _ (zok_b hc2) dX5_readFace_16
    · rw [if_neg hc2] at hf
      cases hf
  · rw [if_neg hc1] at hf
    refine zr_ifne_t (tgt := 17) dX5_readFace_7 (by decide) hc1 ?_
    refine zr_sipush (v := (10001 : Int32)) dX5_readFace_17 (by decide) ?_
    refine zq_istore_n (x := (10001 : Int32)) (L' := [some (zr (some l0)), some (zi l1), some (zi (10001 : Int32)), none, none]) dX5_readFace_20 rfl (by decide) rfl ?_
    refine zr_iconst (v := (0 : Int32)) dX5_readFace_21 (by decide) ?_
    refine zq_istore_n (x := (0 : Int32)) (L' := [some (zr (some l0)), some (zi l1), some (zi (10001 : Int32)), some (zi (0 : Int32)), none]) dX5_readFace_22 rfl (by decide) rfl ?_
    refine zr_iconst (v := (0 : Int32)) dX5_readFace_23 (by decide) ?_
    refine zq_istore (x := (0 : Int32)) (L' := [some (zr (some l0)), some (zi l1), some (zi (10001 : Int32)), some (zi (0 : Int32)), some (zi (0 : Int32))]) dX5_readFace_24 (by decide) rfl ?_
    refine zr_forget 1 (L' := [some (zr (some l0)), none, some (zi (10001 : Int32)), some (zi (0 : Int32)), some (zi (0 : Int32))]) rfl ?_
    exact s_X5_readFace_26 hg N N l0 (10001 : Int32) (0 : Int32) (0 : Int32) h1 r h' hf
theorem c_X5_readFace {g : zG} (hg : g.2.1.map (fun q => q.2) = zty) {N : Nat} {l0 : Nat} {l1 : Int32} {h : zH} {r : Int32} {h' : zH} (hf : f_X5_readFace N l0 l1 h = some (r, h')) : zCa g jX5_readFace [zr (some l0), zi l1] h (some (zi r)) h' :=
  zCa.of hg (by decide +kernel) (Nat.le_of_ble_eq_true rfl) (s_X5_readFace hg N l0 l1 h r h' hf)
theorem dX6_addLeg_0 : decode cX6_addLeg 0 = .ok (.aload_n 0, 1) := by decide +kernel
theorem dX6_addLeg_1 : decode cX6_addLeg 1 = .ok (.getfield 25, 3) := by decide +kernel
theorem dX6_addLeg_4 : decode cX6_addLeg 4 = .ok (.iconst 4, 1) := by decide +kernel
theorem dX6_addLeg_5 : decode cX6_addLeg 5 = .ok (.if_icmp .ge 15, 3) := by decide +kernel
theorem dX6_addLeg_8 : decode cX6_addLeg 8 = .ok (.iload_n 3, 1) := by decide +kernel
theorem dX6_addLeg_9 : decode cX6_addLeg 9 = .ok (.ifCond .lt 11, 3) := by decide +kernel
theorem dX6_addLeg_12 : decode cX6_addLeg 12 = .ok (.iload_n 3, 1) := by decide +kernel
theorem dX6_addLeg_13 : decode cX6_addLeg 13 = .ok (.aload_n 0, 1) := by decide +kernel
theorem dX6_addLeg_14 : decode cX6_addLeg 14 = .ok (.getfield 9, 3) := by decide +kernel
theorem dX6_addLeg_17 : decode cX6_addLeg 17 = .ok (.if_icmp .lt 5, 3) := by decide +kernel
theorem dX6_addLeg_20 : decode cX6_addLeg 20 = .ok (.iconst 0, 1) := by decide +kernel
theorem dX6_addLeg_21 : decode cX6_addLeg 21 = .ok (.ireturn, 1) := by decide +kernel
theorem dX6_addLeg_22 : decode cX6_addLeg 22 = .ok (.aload_n 0, 1) := by decide +kernel
theorem dX6_addLeg_23 : decode cX6_addLeg 23 = .ok (.getfield 28, 3) := by decide +kernel
theorem dX6_addLeg_26 : decode cX6_addLeg 26 = .ok (.aload_n 0, 1) := by decide +kernel
theorem dX6_addLeg_27 : decode cX6_addLeg 27 = .ok (.getfield 25, 3) := by decide +kernel
theorem dX6_addLeg_30 : decode cX6_addLeg 30 = .ok (.iload_n 1, 1) := by decide +kernel
theorem dX6_addLeg_31 : decode cX6_addLeg 31 = .ok (.iastore, 1) := by decide +kernel
theorem dX6_addLeg_32 : decode cX6_addLeg 32 = .ok (.aload_n 0, 1) := by decide +kernel
theorem dX6_addLeg_33 : decode cX6_addLeg 33 = .ok (.getfield 31, 3) := by decide +kernel
theorem dX6_addLeg_36 : decode cX6_addLeg 36 = .ok (.aload_n 0, 1) := by decide +kernel
theorem dX6_addLeg_37 : decode cX6_addLeg 37 = .ok (.getfield 25, 3) := by decide +kernel
theorem dX6_addLeg_40 : decode cX6_addLeg 40 = .ok (.iload_n 2, 1) := by decide +kernel
theorem dX6_addLeg_41 : decode cX6_addLeg 41 = .ok (.iastore, 1) := by decide +kernel
theorem dX6_addLeg_42 : decode cX6_addLeg 42 = .ok (.aload_n 0, 1) := by decide +kernel
theorem dX6_addLeg_43 : decode cX6_addLeg 43 = .ok (.getfield 34, 3) := by decide +kernel
theorem dX6_addLeg_46 : decode cX6_addLeg 46 = .ok (.aload_n 0, 1) := by decide +kernel
theorem dX6_addLeg_47 : decode cX6_addLeg 47 = .ok (.getfield 25, 3) := by decide +kernel
theorem dX6_addLeg_50 : decode cX6_addLeg 50 = .ok (.iload_n 3, 1) := by decide +kernel
theorem dX6_addLeg_51 : decode cX6_addLeg 51 = .ok (.iastore, 1) := by decide +kernel
theorem dX6_addLeg_52 : decode cX6_addLeg 52 = .ok (.aload_n 0, 1) := by decide +kernel
theorem dX6_addLeg_53 : decode cX6_addLeg 53 = .ok (.dup, 1) := by decide +kernel
theorem dX6_addLeg_54 : decode cX6_addLeg 54 = .ok (.getfield 25, 3) := by decide +kernel
theorem dX6_addLeg_57 : decode cX6_addLeg 57 = .ok (.iconst 1, 1) := by decide +kernel
theorem dX6_addLeg_58 : decode cX6_addLeg 58 = .ok (.iadd, 1) := by decide +kernel
theorem dX6_addLeg_59 : decode cX6_addLeg 59 = .ok (.putfield 25, 3) := by decide +kernel
theorem dX6_addLeg_62 : decode cX6_addLeg 62 = .ok (.iconst 1, 1) := by decide +kernel
theorem dX6_addLeg_63 : decode cX6_addLeg 63 = .ok (.ireturn, 1) := by decide +kernel
def f_X6_addLeg (N : Nat) (l0 : Nat) (l1 : Int32) (l2 : Int32) (l3 : Int32) (h : zH) : Option (Int32 × zH) := (zgI h 6 (some l0) 4).bind fun x1 => if (4 : Int32) ≤ x1 then some ((0 : Int32), h) else if l3 < 0 then some ((0 : Int32), h) else (zgI h 6 (some l0) 0).bind fun x2 => if l3 < x2 then (zgR h 6 (some l0) 5).bind fun x3 => (zgI h 6 (some l0) 4).bind fun x4 => (zst h 0 x3 x4 l1).bind fun h1 => (zgR h1 6 (some l0) 6).bind fun x5 => (zgI h1 6 (some l0) 4).bind fun x6 => (zst h1 0 x5 x6 l2).bind fun h2 => (zgR h2 6 (some l0) 7).bind fun x7 => (zgI h2 6 (some l0) 4).bind fun x8 => (zst h2 0 x7 x8 l3).bind fun h3 => (zgI h3 6 (some l0) 4).bind fun x9 => (zpu h3 6 (some l0) 4 (zi (x9 + (1 : Int32)))).bind fun h4 => some ((1 : Int32), h4) else some ((0 : Int32), h)
set_option maxHeartbeats 4000000 in
set_option maxRecDepth 100000 in
theorem s_X6_addLeg {g : zG} (hg : g.2.1.map (fun q => q.2) = zty) {h0 : zH} (N : Nat) (l0 : Nat) (l1 : Int32) (l2 : Int32) (l3 : Int32) (h : zH) (r : Int32) (h' : zH) (hf : f_X6_addLeg N l0 l1 l2 l3 h = some (r, h')) : zR g jX6_addLeg h0 0 [some (zr (some l0)), some (zi l1), some (zi l2), some (zi l3)] [] h (some (zi r)) h' := by
  unfold f_X6_addLeg at hf
  refine zr_aload_n (v := .inl (some l0)) dX6_addLeg_0 rfl rfl ?_
  revert hf; refine zbi (fun x1 e_x1 hf => ?_)
  refine zq_getI kg_110 dX6_addLeg_1 e_x1 ?_
  refine zr_iconst (v := (4 : Int32)) dX6_addLeg_4 (by decide) ?_
  by_cases hc1 : (4 : Int32) ≤ x1
  · rw [if_pos hc1] at hf
    refine zr_icge_t (tgt := 20) dX6_addLeg_5 (by decide) hc1 ?_
    refine zr_iconst (v := (0 : Int32)) dX6_addLeg_20 (by decide) ?_
    cases hf
    exact zr_ret _ rfl dX6_addLeg_21
  · rw [if_neg hc1] at hf
    refine zr_icge_f 20 dX6_addLeg_5 (by decide) hc1 ?_
    refine zr_iload_n (x := l3) dX6_addLeg_8 rfl rfl ?_
    by_cases hc2 : l3 < 0
    · rw [if_pos hc2] at hf
      refine zr_iflt_t (tgt := 20) dX6_addLeg_9 (by decide) hc2 ?_
      refine zr_iconst (v := (0 : Int32)) dX6_addLeg_20 (by decide) ?_
      cases hf
      exact zr_ret _ rfl dX6_addLeg_21
    · rw [if_neg hc2] at hf
      refine zr_iflt_f 20 dX6_addLeg_9 (by decide) hc2 ?_
      refine zr_iload_n (x := l3) dX6_addLeg_12 rfl rfl ?_
      refine zr_aload_n (v := .inl (some l0)) dX6_addLeg_13 rfl rfl ?_
      revert hf; refine zbi (fun x2 e_x2 hf => ?_)
      refine zq_getI kg_109 dX6_addLeg_14 e_x2 ?_
      by_cases hc3 : l3 < x2
      · rw [if_pos hc3] at hf
        refine zr_iclt_t (tgt := 22) dX6_addLeg_17 (by decide) hc3 ?_
        refine zr_aload_n (v := .inl (some l0)) dX6_addLeg_22 rfl rfl ?_
        revert hf; refine zbi (fun x3 e_x3 hf => ?_)
        refine zq_getR kg_194 dX6_addLeg_23 e_x3 ?_
        refine zr_aload_n (v := .inl (some l0)) dX6_addLeg_26 rfl rfl ?_
        revert hf; refine zbi (fun x4 e_x4 hf => ?_)
        refine zq_getI kg_110 dX6_addLeg_27 e_x4 ?_
        refine zr_iload_n (x := l1) dX6_addLeg_30 rfl rfl ?_
        revert hf; refine zbi (fun h1 e_h1 hf => ?_)
        refine zq_iast dX6_addLeg_31 e_h1 ?_
        refine zr_aload_n (v := .inl (some l0)) dX6_addLeg_32 rfl rfl ?_
        revert hf; refine zbi (fun x5 e_x5 hf => ?_)
        refine zq_getR kg_195 dX6_addLeg_33 e_x5 ?_
        refine zr_aload_n (v := .inl (some l0)) dX6_addLeg_36 rfl rfl ?_
        revert hf; refine zbi (fun x6 e_x6 hf => ?_)
        refine zq_getI kg_110 dX6_addLeg_37 e_x6 ?_
        refine zr_iload_n (x := l2) dX6_addLeg_40 rfl rfl ?_
        revert hf; refine zbi (fun h2 e_h2 hf => ?_)
        refine zq_iast dX6_addLeg_41 e_h2 ?_
        refine zr_aload_n (v := .inl (some l0)) dX6_addLeg_42 rfl rfl ?_
        revert hf; refine zbi (fun x7 e_x7 hf => ?_)
        refine zq_getR kg_111 dX6_addLeg_43 e_x7 ?_
        refine zr_aload_n (v := .inl (some l0)) dX6_addLeg_46 rfl rfl ?_
        revert hf; refine zbi (fun x8 e_x8 hf => ?_)
        refine zq_getI kg_110 dX6_addLeg_47 e_x8 ?_
        refine zr_iload_n (x := l3) dX6_addLeg_50 rfl rfl ?_
        revert hf; refine zbi (fun h3 e_h3 hf => ?_)
        refine zq_iast dX6_addLeg_51 e_h3 ?_
        refine zr_aload_n (v := .inl (some l0)) dX6_addLeg_52 rfl rfl ?_
        refine zr_dup dX6_addLeg_53 ?_
        revert hf; refine zbi (fun x9 e_x9 hf => ?_)
        refine zq_getI kg_110 dX6_addLeg_54 e_x9 ?_
        refine zr_iconst (v := (1 : Int32)) dX6_addLeg_57 (by decide) ?_
        refine zr_iadd dX6_addLeg_58 ?_
        revert hf; refine zbi (fun h4 e_h4 hf => ?_)
        refine zq_put (kp_196 _) dX6_addLeg_59 (zn_i _) e_h4 ?_
        refine zr_iconst (v := (1 : Int32)) dX6_addLeg_62 (by decide) ?_
        cases hf
        exact zr_ret _ rfl dX6_addLeg_63
      · rw [if_neg hc3] at hf
        refine zr_iclt_f 22 dX6_addLeg_17 (by decide) hc3 ?_
        refine zr_iconst (v := (0 : Int32)) dX6_addLeg_20 (by decide) ?_
        cases hf
        exact zr_ret _ rfl dX6_addLeg_21
theorem c_X6_addLeg {g : zG} (hg : g.2.1.map (fun q => q.2) = zty) {N : Nat} {l0 : Nat} {l1 : Int32} {l2 : Int32} {l3 : Int32} {h : zH} {r : Int32} {h' : zH} (hf : f_X6_addLeg N l0 l1 l2 l3 h = some (r, h')) : zCa g jX6_addLeg [zr (some l0), zi l1, zi l2, zi l3] h (some (zi r)) h' :=
  zCa.of hg (by decide +kernel) (Nat.le_of_ble_eq_true rfl) (s_X6_addLeg hg N l0 l1 l2 l3 h r h' hf)
theorem dX5_readLeg_0 : decode cX5_readLeg 0 = .ok (.aload_n 0, 1) := by decide +kernel
theorem dX5_readLeg_1 : decode cX5_readLeg 1 = .ok (.getfield 21, 3) := by decide +kernel
theorem dX5_readLeg_4 : decode cX5_readLeg 4 = .ok (.getfield 55, 3) := by decide +kernel
theorem dX5_readLeg_7 : decode cX5_readLeg 7 = .ok (.iconst 4, 1) := by decide +kernel
theorem dX5_readLeg_8 : decode cX5_readLeg 8 = .ok (.if_icmp .lt 10, 3) := by decide +kernel
theorem dX5_readLeg_11 : decode cX5_readLeg 11 = .ok (.aload_n 0, 1) := by decide +kernel
theorem dX5_readLeg_12 : decode cX5_readLeg 12 = .ok (.iconst 3, 1) := by decide +kernel
theorem dX5_readLeg_13 : decode cX5_readLeg 13 = .ok (.iload_n 1, 1) := by decide +kernel
theorem dX5_readLeg_14 : decode cX5_readLeg 14 = .ok (.invokevirtual 58, 3) := by decide +kernel
theorem dX5_readLeg_17 : decode cX5_readLeg 17 = .ok (.ireturn, 1) := by decide +kernel
theorem dX5_readLeg_18 : decode cX5_readLeg 18 = .ok (.aload_n 0, 1) := by decide +kernel
theorem dX5_readLeg_19 : decode cX5_readLeg 19 = .ok (.iconst 1, 1) := by decide +kernel
theorem dX5_readLeg_20 : decode cX5_readLeg 20 = .ok (.bipush 12, 2) := by decide +kernel
theorem dX5_readLeg_22 : decode cX5_readLeg 22 = .ok (.invokevirtual 85, 3) := by decide +kernel
theorem dX5_readLeg_25 : decode cX5_readLeg 25 = .ok (.ifCond .ne 5, 3) := by decide +kernel
theorem dX5_readLeg_28 : decode cX5_readLeg 28 = .ok (.iconst 0, 1) := by decide +kernel
theorem dX5_readLeg_29 : decode cX5_readLeg 29 = .ok (.ireturn, 1) := by decide +kernel
theorem dX5_readLeg_30 : decode cX5_readLeg 30 = .ok (.aload_n 0, 1) := by decide +kernel
theorem dX5_readLeg_31 : decode cX5_readLeg 31 = .ok (.getfield 29, 3) := by decide +kernel
theorem dX5_readLeg_34 : decode cX5_readLeg 34 = .ok (.istore_n 2, 1) := by decide +kernel
theorem dX5_readLeg_35 : decode cX5_readLeg 35 = .ok (.aload_n 0, 1) := by decide +kernel
theorem dX5_readLeg_36 : decode cX5_readLeg 36 = .ok (.iconst 1, 1) := by decide +kernel
theorem dX5_readLeg_37 : decode cX5_readLeg 37 = .ok (.bipush 6, 2) := by decide +kernel
theorem dX5_readLeg_39 : decode cX5_readLeg 39 = .ok (.invokevirtual 85, 3) := by decide +kernel
theorem dX5_readLeg_42 : decode cX5_readLeg 42 = .ok (.ifCond .ne 5, 3) := by decide +kernel
theorem dX5_readLeg_45 : decode cX5_readLeg 45 = .ok (.iconst 0, 1) := by decide +kernel
theorem dX5_readLeg_46 : decode cX5_readLeg 46 = .ok (.ireturn, 1) := by decide +kernel
theorem dX5_readLeg_47 : decode cX5_readLeg 47 = .ok (.aload_n 0, 1) := by decide +kernel
theorem dX5_readLeg_48 : decode cX5_readLeg 48 = .ok (.getfield 29, 3) := by decide +kernel
theorem dX5_readLeg_51 : decode cX5_readLeg 51 = .ok (.istore_n 3, 1) := by decide +kernel
theorem dX5_readLeg_52 : decode cX5_readLeg 52 = .ok (.aload_n 0, 1) := by decide +kernel
theorem dX5_readLeg_53 : decode cX5_readLeg 53 = .ok (.iconst 0, 1) := by decide +kernel
theorem dX5_readLeg_54 : decode cX5_readLeg 54 = .ok (.ldc 117, 2) := by decide +kernel
theorem dX5_readLeg_56 : decode cX5_readLeg 56 = .ok (.invokevirtual 85, 3) := by decide +kernel
theorem dX5_readLeg_59 : decode cX5_readLeg 59 = .ok (.ifCond .ne 5, 3) := by decide +kernel
theorem dX5_readLeg_62 : decode cX5_readLeg 62 = .ok (.iconst 0, 1) := by decide +kernel
theorem dX5_readLeg_63 : decode cX5_readLeg 63 = .ok (.ireturn, 1) := by decide +kernel
theorem dX5_readLeg_64 : decode cX5_readLeg 64 = .ok (.aload_n 0, 1) := by decide +kernel
theorem dX5_readLeg_65 : decode cX5_readLeg 65 = .ok (.getfield 21, 3) := by decide +kernel
theorem dX5_readLeg_68 : decode cX5_readLeg 68 = .ok (.iload_n 2, 1) := by decide +kernel
theorem dX5_readLeg_69 : decode cX5_readLeg 69 = .ok (.iload_n 3, 1) := by decide +kernel
theorem dX5_readLeg_70 : decode cX5_readLeg 70 = .ok (.aload_n 0, 1) := by decide +kernel
theorem dX5_readLeg_71 : decode cX5_readLeg 71 = .ok (.getfield 29, 3) := by decide +kernel
theorem dX5_readLeg_74 : decode cX5_readLeg 74 = .ok (.invokevirtual 118, 3) := by decide +kernel
theorem dX5_readLeg_77 : decode cX5_readLeg 77 = .ok (.ifCond .ne 15, 3) := by decide +kernel
theorem dX5_readLeg_80 : decode cX5_readLeg 80 = .ok (.aload_n 0, 1) := by decide +kernel
theorem dX5_readLeg_81 : decode cX5_readLeg 81 = .ok (.iconst 3, 1) := by decide +kernel
theorem dX5_readLeg_82 : decode cX5_readLeg 82 = .ok (.aload_n 0, 1) := by decide +kernel
theorem dX5_readLeg_83 : decode cX5_readLeg 83 = .ok (.getfield 32, 3) := by decide +kernel
theorem dX5_readLeg_86 : decode cX5_readLeg 86 = .ok (.invokevirtual 58, 3) := by decide +kernel
theorem dX5_readLeg_89 : decode cX5_readLeg 89 = .ok (.ifCond .eq 7, 3) := by decide +kernel
theorem dX5_readLeg_92 : decode cX5_readLeg 92 = .ok (.iconst 1, 1) := by decide +kernel
theorem dX5_readLeg_93 : decode cX5_readLeg 93 = .ok (.goto 4, 3) := by decide +kernel
theorem dX5_readLeg_96 : decode cX5_readLeg 96 = .ok (.iconst 0, 1) := by decide +kernel
theorem dX5_readLeg_97 : decode cX5_readLeg 97 = .ok (.ireturn, 1) := by decide +kernel
def f_X5_readLeg (N : Nat) (l0 : Nat) (l1 : Int32) (h : zH) : Option (Int32 × zH) := (zgR h 5 (some l0) 1).bind fun x1 => (zgI h 6 x1 4).bind fun x2 => if x2 < (4 : Int32) then (zck h 5 (some l0)).bind fun q1 => zb2 (f_X5_readNumber N q1 (1 : Int32) (12 : Int32) h) fun x3 h1 => if x3 = 0 then some ((0 : Int32), h1) else (zgI h1 5 (some l0) 3).bind fun x4 => (zck h1 5 (some l0)).bind fun q2 => zb2 (f_X5_readNumber N q2 (1 : Int32) (6 : Int32) h1) fun x5 h2 => if x5 = 0 then some ((0 : Int32), h2) else (zgI h2 5 (some l0) 3).bind fun x6 => (zck h2 5 (some l0)).bind fun q3 => zb2 (f_X5_readNumber N q3 (0 : Int32) (999999 : Int32) h2) fun x7 h3 => if x7 = 0 then some ((0 : Int32), h3) else (zgR h3 5 (some l0) 1).bind fun x8 => (zgI h3 5 (some l0) 3).bind fun x9 => (zck h3 6 x8).bind fun q4 => zb2 (f_X6_addLeg N q4 x4 x6 x9 h3) fun x10 h4 => if x10 = 0 then (zgI h4 5 (some l0) 4).bind fun x11 => (zck h4 5 (some l0)).bind fun q5 => zb2 (f_X5_refuse N q5 (3 : Int32) x11 h4) fun x12 h5 => if x12 = 0 then some ((0 : Int32), h5) else some ((1 : Int32), h5) else some ((1 : Int32), h4) else (zck h 5 (some l0)).bind fun q6 => zb2 (f_X5_refuse N q6 (3 : Int32) l1 h) fun x13 h6 => if x13 = 0 ∨ x13 = 1 then some (x13, h6) else none
set_option maxHeartbeats 4000000 in
set_option maxRecDepth 100000 in
theorem s_X5_readLeg {g : zG} (hg : g.2.1.map (fun q => q.2) = zty) {h0 : zH} (N : Nat) (l0 : Nat) (l1 : Int32) (h : zH) (r : Int32) (h' : zH) (hf : f_X5_readLeg N l0 l1 h = some (r, h')) : zR g jX5_readLeg h0 0 [some (zr (some l0)), some (zi l1), none, none] [] h (some (zi r)) h' := by
  unfold f_X5_readLeg at hf
  refine zr_aload_n (v := .inl (some l0)) dX5_readLeg_0 rfl rfl ?_
  revert hf; refine zbi (fun x1 e_x1 hf => ?_)
  refine zq_getR kg_186 dX5_readLeg_1 e_x1 ?_
  revert hf; refine zbi (fun x2 e_x2 hf => ?_)
  refine zq_getI kg_197 dX5_readLeg_4 e_x2 ?_
  refine zr_iconst (v := (4 : Int32)) dX5_readLeg_7 (by decide) ?_
  by_cases hc1 : x2 < (4 : Int32)
  · rw [if_pos hc1] at hf
    refine zr_iclt_t (tgt := 18) dX5_readLeg_8 (by decide) hc1 ?_
    refine zr_aload_n (v := .inl (some l0)) dX5_readLeg_18 rfl rfl ?_
    refine zr_iconst (v := (1 : Int32)) dX5_readLeg_19 (by decide) ?_
    refine zr_bipush (v := (12 : Int32)) dX5_readLeg_20 (by decide) ?_
    revert hf; refine zbi (fun q1 e_q1 hf => ?_)
    revert hf; refine zbi2 (fun x3 h1 e_x3 hf => ?_)
    refine zq_callV (J' := jX5_readNumber) (as := [zi (1 : Int32), zi (12 : Int32)]) (rest := []) (r1 := (some (zi x3))) (q := (RX5, TX5, 7)) kw_231 km_X5_readNumber kt_198 dX5_readLeg_22 rfl (Nat.le_of_ble_eq_true rfl) rfl rfl e_q1 rfl (c_X5_readNumber hg e_x3) ?_
    by_cases hc2 : x3 = 0
    · rw [if_pos hc2] at hf
      refine zr_ifne_f 30 dX5_readLeg_25 (by decide) hc2 ?_
      refine zr_iconst (v := (0 : Int32)) dX5_readLeg_28 (by decide) ?_
      cases hf
      exact zr_ret _ rfl dX5_readLeg_29
    · rw [if_neg hc2] at hf
      refine zr_ifne_t (tgt := 30) dX5_readLeg_25 (by decide) hc2 ?_
      refine zr_aload_n (v := .inl (some l0)) dX5_readLeg_30 rfl rfl ?_
      revert hf; refine zbi (fun x4 e_x4 hf => ?_)
      refine zq_getI kg_173 dX5_readLeg_31 e_x4 ?_
      refine zq_istore_n (x := x4) (L' := [some (zr (some l0)), some (zi l1), some (zi x4), none]) dX5_readLeg_34 rfl (by decide) rfl ?_
      refine zr_aload_n (v := .inl (some l0)) dX5_readLeg_35 rfl rfl ?_
      refine zr_iconst (v := (1 : Int32)) dX5_readLeg_36 (by decide) ?_
      refine zr_bipush (v := (6 : Int32)) dX5_readLeg_37 (by decide) ?_
      revert hf; refine zbi (fun q2 e_q2 hf => ?_)
      revert hf; refine zbi2 (fun x5 h2 e_x5 hf => ?_)
      refine zq_callV (J' := jX5_readNumber) (as := [zi (1 : Int32), zi (6 : Int32)]) (rest := []) (r1 := (some (zi x5))) (q := (RX5, TX5, 7)) kw_231 km_X5_readNumber kt_198 dX5_readLeg_39 rfl (Nat.le_of_ble_eq_true rfl) rfl rfl e_q2 rfl (c_X5_readNumber hg e_x5) ?_
      by_cases hc3 : x5 = 0
      · rw [if_pos hc3] at hf
        refine zr_ifne_f 47 dX5_readLeg_42 (by decide) hc3 ?_
        refine zr_iconst (v := (0 : Int32)) dX5_readLeg_45 (by decide) ?_
        cases hf
        exact zr_ret _ rfl dX5_readLeg_46
      · rw [if_neg hc3] at hf
        refine zr_ifne_t (tgt := 47) dX5_readLeg_42 (by decide) hc3 ?_
        refine zr_aload_n (v := .inl (some l0)) dX5_readLeg_47 rfl rfl ?_
        revert hf; refine zbi (fun x6 e_x6 hf => ?_)
        refine zq_getI kg_173 dX5_readLeg_48 e_x6 ?_
        refine zq_istore_n (x := x6) (L' := [some (zr (some l0)), some (zi l1), some (zi x4), some (zi x6)]) dX5_readLeg_51 rfl (by decide) rfl ?_
        refine zr_aload_n (v := .inl (some l0)) dX5_readLeg_52 rfl rfl ?_
        refine zr_iconst (v := (0 : Int32)) dX5_readLeg_53 (by decide) ?_
        refine zr_ldc (v := (999999 : Int32)) kw_252 dX5_readLeg_54 ?_
        revert hf; refine zbi (fun q3 e_q3 hf => ?_)
        revert hf; refine zbi2 (fun x7 h3 e_x7 hf => ?_)
        refine zq_callV (J' := jX5_readNumber) (as := [zi (0 : Int32), zi (999999 : Int32)]) (rest := []) (r1 := (some (zi x7))) (q := (RX5, TX5, 7)) kw_231 km_X5_readNumber kt_198 dX5_readLeg_56 rfl (Nat.le_of_ble_eq_true rfl) rfl rfl e_q3 rfl (c_X5_readNumber hg e_x7) ?_
        by_cases hc4 : x7 = 0
        · rw [if_pos hc4] at hf
          refine zr_ifne_f 64 dX5_readLeg_59 (by decide) hc4 ?_
          refine zr_iconst (v := (0 : Int32)) dX5_readLeg_62 (by decide) ?_
          cases hf
          exact zr_ret _ rfl dX5_readLeg_63
        · rw [if_neg hc4] at hf
          refine zr_ifne_t (tgt := 64) dX5_readLeg_59 (by decide) hc4 ?_
          refine zr_aload_n (v := .inl (some l0)) dX5_readLeg_64 rfl rfl ?_
          revert hf; refine zbi (fun x8 e_x8 hf => ?_)
          refine zq_getR kg_186 dX5_readLeg_65 e_x8 ?_
          refine zr_iload_n (x := x4) dX5_readLeg_68 rfl rfl ?_
          refine zr_iload_n (x := x6) dX5_readLeg_69 rfl rfl ?_
          refine zr_aload_n (v := .inl (some l0)) dX5_readLeg_70 rfl rfl ?_
          revert hf; refine zbi (fun x9 e_x9 hf => ?_)
          refine zq_getI kg_173 dX5_readLeg_71 e_x9 ?_
          revert hf; refine zbi (fun q4 e_q4 hf => ?_)
          revert hf; refine zbi2 (fun x10 h4 e_x10 hf => ?_)
          refine zq_callV (J' := jX6_addLeg) (as := [zi x4, zi x6, zi x9]) (rest := []) (r1 := (some (zi x10))) (q := (RX6, TX6, 11)) kw_253 km_X6_addLeg kt_200 dX5_readLeg_74 rfl (Nat.le_of_ble_eq_true rfl) rfl rfl e_q4 rfl (c_X6_addLeg hg e_x10) ?_
          by_cases hc5 : x10 = 0
          · rw [if_pos hc5] at hf
            refine zr_ifne_f 92 dX5_readLeg_77 (by decide) hc5 ?_
            refine zr_aload_n (v := .inl (some l0)) dX5_readLeg_80 rfl rfl ?_
            refine zr_iconst (v := (3 : Int32)) dX5_readLeg_81 (by decide) ?_
            refine zr_aload_n (v := .inl (some l0)) dX5_readLeg_82 rfl rfl ?_
            revert hf; refine zbi (fun x11 e_x11 hf => ?_)
            refine zq_getI kg_170 dX5_readLeg_83 e_x11 ?_
            revert hf; refine zbi (fun q5 e_q5 hf => ?_)
            revert hf; refine zbi2 (fun x12 h5 e_x12 hf => ?_)
            refine zq_callV (J' := jX5_refuse) (as := [zi (3 : Int32), zi x11]) (rest := []) (r1 := (some (zi x12))) (q := (RX5, TX5, 7)) kw_227 km_X5_refuse kt_201 dX5_readLeg_86 rfl (Nat.le_of_ble_eq_true rfl) rfl rfl e_q5 rfl (c_X5_refuse hg e_x12) ?_
            by_cases hc6 : x12 = 0
            · rw [if_pos hc6] at hf
              refine zr_ifeq_t (tgt := 96) dX5_readLeg_89 (by decide) hc6 ?_
              refine zr_iconst (v := (0 : Int32)) dX5_readLeg_96 (by decide) ?_
              cases hf
              exact zr_ret _ rfl dX5_readLeg_97
            · rw [if_neg hc6] at hf
              refine zr_ifeq_f 96 dX5_readLeg_89 (by decide) hc6 ?_
              refine zr_iconst (v := (1 : Int32)) dX5_readLeg_92 (by decide) ?_
              refine zr_goto (tgt := 97) dX5_readLeg_93 (by decide) ?_
              cases hf
              exact zr_ret _ rfl dX5_readLeg_97
          · rw [if_neg hc5] at hf
            refine zr_ifne_t (tgt := 92) dX5_readLeg_77 (by decide) hc5 ?_
            refine zr_iconst (v := (1 : Int32)) dX5_readLeg_92 (by decide) ?_
            refine zr_goto (tgt := 97) dX5_readLeg_93 (by decide) ?_
            cases hf
            exact zr_ret _ rfl dX5_readLeg_97
  · rw [if_neg hc1] at hf
    refine zr_iclt_f 18 dX5_readLeg_8 (by decide) hc1 ?_
    refine zr_aload_n (v := .inl (some l0)) dX5_readLeg_11 rfl rfl ?_
    refine zr_iconst (v := (3 : Int32)) dX5_readLeg_12 (by decide) ?_
    refine zr_iload_n (x := l1) dX5_readLeg_13 rfl rfl ?_
    revert hf; refine zbi (fun q6 e_q6 hf => ?_)
    revert hf; refine zbi2 (fun x13 h6 e_x13 hf => ?_)
    refine zq_callV (J' := jX5_refuse) (as := [zi (3 : Int32), zi l1]) (rest := []) (r1 := (some (zi x13))) (q := (RX5, TX5, 7)) kw_227 km_X5_refuse kt_201 dX5_readLeg_14 rfl (Nat.le_of_ble_eq_true rfl) rfl rfl e_q6 rfl (c_X5_refuse hg e_x13) ?_
    by_cases hc7 : x13 = 0 ∨ x13 = 1
    · rw [if_pos hc7] at hf
      cases hf
      exact zr_ret _ (zok_b hc7) dX5_readLeg_17
    · rw [if_neg hc7] at hf
      cases hf
theorem c_X5_readLeg {g : zG} (hg : g.2.1.map (fun q => q.2) = zty) {N : Nat} {l0 : Nat} {l1 : Int32} {h : zH} {r : Int32} {h' : zH} (hf : f_X5_readLeg N l0 l1 h = some (r, h')) : zCa g jX5_readLeg [zr (some l0), zi l1] h (some (zi r)) h' :=
  zCa.of hg (by decide +kernel) (Nat.le_of_ble_eq_true rfl) (s_X5_readLeg hg N l0 l1 h r h' hf)
theorem dX6_canTie_0 : decode cX6_canTie 0 = .ok (.aload_n 0, 1) := by decide +kernel
theorem dX6_canTie_1 : decode cX6_canTie 1 = .ok (.getfield 37, 3) := by decide +kernel
theorem dX6_canTie_4 : decode cX6_canTie 4 = .ok (.bipush 6, 2) := by decide +kernel
theorem dX6_canTie_6 : decode cX6_canTie 6 = .ok (.if_icmp .ge 30, 3) := by decide +kernel
theorem dX6_canTie_9 : decode cX6_canTie 9 = .ok (.aload_n 0, 1) := by decide +kernel
theorem dX6_canTie_10 : decode cX6_canTie 10 = .ok (.getfield 37, 3) := by decide +kernel
theorem dX6_canTie_13 : decode cX6_canTie 13 = .ok (.ifCond .eq 19, 3) := by decide +kernel
theorem dX6_canTie_16 : decode cX6_canTie 16 = .ok (.aload_n 0, 1) := by decide +kernel
theorem dX6_canTie_17 : decode cX6_canTie 17 = .ok (.getfield 40, 3) := by decide +kernel
theorem dX6_canTie_20 : decode cX6_canTie 20 = .ok (.aload_n 0, 1) := by decide +kernel
theorem dX6_canTie_21 : decode cX6_canTie 21 = .ok (.getfield 37, 3) := by decide +kernel
theorem dX6_canTie_24 : decode cX6_canTie 24 = .ok (.iconst 1, 1) := by decide +kernel
theorem dX6_canTie_25 : decode cX6_canTie 25 = .ok (.isub, 1) := by decide +kernel
theorem dX6_canTie_26 : decode cX6_canTie 26 = .ok (.iaload, 1) := by decide +kernel
theorem dX6_canTie_27 : decode cX6_canTie 27 = .ok (.bipush 22, 2) := by decide +kernel
theorem dX6_canTie_29 : decode cX6_canTie 29 = .ok (.if_icmp .eq 7, 3) := by decide +kernel
theorem dX6_canTie_32 : decode cX6_canTie 32 = .ok (.iconst 1, 1) := by decide +kernel
theorem dX6_canTie_33 : decode cX6_canTie 33 = .ok (.goto 4, 3) := by decide +kernel
theorem dX6_canTie_36 : decode cX6_canTie 36 = .ok (.iconst 0, 1) := by decide +kernel
theorem dX6_canTie_37 : decode cX6_canTie 37 = .ok (.ireturn, 1) := by decide +kernel
def f_X6_canTie (N : Nat) (l0 : Nat) (h : zH) : Option Int32 := (zgI h 6 (some l0) 8).bind fun x1 => if (6 : Int32) ≤ x1 then some (0 : Int32) else (zgI h 6 (some l0) 8).bind fun x2 => if x2 = 0 then some (1 : Int32) else (zgR h 6 (some l0) 9).bind fun x3 => (zgI h 6 (some l0) 8).bind fun x4 => (zld h 0 x3 (x4 - (1 : Int32))).bind fun x5 => if x5 = (22 : Int32) then some (0 : Int32) else some (1 : Int32)
set_option maxHeartbeats 4000000 in
set_option maxRecDepth 100000 in
theorem s_X6_canTie {g : zG} (hg : g.2.1.map (fun q => q.2) = zty) {h0 : zH} (N : Nat) (l0 : Nat) (h : zH) (r : Int32) (hf : f_X6_canTie N l0 h = some r) : zR g jX6_canTie h0 0 [some (zr (some l0))] [] h (some (zi r)) h := by
  unfold f_X6_canTie at hf
  refine zr_aload_n (v := .inl (some l0)) dX6_canTie_0 rfl rfl ?_
  revert hf; refine zbi (fun x1 e_x1 hf => ?_)
  refine zq_getI kg_202 dX6_canTie_1 e_x1 ?_
  refine zr_bipush (v := (6 : Int32)) dX6_canTie_4 (by decide) ?_
  by_cases hc1 : (6 : Int32) ≤ x1
  · rw [if_pos hc1] at hf
    refine zr_icge_t (tgt := 36) dX6_canTie_6 (by decide) hc1 ?_
    refine zr_iconst (v := (0 : Int32)) dX6_canTie_36 (by decide) ?_
    cases hf
    exact zr_ret _ rfl dX6_canTie_37
  · rw [if_neg hc1] at hf
    refine zr_icge_f 36 dX6_canTie_6 (by decide) hc1 ?_
    refine zr_aload_n (v := .inl (some l0)) dX6_canTie_9 rfl rfl ?_
    revert hf; refine zbi (fun x2 e_x2 hf => ?_)
    refine zq_getI kg_202 dX6_canTie_10 e_x2 ?_
    by_cases hc2 : x2 = 0
    · rw [if_pos hc2] at hf
      refine zr_ifeq_t (tgt := 32) dX6_canTie_13 (by decide) hc2 ?_
      refine zr_iconst (v := (1 : Int32)) dX6_canTie_32 (by decide) ?_
      refine zr_goto (tgt := 37) dX6_canTie_33 (by decide) ?_
      cases hf
      exact zr_ret _ rfl dX6_canTie_37
    · rw [if_neg hc2] at hf
      refine zr_ifeq_f 32 dX6_canTie_13 (by decide) hc2 ?_
      refine zr_aload_n (v := .inl (some l0)) dX6_canTie_16 rfl rfl ?_
      revert hf; refine zbi (fun x3 e_x3 hf => ?_)
      refine zq_getR kg_203 dX6_canTie_17 e_x3 ?_
      refine zr_aload_n (v := .inl (some l0)) dX6_canTie_20 rfl rfl ?_
      revert hf; refine zbi (fun x4 e_x4 hf => ?_)
      refine zq_getI kg_202 dX6_canTie_21 e_x4 ?_
      refine zr_iconst (v := (1 : Int32)) dX6_canTie_24 (by decide) ?_
      refine zr_isub dX6_canTie_25 ?_
      revert hf; refine zbi (fun x5 e_x5 hf => ?_)
      refine zq_iald dX6_canTie_26 e_x5 ?_
      refine zr_bipush (v := (22 : Int32)) dX6_canTie_27 (by decide) ?_
      by_cases hc3 : x5 = (22 : Int32)
      · rw [if_pos hc3] at hf
        refine zr_iceq_t (tgt := 36) dX6_canTie_29 (by decide) hc3 ?_
        refine zr_iconst (v := (0 : Int32)) dX6_canTie_36 (by decide) ?_
        cases hf
        exact zr_ret _ rfl dX6_canTie_37
      · rw [if_neg hc3] at hf
        refine zr_iceq_f 36 dX6_canTie_29 (by decide) hc3 ?_
        refine zr_iconst (v := (1 : Int32)) dX6_canTie_32 (by decide) ?_
        refine zr_goto (tgt := 37) dX6_canTie_33 (by decide) ?_
        cases hf
        exact zr_ret _ rfl dX6_canTie_37
theorem c_X6_canTie {g : zG} (hg : g.2.1.map (fun q => q.2) = zty) {N : Nat} {l0 : Nat} {h : zH} {r : Int32} (hf : f_X6_canTie N l0 h = some r) : zCa g jX6_canTie [zr (some l0)] h (some (zi r)) h :=
  zCa.of hg (by decide +kernel) (Nat.le_of_ble_eq_true rfl) (s_X6_canTie hg N l0 h r hf)
theorem dX5_mayTie_0 : decode cX5_mayTie 0 = .ok (.aload_n 0, 1) := by decide +kernel
theorem dX5_mayTie_1 : decode cX5_mayTie 1 = .ok (.getfield 21, 3) := by decide +kernel
theorem dX5_mayTie_4 : decode cX5_mayTie 4 = .ok (.invokevirtual 121, 3) := by decide +kernel
theorem dX5_mayTie_7 : decode cX5_mayTie 7 = .ok (.ifCond .ne 12, 3) := by decide +kernel
theorem dX5_mayTie_10 : decode cX5_mayTie 10 = .ok (.aload_n 0, 1) := by decide +kernel
theorem dX5_mayTie_11 : decode cX5_mayTie 11 = .ok (.iconst 3, 1) := by decide +kernel
theorem dX5_mayTie_12 : decode cX5_mayTie 12 = .ok (.iload_n 1, 1) := by decide +kernel
theorem dX5_mayTie_13 : decode cX5_mayTie 13 = .ok (.invokevirtual 58, 3) := by decide +kernel
theorem dX5_mayTie_16 : decode cX5_mayTie 16 = .ok (.ifCond .eq 7, 3) := by decide +kernel
theorem dX5_mayTie_19 : decode cX5_mayTie 19 = .ok (.iconst 1, 1) := by decide +kernel
theorem dX5_mayTie_20 : decode cX5_mayTie 20 = .ok (.goto 4, 3) := by decide +kernel
theorem dX5_mayTie_23 : decode cX5_mayTie 23 = .ok (.iconst 0, 1) := by decide +kernel
theorem dX5_mayTie_24 : decode cX5_mayTie 24 = .ok (.ireturn, 1) := by decide +kernel
def f_X5_mayTie (N : Nat) (l0 : Nat) (l1 : Int32) (h : zH) : Option (Int32 × zH) := (zgR h 5 (some l0) 1).bind fun x1 => (zck h 6 x1).bind fun q1 => (f_X6_canTie N q1 h).bind fun x2 => if x2 = 0 then (zck h 5 (some l0)).bind fun q2 => zb2 (f_X5_refuse N q2 (3 : Int32) l1 h) fun x3 h1 => if x3 = 0 then some ((0 : Int32), h1) else some ((1 : Int32), h1) else some ((1 : Int32), h)
set_option maxHeartbeats 4000000 in
set_option maxRecDepth 100000 in
theorem s_X5_mayTie {g : zG} (hg : g.2.1.map (fun q => q.2) = zty) {h0 : zH} (N : Nat) (l0 : Nat) (l1 : Int32) (h : zH) (r : Int32) (h' : zH) (hf : f_X5_mayTie N l0 l1 h = some (r, h')) : zR g jX5_mayTie h0 0 [some (zr (some l0)), some (zi l1)] [] h (some (zi r)) h' := by
  unfold f_X5_mayTie at hf
  refine zr_aload_n (v := .inl (some l0)) dX5_mayTie_0 rfl rfl ?_
  revert hf; refine zbi (fun x1 e_x1 hf => ?_)
  refine zq_getR kg_186 dX5_mayTie_1 e_x1 ?_
  revert hf; refine zbi (fun q1 e_q1 hf => ?_)
  revert hf; refine zbi (fun x2 e_x2 hf => ?_)
  refine zq_callV (J' := jX6_canTie) (as := []) (rest := []) (r1 := (some (zi x2))) (q := (RX6, TX6, 11)) kw_257 km_X6_canTie kt_205 dX5_mayTie_4 rfl (Nat.le_of_ble_eq_true rfl) rfl rfl e_q1 rfl (c_X6_canTie hg e_x2) ?_
  by_cases hc1 : x2 = 0
  · rw [if_pos hc1] at hf
    refine zr_ifne_f 19 dX5_mayTie_7 (by decide) hc1 ?_
    refine zr_aload_n (v := .inl (some l0)) dX5_mayTie_10 rfl rfl ?_
    refine zr_iconst (v := (3 : Int32)) dX5_mayTie_11 (by decide) ?_
    refine zr_iload_n (x := l1) dX5_mayTie_12 rfl rfl ?_
    revert hf; refine zbi (fun q2 e_q2 hf => ?_)
    revert hf; refine zbi2 (fun x3 h1 e_x3 hf => ?_)
    refine zq_callV (J' := jX5_refuse) (as := [zi (3 : Int32), zi l1]) (rest := []) (r1 := (some (zi x3))) (q := (RX5, TX5, 7)) kw_227 km_X5_refuse kt_206 dX5_mayTie_13 rfl (Nat.le_of_ble_eq_true rfl) rfl rfl e_q2 rfl (c_X5_refuse hg e_x3) ?_
    by_cases hc2 : x3 = 0
    · rw [if_pos hc2] at hf
      refine zr_ifeq_t (tgt := 23) dX5_mayTie_16 (by decide) hc2 ?_
      refine zr_iconst (v := (0 : Int32)) dX5_mayTie_23 (by decide) ?_
      cases hf
      exact zr_ret _ rfl dX5_mayTie_24
    · rw [if_neg hc2] at hf
      refine zr_ifeq_f 23 dX5_mayTie_16 (by decide) hc2 ?_
      refine zr_iconst (v := (1 : Int32)) dX5_mayTie_19 (by decide) ?_
      refine zr_goto (tgt := 24) dX5_mayTie_20 (by decide) ?_
      cases hf
      exact zr_ret _ rfl dX5_mayTie_24
  · rw [if_neg hc1] at hf
    refine zr_ifne_t (tgt := 19) dX5_mayTie_7 (by decide) hc1 ?_
    refine zr_iconst (v := (1 : Int32)) dX5_mayTie_19 (by decide) ?_
    refine zr_goto (tgt := 24) dX5_mayTie_20 (by decide) ?_
    cases hf
    exact zr_ret _ rfl dX5_mayTie_24
theorem c_X5_mayTie {g : zG} (hg : g.2.1.map (fun q => q.2) = zty) {N : Nat} {l0 : Nat} {l1 : Int32} {h : zH} {r : Int32} {h' : zH} (hf : f_X5_mayTie N l0 l1 h = some (r, h')) : zCa g jX5_mayTie [zr (some l0), zi l1] h (some (zi r)) h' :=
  zCa.of hg (by decide +kernel) (Nat.le_of_ble_eq_true rfl) (s_X5_mayTie hg N l0 l1 h r h' hf)
theorem dX6_addTie_0 : decode cX6_addTie 0 = .ok (.aload_n 0, 1) := by decide +kernel
theorem dX6_addTie_1 : decode cX6_addTie 1 = .ok (.invokevirtual 46, 3) := by decide +kernel
theorem dX6_addTie_4 : decode cX6_addTie 4 = .ok (.ifCond .ne 5, 3) := by decide +kernel
theorem dX6_addTie_7 : decode cX6_addTie 7 = .ok (.iconst 0, 1) := by decide +kernel
theorem dX6_addTie_8 : decode cX6_addTie 8 = .ok (.ireturn, 1) := by decide +kernel
theorem dX6_addTie_9 : decode cX6_addTie 9 = .ok (.aload_n 0, 1) := by decide +kernel
theorem dX6_addTie_10 : decode cX6_addTie 10 = .ok (.getfield 40, 3) := by decide +kernel
theorem dX6_addTie_13 : decode cX6_addTie 13 = .ok (.aload_n 0, 1) := by decide +kernel
theorem dX6_addTie_14 : decode cX6_addTie 14 = .ok (.getfield 37, 3) := by decide +kernel
theorem dX6_addTie_17 : decode cX6_addTie 17 = .ok (.iload_n 1, 1) := by decide +kernel
theorem dX6_addTie_18 : decode cX6_addTie 18 = .ok (.iastore, 1) := by decide +kernel
theorem dX6_addTie_19 : decode cX6_addTie 19 = .ok (.aload_n 0, 1) := by decide +kernel
theorem dX6_addTie_20 : decode cX6_addTie 20 = .ok (.dup, 1) := by decide +kernel
theorem dX6_addTie_21 : decode cX6_addTie 21 = .ok (.getfield 37, 3) := by decide +kernel
theorem dX6_addTie_24 : decode cX6_addTie 24 = .ok (.iconst 1, 1) := by decide +kernel
theorem dX6_addTie_25 : decode cX6_addTie 25 = .ok (.iadd, 1) := by decide +kernel
theorem dX6_addTie_26 : decode cX6_addTie 26 = .ok (.putfield 37, 3) := by decide +kernel
theorem dX6_addTie_29 : decode cX6_addTie 29 = .ok (.iconst 1, 1) := by decide +kernel
theorem dX6_addTie_30 : decode cX6_addTie 30 = .ok (.ireturn, 1) := by decide +kernel
def f_X6_addTie (N : Nat) (l0 : Nat) (l1 : Int32) (h : zH) : Option (Int32 × zH) := (zck h 6 (some l0)).bind fun q1 => (f_X6_canTie N q1 h).bind fun x1 => if x1 = 0 then some ((0 : Int32), h) else (zgR h 6 (some l0) 9).bind fun x2 => (zgI h 6 (some l0) 8).bind fun x3 => (zst h 0 x2 x3 l1).bind fun h1 => (zgI h1 6 (some l0) 8).bind fun x4 => (zpu h1 6 (some l0) 8 (zi (x4 + (1 : Int32)))).bind fun h2 => some ((1 : Int32), h2)
set_option maxHeartbeats 4000000 in
set_option maxRecDepth 100000 in
theorem s_X6_addTie {g : zG} (hg : g.2.1.map (fun q => q.2) = zty) {h0 : zH} (N : Nat) (l0 : Nat) (l1 : Int32) (h : zH) (r : Int32) (h' : zH) (hf : f_X6_addTie N l0 l1 h = some (r, h')) : zR g jX6_addTie h0 0 [some (zr (some l0)), some (zi l1)] [] h (some (zi r)) h' := by
  unfold f_X6_addTie at hf
  refine zr_aload_n (v := .inl (some l0)) dX6_addTie_0 rfl rfl ?_
  revert hf; refine zbi (fun q1 e_q1 hf => ?_)
  revert hf; refine zbi (fun x1 e_x1 hf => ?_)
  refine zq_callV (J' := jX6_canTie) (as := []) (rest := []) (r1 := (some (zi x1))) (q := (RX6, TX6, 11)) kw_261 km_X6_canTie kt_207 dX6_addTie_1 rfl (Nat.le_of_ble_eq_true rfl) rfl rfl e_q1 rfl (c_X6_canTie hg e_x1) ?_
  by_cases hc1 : x1 = 0
  · rw [if_pos hc1] at hf
    refine zr_ifne_f 9 dX6_addTie_4 (by decide) hc1 ?_
    refine zr_iconst (v := (0 : Int32)) dX6_addTie_7 (by decide) ?_
    cases hf
    exact zr_ret _ rfl dX6_addTie_8
  · rw [if_neg hc1] at hf
    refine zr_ifne_t (tgt := 9) dX6_addTie_4 (by decide) hc1 ?_
    refine zr_aload_n (v := .inl (some l0)) dX6_addTie_9 rfl rfl ?_
    revert hf; refine zbi (fun x2 e_x2 hf => ?_)
    refine zq_getR kg_203 dX6_addTie_10 e_x2 ?_
    refine zr_aload_n (v := .inl (some l0)) dX6_addTie_13 rfl rfl ?_
    revert hf; refine zbi (fun x3 e_x3 hf => ?_)
    refine zq_getI kg_202 dX6_addTie_14 e_x3 ?_
    refine zr_iload_n (x := l1) dX6_addTie_17 rfl rfl ?_
    revert hf; refine zbi (fun h1 e_h1 hf => ?_)
    refine zq_iast dX6_addTie_18 e_h1 ?_
    refine zr_aload_n (v := .inl (some l0)) dX6_addTie_19 rfl rfl ?_
    refine zr_dup dX6_addTie_20 ?_
    revert hf; refine zbi (fun x4 e_x4 hf => ?_)
    refine zq_getI kg_202 dX6_addTie_21 e_x4 ?_
    refine zr_iconst (v := (1 : Int32)) dX6_addTie_24 (by decide) ?_
    refine zr_iadd dX6_addTie_25 ?_
    revert hf; refine zbi (fun h2 e_h2 hf => ?_)
    refine zq_put (kp_208 _) dX6_addTie_26 (zn_i _) e_h2 ?_
    refine zr_iconst (v := (1 : Int32)) dX6_addTie_29 (by decide) ?_
    cases hf
    exact zr_ret _ rfl dX6_addTie_30
theorem c_X6_addTie {g : zG} (hg : g.2.1.map (fun q => q.2) = zty) {N : Nat} {l0 : Nat} {l1 : Int32} {h : zH} {r : Int32} {h' : zH} (hf : f_X6_addTie N l0 l1 h = some (r, h')) : zCa g jX6_addTie [zr (some l0), zi l1] h (some (zi r)) h' :=
  zCa.of hg (by decide +kernel) (Nat.le_of_ble_eq_true rfl) (s_X6_addTie hg N l0 l1 h r h' hf)
theorem dX6_set_0 : decode cX6_set 0 = .ok (.iload_n 1, 1) := by decide +kernel
theorem dX6_set_1 : decode cX6_set 1 = .ok (.ifCond .lt 12, 3) := by decide +kernel
theorem dX6_set_4 : decode cX6_set 4 = .ok (.iload_n 1, 1) := by decide +kernel
theorem dX6_set_5 : decode cX6_set 5 = .ok (.aload_n 0, 1) := by decide +kernel
theorem dX6_set_6 : decode cX6_set 6 = .ok (.getfield 43, 3) := by decide +kernel
theorem dX6_set_9 : decode cX6_set 9 = .ok (.arraylength, 1) := by decide +kernel
theorem dX6_set_10 : decode cX6_set 10 = .ok (.if_icmp .lt 5, 3) := by decide +kernel
theorem dX6_set_13 : decode cX6_set 13 = .ok (.iconst 0, 1) := by decide +kernel
theorem dX6_set_14 : decode cX6_set 14 = .ok (.ireturn, 1) := by decide +kernel
theorem dX6_set_15 : decode cX6_set 15 = .ok (.aload_n 0, 1) := by decide +kernel
theorem dX6_set_16 : decode cX6_set 16 = .ok (.getfield 43, 3) := by decide +kernel
theorem dX6_set_19 : decode cX6_set 19 = .ok (.iload_n 1, 1) := by decide +kernel
theorem dX6_set_20 : decode cX6_set 20 = .ok (.iload_n 2, 1) := by decide +kernel
theorem dX6_set_21 : decode cX6_set 21 = .ok (.iastore, 1) := by decide +kernel
theorem dX6_set_22 : decode cX6_set 22 = .ok (.iconst 1, 1) := by decide +kernel
theorem dX6_set_23 : decode cX6_set 23 = .ok (.ireturn, 1) := by decide +kernel
def f_X6_set (N : Nat) (l0 : Nat) (l1 : Int32) (l2 : Int32) (h : zH) : Option (Int32 × zH) := if l1 < 0 then some ((0 : Int32), h) else (zgR h 6 (some l0) 10).bind fun x1 => (zlen h x1).bind fun x2 => if l1 < x2 then (zgR h 6 (some l0) 10).bind fun x3 => (zst h 0 x3 l1 l2).bind fun h1 => some ((1 : Int32), h1) else some ((0 : Int32), h)
set_option maxHeartbeats 4000000 in
set_option maxRecDepth 100000 in
theorem s_X6_set {g : zG} (hg : g.2.1.map (fun q => q.2) = zty) {h0 : zH} (N : Nat) (l0 : Nat) (l1 : Int32) (l2 : Int32) (h : zH) (r : Int32) (h' : zH) (hf : f_X6_set N l0 l1 l2 h = some (r, h')) : zR g jX6_set h0 0 [some (zr (some l0)), some (zi l1), some (zi l2)] [] h (some (zi r)) h' := by
  unfold f_X6_set at hf
  refine zr_iload_n (x := l1) dX6_set_0 rfl rfl ?_
  by_cases hc1 : l1 < 0
  · rw [if_pos hc1] at hf
    refine zr_iflt_t (tgt := 13) dX6_set_1 (by decide) hc1 ?_
    refine zr_iconst (v := (0 : Int32)) dX6_set_13 (by decide) ?_
    cases hf
    exact zr_ret _ rfl dX6_set_14
  · rw [if_neg hc1] at hf
    refine zr_iflt_f 13 dX6_set_1 (by decide) hc1 ?_
    refine zr_iload_n (x := l1) dX6_set_4 rfl rfl ?_
    refine zr_aload_n (v := .inl (some l0)) dX6_set_5 rfl rfl ?_
    revert hf; refine zbi (fun x1 e_x1 hf => ?_)
    refine zq_getR kg_101 dX6_set_6 e_x1 ?_
    revert hf; refine zbi (fun x2 e_x2 hf => ?_)
    refine zq_alen dX6_set_9 e_x2 ?_
    by_cases hc2 : l1 < x2
    · rw [if_pos hc2] at hf
      refine zr_iclt_t (tgt := 15) dX6_set_10 (by decide) hc2 ?_
      refine zr_aload_n (v := .inl (some l0)) dX6_set_15 rfl rfl ?_
      revert hf; refine zbi (fun x3 e_x3 hf => ?_)
      refine zq_getR kg_101 dX6_set_16 e_x3 ?_
      refine zr_iload_n (x := l1) dX6_set_19 rfl rfl ?_
      refine zr_iload_n (x := l2) dX6_set_20 rfl rfl ?_
      revert hf; refine zbi (fun h1 e_h1 hf => ?_)
      refine zq_iast dX6_set_21 e_h1 ?_
      refine zr_iconst (v := (1 : Int32)) dX6_set_22 (by decide) ?_
      cases hf
      exact zr_ret _ rfl dX6_set_23
    · rw [if_neg hc2] at hf
      refine zr_iclt_f 15 dX6_set_10 (by decide) hc2 ?_
      refine zr_iconst (v := (0 : Int32)) dX6_set_13 (by decide) ?_
      cases hf
      exact zr_ret _ rfl dX6_set_14
theorem c_X6_set {g : zG} (hg : g.2.1.map (fun q => q.2) = zty) {N : Nat} {l0 : Nat} {l1 : Int32} {l2 : Int32} {h : zH} {r : Int32} {h' : zH} (hf : f_X6_set N l0 l1 l2 h = some (r, h')) : zCa g jX6_set [zr (some l0), zi l1, zi l2] h (some (zi r)) h' :=
  zCa.of hg (by decide +kernel) (Nat.le_of_ble_eq_true rfl) (s_X6_set hg N l0 l1 l2 h r h' hf)
theorem dX5_readOnce_0 : decode cX5_readOnce 0 = .ok (.aload_n 0, 1) := by decide +kernel
theorem dX5_readOnce_1 : decode cX5_readOnce 1 = .ok (.getfield 21, 3) := by decide +kernel
theorem dX5_readOnce_4 : decode cX5_readOnce 4 = .ok (.iload_n 2, 1) := by decide +kernel
theorem dX5_readOnce_5 : decode cX5_readOnce 5 = .ok (.invokevirtual 124, 3) := by decide +kernel
theorem dX5_readOnce_8 : decode cX5_readOnce 8 = .ok (.ifCond .eq 10, 3) := by decide +kernel
theorem dX5_readOnce_11 : decode cX5_readOnce 11 = .ok (.aload_n 0, 1) := by decide +kernel
theorem dX5_readOnce_12 : decode cX5_readOnce 12 = .ok (.iconst 3, 1) := by decide +kernel
theorem dX5_readOnce_13 : decode cX5_readOnce 13 = .ok (.iload_n 1, 1) := by decide +kernel
theorem dX5_readOnce_14 : decode cX5_readOnce 14 = .ok (.invokevirtual 58, 3) := by decide +kernel
theorem dX5_readOnce_17 : decode cX5_readOnce 17 = .ok (.ireturn, 1) := by decide +kernel
theorem dX5_readOnce_18 : decode cX5_readOnce 18 = .ok (.aload_n 0, 1) := by decide +kernel
theorem dX5_readOnce_19 : decode cX5_readOnce 19 = .ok (.iconst 0, 1) := by decide +kernel
theorem dX5_readOnce_20 : decode cX5_readOnce 20 = .ok (.iload_n 3, 1) := by decide +kernel
theorem dX5_readOnce_21 : decode cX5_readOnce 21 = .ok (.invokevirtual 85, 3) := by decide +kernel
theorem dX5_readOnce_24 : decode cX5_readOnce 24 = .ok (.ifCond .eq 22, 3) := by decide +kernel
theorem dX5_readOnce_27 : decode cX5_readOnce 27 = .ok (.aload_n 0, 1) := by decide +kernel
theorem dX5_readOnce_28 : decode cX5_readOnce 28 = .ok (.getfield 21, 3) := by decide +kernel
theorem dX5_readOnce_31 : decode cX5_readOnce 31 = .ok (.iload_n 2, 1) := by decide +kernel
theorem dX5_readOnce_32 : decode cX5_readOnce 32 = .ok (.aload_n 0, 1) := by decide +kernel
theorem dX5_readOnce_33 : decode cX5_readOnce 33 = .ok (.getfield 29, 3) := by decide +kernel
theorem dX5_readOnce_36 : decode cX5_readOnce 36 = .ok (.invokevirtual 127, 3) := by decide +kernel
theorem dX5_readOnce_39 : decode cX5_readOnce 39 = .ok (.ifCond .eq 7, 3) := by decide +kernel
theorem dX5_readOnce_42 : decode cX5_readOnce 42 = .ok (.iconst 1, 1) := by decide +kernel
theorem dX5_readOnce_43 : decode cX5_readOnce 43 = .ok (.goto 4, 3) := by decide +kernel
theorem dX5_readOnce_46 : decode cX5_readOnce 46 = .ok (.iconst 0, 1) := by decide +kernel
theorem dX5_readOnce_47 : decode cX5_readOnce 47 = .ok (.ireturn, 1) := by decide +kernel
def f_X5_readOnce (N : Nat) (l0 : Nat) (l1 : Int32) (l2 : Int32) (l3 : Int32) (h : zH) : Option (Int32 × zH) := (zgR h 5 (some l0) 1).bind fun x1 => (zck h 6 x1).bind fun q1 => (f_X6_isSet N q1 l2 h).bind fun x2 => if x2 = 0 then (zck h 5 (some l0)).bind fun q2 => zb2 (f_X5_readNumber N q2 (0 : Int32) l3 h) fun x3 h1 => if x3 = 0 then some ((0 : Int32), h1) else (zgR h1 5 (some l0) 1).bind fun x4 => (zgI h1 5 (some l0) 3).bind fun x5 => (zck h1 6 x4).bind fun q3 => zb2 (f_X6_set N q3 l2 x5 h1) fun x6 h2 => if x6 = 0 then some ((0 : Int32), h2) else some ((1 : Int32), h2) else (zck h 5 (some l0)).bind fun q4 => zb2 (f_X5_refuse N q4 (3 : Int32) l1 h) fun x7 h3 => if x7 = 0 ∨ x7 = 1 then some (x7, h3) else none
set_option maxHeartbeats 4000000 in
set_option maxRecDepth 100000 in
theorem s_X5_readOnce {g : zG} (hg : g.2.1.map (fun q => q.2) = zty) {h0 : zH} (N : Nat) (l0 : Nat) (l1 : Int32) (l2 : Int32) (l3 : Int32) (h : zH) (r : Int32) (h' : zH) (hf : f_X5_readOnce N l0 l1 l2 l3 h = some (r, h')) : zR g jX5_readOnce h0 0 [some (zr (some l0)), some (zi l1), some (zi l2), some (zi l3)] [] h (some (zi r)) h' := by
  unfold f_X5_readOnce at hf
  refine zr_aload_n (v := .inl (some l0)) dX5_readOnce_0 rfl rfl ?_
  revert hf; refine zbi (fun x1 e_x1 hf => ?_)
  refine zq_getR kg_186 dX5_readOnce_1 e_x1 ?_
  refine zr_iload_n (x := l2) dX5_readOnce_4 rfl rfl ?_
  revert hf; refine zbi (fun q1 e_q1 hf => ?_)
  revert hf; refine zbi (fun x2 e_x2 hf => ?_)
  refine zq_callV (J' := jX6_isSet) (as := [zi l2]) (rest := []) (r1 := (some (zi x2))) (q := (RX6, TX6, 11)) kw_262 km_X6_isSet kt_209 dX5_readOnce_5 rfl (Nat.le_of_ble_eq_true rfl) rfl rfl e_q1 rfl (c_X6_isSet hg e_x2) ?_
  by_cases hc1 : x2 = 0
  · rw [if_pos hc1] at hf
    refine zr_ifeq_t (tgt := 18) dX5_readOnce_8 (by decide) hc1 ?_
    refine zr_aload_n (v := .inl (some l0)) dX5_readOnce_18 rfl rfl ?_
    refine zr_iconst (v := (0 : Int32)) dX5_readOnce_19 (by decide) ?_
    refine zr_iload_n (x := l3) dX5_readOnce_20 rfl rfl ?_
    revert hf; refine zbi (fun q2 e_q2 hf => ?_)
    revert hf; refine zbi2 (fun x3 h1 e_x3 hf => ?_)
    refine zq_callV (J' := jX5_readNumber) (as := [zi (0 : Int32), zi l3]) (rest := []) (r1 := (some (zi x3))) (q := (RX5, TX5, 7)) kw_231 km_X5_readNumber kt_210 dX5_readOnce_21 rfl (Nat.le_of_ble_eq_true rfl) rfl rfl e_q2 rfl (c_X5_readNumber hg e_x3) ?_
    by_cases hc2 : x3 = 0
    · rw [if_pos hc2] at hf
      refine zr_ifeq_t (tgt := 46) dX5_readOnce_24 (by decide) hc2 ?_
      refine zr_iconst (v := (0 : Int32)) dX5_readOnce_46 (by decide) ?_
      cases hf
      exact zr_ret _ rfl dX5_readOnce_47
    · rw [if_neg hc2] at hf
      refine zr_ifeq_f 46 dX5_readOnce_24 (by decide) hc2 ?_
      refine zr_aload_n (v := .inl (some l0)) dX5_readOnce_27 rfl rfl ?_
      revert hf; refine zbi (fun x4 e_x4 hf => ?_)
      refine zq_getR kg_186 dX5_readOnce_28 e_x4 ?_
      refine zr_iload_n (x := l2) dX5_readOnce_31 rfl rfl ?_
      refine zr_aload_n (v := .inl (some l0)) dX5_readOnce_32 rfl rfl ?_
      revert hf; refine zbi (fun x5 e_x5 hf => ?_)
      refine zq_getI kg_173 dX5_readOnce_33 e_x5 ?_
      revert hf; refine zbi (fun q3 e_q3 hf => ?_)
      revert hf; refine zbi2 (fun x6 h2 e_x6 hf => ?_)
      refine zq_callV (J' := jX6_set) (as := [zi l2, zi x5]) (rest := []) (r1 := (some (zi x6))) (q := (RX6, TX6, 11)) kw_263 km_X6_set kt_212 dX5_readOnce_36 rfl (Nat.le_of_ble_eq_true rfl) rfl rfl e_q3 rfl (c_X6_set hg e_x6) ?_
      by_cases hc3 : x6 = 0
      · rw [if_pos hc3] at hf
        refine zr_ifeq_t (tgt := 46) dX5_readOnce_39 (by decide) hc3 ?_
        refine zr_iconst (v := (0 : Int32)) dX5_readOnce_46 (by decide) ?_
        cases hf
        exact zr_ret _ rfl dX5_readOnce_47
      · rw [if_neg hc3] at hf
        refine zr_ifeq_f 46 dX5_readOnce_39 (by decide) hc3 ?_
        refine zr_iconst (v := (1 : Int32)) dX5_readOnce_42 (by decide) ?_
        refine zr_goto (tgt := 47) dX5_readOnce_43 (by decide) ?_
        cases hf
        exact zr_ret _ rfl dX5_readOnce_47
  · rw [if_neg hc1] at hf
    refine zr_ifeq_f 18 dX5_readOnce_8 (by decide) hc1 ?_
    refine zr_aload_n (v := .inl (some l0)) dX5_readOnce_11 rfl rfl ?_
    refine zr_iconst (v := (3 : Int32)) dX5_readOnce_12 (by decide) ?_
    refine zr_iload_n (x := l1) dX5_readOnce_13 rfl rfl ?_
    revert hf; refine zbi (fun q4 e_q4 hf => ?_)
    revert hf; refine zbi2 (fun x7 h3 e_x7 hf => ?_)
    refine zq_callV (J' := jX5_refuse) (as := [zi (3 : Int32), zi l1]) (rest := []) (r1 := (some (zi x7))) (q := (RX5, TX5, 7)) kw_227 km_X5_refuse kt_213 dX5_readOnce_14 rfl (Nat.le_of_ble_eq_true rfl) rfl rfl e_q4 rfl (c_X5_refuse hg e_x7) ?_
    by_cases hc4 : x7 = 0 ∨ x7 = 1
    · rw [if_pos hc4] at hf
      cases hf
      exact zr_ret _ (zok_b hc4) dX5_readOnce_17
    · rw [if_neg hc4] at hf
      cases hf
theorem c_X5_readOnce {g : zG} (hg : g.2.1.map (fun q => q.2) = zty) {N : Nat} {l0 : Nat} {l1 : Int32} {l2 : Int32} {l3 : Int32} {h : zH} {r : Int32} {h' : zH} (hf : f_X5_readOnce N l0 l1 l2 l3 h = some (r, h')) : zCa g jX5_readOnce [zr (some l0), zi l1, zi l2, zi l3] h (some (zi r)) h' :=
  zCa.of hg (by decide +kernel) (Nat.le_of_ble_eq_true rfl) (s_X5_readOnce hg N l0 l1 l2 l3 h r h' hf)
theorem dX5_readStatement_0 : decode cX5_readStatement 0 = .ok (.aload_n 0, 1) := by decide +kernel
theorem dX5_readStatement_1 : decode cX5_readStatement 1 = .ok (.getfield 25, 3) := by decide +kernel
theorem dX5_readStatement_4 : decode cX5_readStatement 4 = .ok (.istore_n 1, 1) := by decide +kernel
theorem dX5_readStatement_5 : decode cX5_readStatement 5 = .ok (.aload_n 0, 1) := by decide +kernel
theorem dX5_readStatement_6 : decode cX5_readStatement 6 = .ok (.invokevirtual 62, 3) := by decide +kernel
theorem dX5_readStatement_9 : decode cX5_readStatement 9 = .ok (.aload_n 0, 1) := by decide +kernel
theorem dX5_readStatement_10 : decode cX5_readStatement 10 = .ok (.iload_n 1, 1) := by decide +kernel
theorem dX5_readStatement_11 : decode cX5_readStatement 11 = .ok (.ldc 65, 2) := by decide +kernel
theorem dX5_readStatement_13 : decode cX5_readStatement 13 = .ok (.invokevirtual 67, 3) := by decide +kernel
theorem dX5_readStatement_16 : decode cX5_readStatement 16 = .ok (.ifCond .eq 9, 3) := by decide +kernel
theorem dX5_readStatement_19 : decode cX5_readStatement 19 = .ok (.aload_n 0, 1) := by decide +kernel
theorem dX5_readStatement_20 : decode cX5_readStatement 20 = .ok (.iload_n 1, 1) := by decide +kernel
theorem dX5_readStatement_21 : decode cX5_readStatement 21 = .ok (.invokevirtual 71, 3) := by decide +kernel
theorem dX5_readStatement_24 : decode cX5_readStatement 24 = .ok (.ireturn, 1) := by decide +kernel
theorem dX5_readStatement_25 : decode cX5_readStatement 25 = .ok (.aload_n 0, 1) := by decide +kernel
theorem dX5_readStatement_26 : decode cX5_readStatement 26 = .ok (.iload_n 1, 1) := by decide +kernel
theorem dX5_readStatement_27 : decode cX5_readStatement 27 = .ok (.ldc 75, 2) := by decide +kernel
theorem dX5_readStatement_29 : decode cX5_readStatement 29 = .ok (.invokevirtual 67, 3) := by decide +kernel
theorem dX5_readStatement_32 : decode cX5_readStatement 32 = .ok (.ifCond .eq 9, 3) := by decide +kernel
theorem dX5_readStatement_35 : decode cX5_readStatement 35 = .ok (.aload_n 0, 1) := by decide +kernel
theorem dX5_readStatement_36 : decode cX5_readStatement 36 = .ok (.iload_n 1, 1) := by decide +kernel
theorem dX5_readStatement_37 : decode cX5_readStatement 37 = .ok (.invokevirtual 77, 3) := by decide +kernel
theorem dX5_readStatement_40 : decode cX5_readStatement 40 = .ok (.ireturn, 1) := by decide +kernel
theorem dX5_readStatement_41 : decode cX5_readStatement 41 = .ok (.aload_n 0, 1) := by decide +kernel
theorem dX5_readStatement_42 : decode cX5_readStatement 42 = .ok (.iload_n 1, 1) := by decide +kernel
theorem dX5_readStatement_43 : decode cX5_readStatement 43 = .ok (.ldc 80, 2) := by decide +kernel
theorem dX5_readStatement_45 : decode cX5_readStatement 45 = .ok (.invokevirtual 67, 3) := by decide +kernel
theorem dX5_readStatement_48 : decode cX5_readStatement 48 = .ok (.ifCond .eq 41, 3) := by decide +kernel
theorem dX5_readStatement_51 : decode cX5_readStatement 51 = .ok (.aload_n 0, 1) := by decide +kernel
theorem dX5_readStatement_52 : decode cX5_readStatement 52 = .ok (.iload_n 1, 1) := by decide +kernel
theorem dX5_readStatement_53 : decode cX5_readStatement 53 = .ok (.invokevirtual 82, 3) := by decide +kernel
theorem dX5_readStatement_56 : decode cX5_readStatement 56 = .ok (.ifCond .eq 31, 3) := by decide +kernel
theorem dX5_readStatement_59 : decode cX5_readStatement 59 = .ok (.aload_n 0, 1) := by decide +kernel
theorem dX5_readStatement_60 : decode cX5_readStatement 60 = .ok (.iconst 0, 1) := by decide +kernel
theorem dX5_readStatement_61 : decode cX5_readStatement 61 = .ok (.bipush 20, 2) := by decide +kernel
theorem dX5_readStatement_63 : decode cX5_readStatement 63 = .ok (.invokevirtual 85, 3) := by decide +kernel
theorem dX5_readStatement_66 : decode cX5_readStatement 66 = .ok (.ifCond .eq 21, 3) := by decide +kernel
theorem dX5_readStatement_69 : decode cX5_readStatement 69 = .ok (.aload_n 0, 1) := by decide +kernel
theorem dX5_readStatement_70 : decode cX5_readStatement 70 = .ok (.getfield 21, 3) := by decide +kernel
theorem dX5_readStatement_73 : decode cX5_readStatement 73 = .ok (.aload_n 0, 1) := by decide +kernel
theorem dX5_readStatement_74 : decode cX5_readStatement 74 = .ok (.getfield 29, 3) := by decide +kernel
theorem dX5_readStatement_77 : decode cX5_readStatement 77 = .ok (.invokevirtual 88, 3) := by decide +kernel
theorem dX5_readStatement_80 : decode cX5_readStatement 80 = .ok (.ifCond .eq 7, 3) := by decide +kernel
theorem dX5_readStatement_83 : decode cX5_readStatement 83 = .ok (.iconst 1, 1) := by decide +kernel
theorem dX5_readStatement_84 : decode cX5_readStatement 84 = .ok (.goto 4, 3) := by decide +kernel
theorem dX5_readStatement_87 : decode cX5_readStatement 87 = .ok (.iconst 0, 1) := by decide +kernel
theorem dX5_readStatement_88 : decode cX5_readStatement 88 = .ok (.ireturn, 1) := by decide +kernel
theorem dX5_readStatement_89 : decode cX5_readStatement 89 = .ok (.aload_n 0, 1) := by decide +kernel
theorem dX5_readStatement_90 : decode cX5_readStatement 90 = .ok (.iload_n 1, 1) := by decide +kernel
theorem dX5_readStatement_91 : decode cX5_readStatement 91 = .ok (.ldc 91, 2) := by decide +kernel
theorem dX5_readStatement_93 : decode cX5_readStatement 93 = .ok (.invokevirtual 67, 3) := by decide +kernel
theorem dX5_readStatement_96 : decode cX5_readStatement 96 = .ok (.ifCond .eq 29, 3) := by decide +kernel
theorem dX5_readStatement_99 : decode cX5_readStatement 99 = .ok (.aload_n 0, 1) := by decide +kernel
theorem dX5_readStatement_100 : decode cX5_readStatement 100 = .ok (.iload_n 1, 1) := by decide +kernel
theorem dX5_readStatement_101 : decode cX5_readStatement 101 = .ok (.invokevirtual 82, 3) := by decide +kernel
theorem dX5_readStatement_104 : decode cX5_readStatement 104 = .ok (.ifCond .eq 19, 3) := by decide +kernel
theorem dX5_readStatement_107 : decode cX5_readStatement 107 = .ok (.aload_n 0, 1) := by decide +kernel
theorem dX5_readStatement_108 : decode cX5_readStatement 108 = .ok (.getfield 21, 3) := by decide +kernel
theorem dX5_readStatement_111 : decode cX5_readStatement 111 = .ok (.bipush 21, 2) := by decide +kernel
theorem dX5_readStatement_113 : decode cX5_readStatement 113 = .ok (.invokevirtual 88, 3) := by decide +kernel
theorem dX5_readStatement_116 : decode cX5_readStatement 116 = .ok (.ifCond .eq 7, 3) := by decide +kernel
theorem dX5_readStatement_119 : decode cX5_readStatement 119 = .ok (.iconst 1, 1) := by decide +kernel
theorem dX5_readStatement_120 : decode cX5_readStatement 120 = .ok (.goto 4, 3) := by decide +kernel
theorem dX5_readStatement_123 : decode cX5_readStatement 123 = .ok (.iconst 0, 1) := by decide +kernel
theorem dX5_readStatement_124 : decode cX5_readStatement 124 = .ok (.ireturn, 1) := by decide +kernel
theorem dX5_readStatement_125 : decode cX5_readStatement 125 = .ok (.aload_n 0, 1) := by decide +kernel
theorem dX5_readStatement_126 : decode cX5_readStatement 126 = .ok (.iload_n 1, 1) := by decide +kernel
theorem dX5_readStatement_127 : decode cX5_readStatement 127 = .ok (.ldc 93, 2) := by decide +kernel
theorem dX5_readStatement_129 : decode cX5_readStatement 129 = .ok (.invokevirtual 67, 3) := by decide +kernel
theorem dX5_readStatement_132 : decode cX5_readStatement 132 = .ok (.ifCond .eq 29, 3) := by decide +kernel
theorem dX5_readStatement_135 : decode cX5_readStatement 135 = .ok (.aload_n 0, 1) := by decide +kernel
theorem dX5_readStatement_136 : decode cX5_readStatement 136 = .ok (.iload_n 1, 1) := by decide +kernel
theorem dX5_readStatement_137 : decode cX5_readStatement 137 = .ok (.invokevirtual 82, 3) := by decide +kernel
theorem dX5_readStatement_140 : decode cX5_readStatement 140 = .ok (.ifCond .eq 19, 3) := by decide +kernel
theorem dX5_readStatement_143 : decode cX5_readStatement 143 = .ok (.aload_n 0, 1) := by decide +kernel
theorem dX5_readStatement_144 : decode cX5_readStatement 144 = .ok (.getfield 21, 3) := by decide +kernel
theorem dX5_readStatement_147 : decode cX5_readStatement 147 = .ok (.bipush 22, 2) := by decide +kernel
theorem dX5_readStatement_149 : decode cX5_readStatement 149 = .ok (.invokevirtual 88, 3) := by decide +kernel
theorem dX5_readStatement_152 : decode cX5_readStatement 152 = .ok (.ifCond .eq 7, 3) := by decide +kernel
theorem dX5_readStatement_155 : decode cX5_readStatement 155 = .ok (.iconst 1, 1) := by decide +kernel
theorem dX5_readStatement_156 : decode cX5_readStatement 156 = .ok (.goto 4, 3) := by decide +kernel
theorem dX5_readStatement_159 : decode cX5_readStatement 159 = .ok (.iconst 0, 1) := by decide +kernel
theorem dX5_readStatement_160 : decode cX5_readStatement 160 = .ok (.ireturn, 1) := by decide +kernel
theorem dX5_readStatement_161 : decode cX5_readStatement 161 = .ok (.aload_n 0, 1) := by decide +kernel
theorem dX5_readStatement_162 : decode cX5_readStatement 162 = .ok (.iload_n 1, 1) := by decide +kernel
theorem dX5_readStatement_163 : decode cX5_readStatement 163 = .ok (.ldc 95, 2) := by decide +kernel
theorem dX5_readStatement_165 : decode cX5_readStatement 165 = .ok (.invokevirtual 67, 3) := by decide +kernel
theorem dX5_readStatement_168 : decode cX5_readStatement 168 = .ok (.ifCond .eq 12, 3) := by decide +kernel
theorem dX5_readStatement_171 : decode cX5_readStatement 171 = .ok (.aload_n 0, 1) := by decide +kernel
theorem dX5_readStatement_172 : decode cX5_readStatement 172 = .ok (.iload_n 1, 1) := by decide +kernel
theorem dX5_readStatement_173 : decode cX5_readStatement 173 = .ok (.iconst 0, 1) := by decide +kernel
theorem dX5_readStatement_174 : decode cX5_readStatement 174 = .ok (.bipush 20, 2) := by decide +kernel
theorem dX5_readStatement_176 : decode cX5_readStatement 176 = .ok (.invokevirtual 97, 3) := by decide +kernel
theorem dX5_readStatement_179 : decode cX5_readStatement 179 = .ok (.ireturn, 1) := by decide +kernel
theorem dX5_readStatement_180 : decode cX5_readStatement 180 = .ok (.aload_n 0, 1) := by decide +kernel
theorem dX5_readStatement_181 : decode cX5_readStatement 181 = .ok (.iload_n 1, 1) := by decide +kernel
theorem dX5_readStatement_182 : decode cX5_readStatement 182 = .ok (.ldc 101, 2) := by decide +kernel
theorem dX5_readStatement_184 : decode cX5_readStatement 184 = .ok (.invokevirtual 67, 3) := by decide +kernel
theorem dX5_readStatement_187 : decode cX5_readStatement 187 = .ok (.ifCond .eq 12, 3) := by decide +kernel
theorem dX5_readStatement_190 : decode cX5_readStatement 190 = .ok (.aload_n 0, 1) := by decide +kernel
theorem dX5_readStatement_191 : decode cX5_readStatement 191 = .ok (.iload_n 1, 1) := by decide +kernel
theorem dX5_readStatement_192 : decode cX5_readStatement 192 = .ok (.iconst 1, 1) := by decide +kernel
theorem dX5_readStatement_193 : decode cX5_readStatement 193 = .ok (.bipush 20, 2) := by decide +kernel
theorem dX5_readStatement_195 : decode cX5_readStatement 195 = .ok (.invokevirtual 97, 3) := by decide +kernel
theorem dX5_readStatement_198 : decode cX5_readStatement 198 = .ok (.ireturn, 1) := by decide +kernel
theorem dX5_readStatement_199 : decode cX5_readStatement 199 = .ok (.aload_n 0, 1) := by decide +kernel
theorem dX5_readStatement_200 : decode cX5_readStatement 200 = .ok (.iload_n 1, 1) := by decide +kernel
theorem dX5_readStatement_201 : decode cX5_readStatement 201 = .ok (.ldc 103, 2) := by decide +kernel
theorem dX5_readStatement_203 : decode cX5_readStatement 203 = .ok (.invokevirtual 67, 3) := by decide +kernel
theorem dX5_readStatement_206 : decode cX5_readStatement 206 = .ok (.ifCond .eq 12, 3) := by decide +kernel
theorem dX5_readStatement_209 : decode cX5_readStatement 209 = .ok (.aload_n 0, 1) := by decide +kernel
theorem dX5_readStatement_210 : decode cX5_readStatement 210 = .ok (.iload_n 1, 1) := by decide +kernel
theorem dX5_readStatement_211 : decode cX5_readStatement 211 = .ok (.iconst 2, 1) := by decide +kernel
theorem dX5_readStatement_212 : decode cX5_readStatement 212 = .ok (.bipush 100, 2) := by decide +kernel
theorem dX5_readStatement_214 : decode cX5_readStatement 214 = .ok (.invokevirtual 97, 3) := by decide +kernel
theorem dX5_readStatement_217 : decode cX5_readStatement 217 = .ok (.ireturn, 1) := by decide +kernel
theorem dX5_readStatement_218 : decode cX5_readStatement 218 = .ok (.aload_n 0, 1) := by decide +kernel
theorem dX5_readStatement_219 : decode cX5_readStatement 219 = .ok (.iconst 1, 1) := by decide +kernel
theorem dX5_readStatement_220 : decode cX5_readStatement 220 = .ok (.iload_n 1, 1) := by decide +kernel
theorem dX5_readStatement_221 : decode cX5_readStatement 221 = .ok (.invokevirtual 58, 3) := by decide +kernel
theorem dX5_readStatement_224 : decode cX5_readStatement 224 = .ok (.ireturn, 1) := by decide +kernel
def f_X5_readStatement (N : Nat) (l0 : Nat) (h : zH) : Option (Int32 × zH) := (zgI h 5 (some l0) 2).bind fun x1 => (zck h 5 (some l0)).bind fun q1 => (f_X5_skipLetters N q1 h).bind fun h1 => (zck h1 5 (some l0)).bind fun q2 => zb2 (f_X5_isSpelt N q2 x1 0 h1) fun x2 h2 => if x2 = 0 then (zck h2 5 (some l0)).bind fun q3 => zb2 (f_X5_isSpelt N q3 x1 1 h2) fun x3 h3 => if x3 = 0 then (zck h3 5 (some l0)).bind fun q4 => zb2 (f_X5_isSpelt N q4 x1 2 h3) fun x4 h4 => if x4 = 0 then (zck h4 5 (some l0)).bind fun q5 => zb2 (f_X5_isSpelt N q5 x1 3 h4) fun x5 h5 => if x5 = 0 then (zck h5 5 (some l0)).bind fun q6 => zb2 (f_X5_isSpelt N q6 x1 4 h5) fun x6 h6 => if x6 = 0 then (zck h6 5 (some l0)).bind fun q7 => zb2 (f_X5_isSpelt N q7 x1 5 h6) fun x7 h7 => if x7 = 0 then (zck h7 5 (some l0)).bind fun q8 => zb2 (f_X5_isSpelt N q8 x1 6 h7) fun x8 h8 => if x8 = 0 then (zck h8 5 (some l0)).bind fun q9 => zb2 (f_X5_isSpelt N q9 x1 7 h8) fun x9 h9 => if x9 = 0 then (zck h9 5 (some l0)).bind fun q10 => zb2 (f_X5_refuse N q10 (1 : Int32) x1 h9) fun x10 h10 => if x10 = 0 ∨ x10 = 1 then some (x10, h10) else none else (zck h9 5 (some l0)).bind fun q11 => zb2 (f_X5_readOnce N q11 x1 (2 : Int32) (100 : Int32) h9) fun x11 h11 => if x11 = 0 ∨ x11 = 1 then some (x11, h11) else none else (zck h8 5 (some l0)).bind fun q12 => zb2 (f_X5_readOnce N q12 x1 (1 : Int32) (20 : Int32) h8) fun x12 h12 => if x12 = 0 ∨ x12 = 1 then some (x12, h12) else none else (zck h7 5 (some l0)).bind fun q13 => zb2 (f_X5_readOnce N q13 x1 (0 : Int32) (20 : Int32) h7) fun x13 h13 => if x13 = 0 ∨ x13 = 1 then some (x13, h13) else none else (zck h6 5 (some l0)).bind fun q14 => zb2 (f_X5_mayTie N q14 x1 h6) fun x14 h14 => if x14 = 0 then some ((0 : Int32), h14) else (zgR h14 5 (some l0) 1).bind fun x15 => (zck h14 6 x15).bind fun q15 => zb2 (f_X6_addTie N q15 (22 : Int32) h14) fun x16 h15 => if x16 = 0 then some ((0 : Int32), h15) else some ((1 : Int32), h15) else (zck h5 5 (some l0)).bind fun q16 => zb2 (f_X5_mayTie N q16 x1 h5) fun x17 h16 => if x17 = 0 then some ((0 : Int32), h16) else (zgR h16 5 (some l0) 1).bind fun x18 => (zck h16 6 x18).bind fun q17 => zb2 (f_X6_addTie N q17 (21 : Int32) h16) fun x19 h17 => if x19 = 0 then some ((0 : Int32), h17) else some ((1 : Int32), h17) else (zck h4 5 (some l0)).bind fun q18 => zb2 (f_X5_mayTie N q18 x1 h4) fun x20 h18 => if x20 = 0 then some ((0 : Int32), h18) else (zck h18 5 (some l0)).bind fun q19 => zb2 (f_X5_readNumber N q19 (0 : Int32) (20 : Int32) h18) fun x21 h19 => if x21 = 0 then some ((0 : Int32), h19) else (zgR h19 5 (some l0) 1).bind fun x22 => (zgI h19 5 (some l0) 3).bind fun x23 => (zck h19 6 x22).bind fun q20 => zb2 (f_X6_addTie N q20 x23 h19) fun x24 h20 => if x24 = 0 then some ((0 : Int32), h20) else some ((1 : Int32), h20) else (zck h3 5 (some l0)).bind fun q21 => zb2 (f_X5_readLeg N q21 x1 h3) fun x25 h21 => if x25 = 0 ∨ x25 = 1 then some (x25, h21) else none else (zck h2 5 (some l0)).bind fun q22 => zb2 (f_X5_readFace N q22 x1 h2) fun x26 h22 => if x26 = 0 ∨ x26 = 1 then some (x26, h22) else none
set_option maxHeartbeats 4000000 in
set_option maxRecDepth 100000 in
theorem s_X5_readStatement {g : zG} (hg : g.2.1.map (fun q => q.2) = zty) {h0 : zH} (N : Nat) (l0 : Nat) (h : zH) (r : Int32) (h' : zH) (hf : f_X5_readStatement N l0 h = some (r, h')) : zR g jX5_readStatement h0 0 [some (zr (some l0)), none] [] h (some (zi r)) h' := by
  unfold f_X5_readStatement at hf
  refine zr_aload_n (v := .inl (some l0)) dX5_readStatement_0 rfl rfl ?_
  revert hf; refine zbi (fun x1 e_x1 hf => ?_)
  refine zq_getI kg_148 dX5_readStatement_1 e_x1 ?_
  refine zq_istore_n (x := x1) (L' := [some (zr (some l0)), some (zi x1)]) dX5_readStatement_4 rfl (by decide) rfl ?_
  refine zr_aload_n (v := .inl (some l0)) dX5_readStatement_5 rfl rfl ?_
  revert hf; refine zbi (fun q1 e_q1 hf => ?_)
  revert hf; refine zbi (fun h1 e_h1 hf => ?_)
  refine zq_callV (J' := jX5_skipLetters) (as := []) (rest := []) (r1 := none) (q := (RX5, TX5, 7)) kw_267 km_X5_skipLetters kt_215 dX5_readStatement_6 rfl (Nat.le_of_ble_eq_true rfl) rfl rfl e_q1 rfl (c_X5_skipLetters hg e_h1) ?_
  refine zr_aload_n (v := .inl (some l0)) dX5_readStatement_9 rfl rfl ?_
  refine zr_iload_n (x := x1) dX5_readStatement_10 rfl rfl ?_
  refine zr_ldcS (i := 0) (tx := "face") (by decide) rfl rfl dX5_readStatement_11 ?_
  revert hf; refine zbi (fun q2 e_q2 hf => ?_)
  revert hf; refine zbi2 (fun x2 h2 e_x2 hf => ?_)
  refine zq_callV (J' := jX5_isSpelt) (as := [zi x1, zs 0]) (rest := []) (r1 := (some (zi x2))) (q := (RX5, TX5, 7)) kw_271 km_X5_isSpelt kt_217 dX5_readStatement_13 rfl (Nat.le_of_ble_eq_true rfl) rfl rfl e_q2 rfl (c_X5_isSpelt hg e_x2) ?_
  by_cases hc1 : x2 = 0
  · rw [if_pos hc1] at hf
    refine zr_ifeq_t (tgt := 25) dX5_readStatement_16 (by decide) hc1 ?_
    refine zr_aload_n (v := .inl (some l0)) dX5_readStatement_25 rfl rfl ?_
    refine zr_iload_n (x := x1) dX5_readStatement_26 rfl rfl ?_
    refine zr_ldcS (i := 1) (tx := "leg") (by decide) rfl rfl dX5_readStatement_27 ?_
    revert hf; refine zbi (fun q3 e_q3 hf => ?_)
    revert hf; refine zbi2 (fun x3 h3 e_x3 hf => ?_)
    refine zq_callV (J' := jX5_isSpelt) (as := [zi x1, zs 1]) (rest := []) (r1 := (some (zi x3))) (q := (RX5, TX5, 7)) kw_271 km_X5_isSpelt kt_217 dX5_readStatement_29 rfl (Nat.le_of_ble_eq_true rfl) rfl rfl e_q3 rfl (c_X5_isSpelt hg e_x3) ?_
    by_cases hc2 : x3 = 0
    · rw [if_pos hc2] at hf
      refine zr_ifeq_t (tgt := 41) dX5_readStatement_32 (by decide) hc2 ?_
      refine zr_aload_n (v := .inl (some l0)) dX5_readStatement_41 rfl rfl ?_
      refine zr_iload_n (x := x1) dX5_readStatement_42 rfl rfl ?_
      refine zr_ldcS (i := 2) (tx := "most") (by decide) rfl rfl dX5_readStatement_43 ?_
      revert hf; refine zbi (fun q4 e_q4 hf => ?_)
      revert hf; refine zbi2 (fun x4 h4 e_x4 hf => ?_)
      refine zq_callV (J' := jX5_isSpelt) (as := [zi x1, zs 2]) (rest := []) (r1 := (some (zi x4))) (q := (RX5, TX5, 7)) kw_271 km_X5_isSpelt kt_217 dX5_readStatement_45 rfl (Nat.le_of_ble_eq_true rfl) rfl rfl e_q4 rfl (c_X5_isSpelt hg e_x4) ?_
      by_cases hc3 : x4 = 0
      · rw [if_pos hc3] at hf
        refine zr_ifeq_t (tgt := 89) dX5_readStatement_48 (by decide) hc3 ?_
        refine zr_aload_n (v := .inl (some l0)) dX5_readStatement_89 rfl rfl ?_
        refine zr_iload_n (x := x1) dX5_readStatement_90 rfl rfl ?_
        refine zr_ldcS (i := 3) (tx := "last") (by decide) rfl rfl dX5_readStatement_91 ?_
        revert hf; refine zbi (fun q5 e_q5 hf => ?_)
        revert hf; refine zbi2 (fun x5 h5 e_x5 hf => ?_)
        refine zq_callV (J' := jX5_isSpelt) (as := [zi x1, zs 3]) (rest := []) (r1 := (some (zi x5))) (q := (RX5, TX5, 7)) kw_271 km_X5_isSpelt kt_217 dX5_readStatement_93 rfl (Nat.le_of_ble_eq_true rfl) rfl rfl e_q5 rfl (c_X5_isSpelt hg e_x5) ?_
        by_cases hc4 : x5 = 0
        · rw [if_pos hc4] at hf
          refine zr_ifeq_t (tgt := 125) dX5_readStatement_96 (by decide) hc4 ?_
          refine zr_aload_n (v := .inl (some l0)) dX5_readStatement_125 rfl rfl ?_
          refine zr_iload_n (x := x1) dX5_readStatement_126 rfl rfl ?_
          refine zr_ldcS (i := 4) (tx := "nearest") (by decide) rfl rfl dX5_readStatement_127 ?_
          revert hf; refine zbi (fun q6 e_q6 hf => ?_)
          revert hf; refine zbi2 (fun x6 h6 e_x6 hf => ?_)
          refine zq_callV (J' := jX5_isSpelt) (as := [zi x1, zs 4]) (rest := []) (r1 := (some (zi x6))) (q := (RX5, TX5, 7)) kw_271 km_X5_isSpelt kt_217 dX5_readStatement_129 rfl (Nat.le_of_ble_eq_true rfl) rfl rfl e_q6 rfl (c_X5_isSpelt hg e_x6) ?_
          by_cases hc5 : x6 = 0
          · rw [if_pos hc5] at hf
            refine zr_ifeq_t (tgt := 161) dX5_readStatement_132 (by decide) hc5 ?_
            refine zr_aload_n (v := .inl (some l0)) dX5_readStatement_161 rfl rfl ?_
            refine zr_iload_n (x := x1) dX5_readStatement_162 rfl rfl ?_
            refine zr_ldcS (i := 5) (tx := "bounced") (by decide) rfl rfl dX5_readStatement_163 ?_
            revert hf; refine zbi (fun q7 e_q7 hf => ?_)
            revert hf; refine zbi2 (fun x7 h7 e_x7 hf => ?_)
            refine zq_callV (J' := jX5_isSpelt) (as := [zi x1, zs 5]) (rest := []) (r1 := (some (zi x7))) (q := (RX5, TX5, 7)) kw_271 km_X5_isSpelt kt_217 dX5_readStatement_165 rfl (Nat.le_of_ble_eq_true rfl) rfl rfl e_q7 rfl (c_X5_isSpelt hg e_x7) ?_
            by_cases hc6 : x7 = 0
            · rw [if_pos hc6] at hf
              refine zr_ifeq_t (tgt := 180) dX5_readStatement_168 (by decide) hc6 ?_
              refine zr_aload_n (v := .inl (some l0)) dX5_readStatement_180 rfl rfl ?_
              refine zr_iload_n (x := x1) dX5_readStatement_181 rfl rfl ?_
              refine zr_ldcS (i := 6) (tx := "passed") (by decide) rfl rfl dX5_readStatement_182 ?_
              revert hf; refine zbi (fun q8 e_q8 hf => ?_)
              revert hf; refine zbi2 (fun x8 h8 e_x8 hf => ?_)
              refine zq_callV (J' := jX5_isSpelt) (as := [zi x1, zs 6]) (rest := []) (r1 := (some (zi x8))) (q := (RX5, TX5, 7)) kw_271 km_X5_isSpelt kt_217 dX5_readStatement_184 rfl (Nat.le_of_ble_eq_true rfl) rfl rfl e_q8 rfl (c_X5_isSpelt hg e_x8) ?_
              by_cases hc7 : x8 = 0
              · rw [if_pos hc7] at hf
                refine zr_ifeq_t (tgt := 199) dX5_readStatement_187 (by decide) hc7 ?_
                refine zr_aload_n (v := .inl (some l0)) dX5_readStatement_199 rfl rfl ?_
                refine zr_iload_n (x := x1) dX5_readStatement_200 rfl rfl ?_
                refine zr_ldcS (i := 7) (tx := "shaft") (by decide) rfl rfl dX5_readStatement_201 ?_
                revert hf; refine zbi (fun q9 e_q9 hf => ?_)
                revert hf; refine zbi2 (fun x9 h9 e_x9 hf => ?_)
                refine zq_callV (J' := jX5_isSpelt) (as := [zi x1, zs 7]) (rest := []) (r1 := (some (zi x9))) (q := (RX5, TX5, 7)) kw_271 km_X5_isSpelt kt_217 dX5_readStatement_203 rfl (Nat.le_of_ble_eq_true rfl) rfl rfl e_q9 rfl (c_X5_isSpelt hg e_x9) ?_
                by_cases hc8 : x9 = 0
                · rw [if_pos hc8] at hf
                  refine zr_ifeq_t (tgt := 218) dX5_readStatement_206 (by decide) hc8 ?_
                  refine zr_aload_n (v := .inl (some l0)) dX5_readStatement_218 rfl rfl ?_
                  refine zr_iconst (v := (1 : Int32)) dX5_readStatement_219 (by decide) ?_
                  refine zr_iload_n (x := x1) dX5_readStatement_220 rfl rfl ?_
                  revert hf; refine zbi (fun q10 e_q10 hf => ?_)
                  revert hf; refine zbi2 (fun x10 h10 e_x10 hf => ?_)
                  refine zq_callV (J' := jX5_refuse) (as := [zi (1 : Int32), zi x1]) (rest := []) (r1 := (some (zi x10))) (q := (RX5, TX5, 7)) kw_227 km_X5_refuse kt_218 dX5_readStatement_221 rfl (Nat.le_of_ble_eq_true rfl) rfl rfl e_q10 rfl (c_X5_refuse hg e_x10) ?_
                  by_cases hc9 : x10 = 0 ∨ x10 = 1
                  · rw [if_pos hc9] at hf
                    cases hf
                    exact zr_ret _ (zok_b hc9) dX5_readStatement_224
                  · rw [if_neg hc9] at hf
                    cases hf
                · rw [if_neg hc8] at hf
                  refine zr_ifeq_f 218 dX5_readStatement_206 (by decide) hc8 ?_
                  refine zr_aload_n (v := .inl (some l0)) dX5_readStatement_209 rfl rfl ?_
                  refine zr_iload_n (x := x1) dX5_readStatement_210 rfl rfl ?_
                  refine zr_iconst (v := (2 : Int32)) dX5_readStatement_211 (by decide) ?_
                  refine zr_bipush (v := (100 : Int32)) dX5_readStatement_212 (by decide) ?_
                  revert hf; refine zbi (fun q11 e_q11 hf => ?_)
                  revert hf; refine zbi2 (fun x11 h11 e_x11 hf => ?_)
                  refine zq_callV (J' := jX5_readOnce) (as := [zi x1, zi (2 : Int32), zi (100 : Int32)]) (rest := []) (r1 := (some (zi x11))) (q := (RX5, TX5, 7)) kw_275 km_X5_readOnce kt_220 dX5_readStatement_214 rfl (Nat.le_of_ble_eq_true rfl) rfl rfl e_q11 rfl (c_X5_readOnce hg e_x11) ?_
                  by_cases hc10 : x11 = 0 ∨ x11 = 1
                  · rw [if_pos hc10] at hf
                    cases hf
                    exact zr_ret _ (zok_b hc10) dX5_readStatement_217
                  · rw [if_neg hc10] at hf
                    cases hf
              · rw [if_neg hc7] at hf
                refine zr_ifeq_f 199 dX5_readStatement_187 (by decide) hc7 ?_
                refine zr_aload_n (v := .inl (some l0)) dX5_readStatement_190 rfl rfl ?_
                refine zr_iload_n (x := x1) dX5_readStatement_191 rfl rfl ?_
                refine zr_iconst (v := (1 : Int32)) dX5_readStatement_192 (by decide) ?_
                refine zr_bipush (v := (20 : Int32)) dX5_readStatement_193 (by decide) ?_
                revert hf; refine zbi (fun q12 e_q12 hf => ?_)
                revert hf; refine zbi2 (fun x12 h12 e_x12 hf => ?_)
                refine zq_callV (J' := jX5_readOnce) (as := [zi x1, zi (1 : Int32), zi (20 : Int32)]) (rest := []) (r1 := (some (zi x12))) (q := (RX5, TX5, 7)) kw_275 km_X5_readOnce kt_220 dX5_readStatement_195 rfl (Nat.le_of_ble_eq_true rfl) rfl rfl e_q12 rfl (c_X5_readOnce hg e_x12) ?_
                by_cases hc11 : x12 = 0 ∨ x12 = 1
                · rw [if_pos hc11] at hf
                  cases hf
                  exact zr_ret _ (zok_b hc11) dX5_readStatement_198
                · rw [if_neg hc11] at hf
                  cases hf
            · rw [if_neg hc6] at hf
              refine zr_ifeq_f 180 dX5_readStatement_168 (by decide) hc6 ?_
              refine zr_aload_n (v := .inl (some l0)) dX5_readStatement_171 rfl rfl ?_
              refine zr_iload_n (x := x1) dX5_readStatement_172 rfl rfl ?_
              refine zr_iconst (v := (0 : Int32)) dX5_readStatement_173 (by decide) ?_
              refine zr_bipush (v := (20 : Int32)) dX5_readStatement_174 (by decide) ?_
              revert hf; refine zbi (fun q13 e_q13 hf => ?_)
              revert hf; refine zbi2 (fun x13 h13 e_x13 hf => ?_)
              refine zq_callV (J' := jX5_readOnce) (as := [zi x1, zi (0 : Int32), zi (20 : Int32)]) (rest := []) (r1 := (some (zi x13))) (q := (RX5, TX5, 7)) kw_275 km_X5_readOnce kt_220 dX5_readStatement_176 rfl (Nat.le_of_ble_eq_true rfl) rfl rfl e_q13 rfl (c_X5_readOnce hg e_x13) ?_
              by_cases hc12 : x13 = 0 ∨ x13 = 1
              · rw [if_pos hc12] at hf
                cases hf
                exact zr_ret _ (zok_b hc12) dX5_readStatement_179
              · rw [if_neg hc12] at hf
                cases hf
          · rw [if_neg hc5] at hf
            refine zr_ifeq_f 161 dX5_readStatement_132 (by decide) hc5 ?_
            refine zr_aload_n (v := .inl (some l0)) dX5_readStatement_135 rfl rfl ?_
            refine zr_iload_n (x := x1) dX5_readStatement_136 rfl rfl ?_
            revert hf; refine zbi (fun q14 e_q14 hf => ?_)
            revert hf; refine zbi2 (fun x14 h14 e_x14 hf => ?_)
            refine zq_callV (J' := jX5_mayTie) (as := [zi x1]) (rest := []) (r1 := (some (zi x14))) (q := (RX5, TX5, 7)) kw_279 km_X5_mayTie kt_222 dX5_readStatement_137 rfl (Nat.le_of_ble_eq_true rfl) rfl rfl e_q14 rfl (c_X5_mayTie hg e_x14) ?_
            by_cases hc13 : x14 = 0
            · rw [if_pos hc13] at hf
              refine zr_ifeq_t (tgt := 159) dX5_readStatement_140 (by decide) hc13 ?_
              refine zr_iconst (v := (0 : Int32)) dX5_readStatement_159 (by decide) ?_
              cases hf
              exact zr_ret _ rfl dX5_readStatement_160
            · rw [if_neg hc13] at hf
              refine zr_ifeq_f 159 dX5_readStatement_140 (by decide) hc13 ?_
              refine zr_aload_n (v := .inl (some l0)) dX5_readStatement_143 rfl rfl ?_
              revert hf; refine zbi (fun x15 e_x15 hf => ?_)
              refine zq_getR kg_186 dX5_readStatement_144 e_x15 ?_
              refine zr_bipush (v := (22 : Int32)) dX5_readStatement_147 (by decide) ?_
              revert hf; refine zbi (fun q15 e_q15 hf => ?_)
              revert hf; refine zbi2 (fun x16 h15 e_x16 hf => ?_)
              refine zq_callV (J' := jX6_addTie) (as := [zi (22 : Int32)]) (rest := []) (r1 := (some (zi x16))) (q := (RX6, TX6, 11)) kw_283 km_X6_addTie kt_224 dX5_readStatement_149 rfl (Nat.le_of_ble_eq_true rfl) rfl rfl e_q15 rfl (c_X6_addTie hg e_x16) ?_
              by_cases hc14 : x16 = 0
              · rw [if_pos hc14] at hf
                refine zr_ifeq_t (tgt := 159) dX5_readStatement_152 (by decide) hc14 ?_
                refine zr_iconst (v := (0 : Int32)) dX5_readStatement_159 (by decide) ?_
                cases hf
                exact zr_ret _ rfl dX5_readStatement_160
              · rw [if_neg hc14] at hf
                refine zr_ifeq_f 159 dX5_readStatement_152 (by decide) hc14 ?_
                refine zr_iconst (v := (1 : Int32)) dX5_readStatement_155 (by decide) ?_
                refine zr_goto (tgt := 160) dX5_readStatement_156 (by decide) ?_
                cases hf
                exact zr_ret _ rfl dX5_readStatement_160
        · rw [if_neg hc4] at hf
          refine zr_ifeq_f 125 dX5_readStatement_96 (by decide) hc4 ?_
          refine zr_aload_n (v := .inl (some l0)) dX5_readStatement_99 rfl rfl ?_
          refine zr_iload_n (x := x1) dX5_readStatement_100 rfl rfl ?_
          revert hf; refine zbi (fun q16 e_q16 hf => ?_)
          revert hf; refine zbi2 (fun x17 h16 e_x17 hf => ?_)
          refine zq_callV (J' := jX5_mayTie) (as := [zi x1]) (rest := []) (r1 := (some (zi x17))) (q := (RX5, TX5, 7)) kw_279 km_X5_mayTie kt_222 dX5_readStatement_101 rfl (Nat.le_of_ble_eq_true rfl) rfl rfl e_q16 rfl (c_X5_mayTie hg e_x17) ?_
          by_cases hc15 : x17 = 0
          · rw [if_pos hc15] at hf
            refine zr_ifeq_t (tgt := 123) dX5_readStatement_104 (by decide) hc15 ?_
            refine zr_iconst (v := (0 : Int32)) dX5_readStatement_123 (by decide) ?_
            cases hf
            exact zr_ret _ rfl dX5_readStatement_124
          · rw [if_neg hc15] at hf
            refine zr_ifeq_f 123 dX5_readStatement_104 (by decide) hc15 ?_
            refine zr_aload_n (v := .inl (some l0)) dX5_readStatement_107 rfl rfl ?_
            revert hf; refine zbi (fun x18 e_x18 hf => ?_)
            refine zq_getR kg_186 dX5_readStatement_108 e_x18 ?_
            refine zr_bipush (v := (21 : Int32)) dX5_readStatement_111 (by decide) ?_
            revert hf; refine zbi (fun q17 e_q17 hf => ?_)
            revert hf; refine zbi2 (fun x19 h17 e_x19 hf => ?_)
            refine zq_callV (J' := jX6_addTie) (as := [zi (21 : Int32)]) (rest := []) (r1 := (some (zi x19))) (q := (RX6, TX6, 11)) kw_283 km_X6_addTie kt_224 dX5_readStatement_113 rfl (Nat.le_of_ble_eq_true rfl) rfl rfl e_q17 rfl (c_X6_addTie hg e_x19) ?_
            by_cases hc16 : x19 = 0
            · rw [if_pos hc16] at hf
              refine zr_ifeq_t (tgt := 123) dX5_readStatement_116 (by decide) hc16 ?_
              refine zr_iconst (v := (0 : Int32)) dX5_readStatement_123 (by decide) ?_
              cases hf
              exact zr_ret _ rfl dX5_readStatement_124
            · rw [if_neg hc16] at hf
              refine zr_ifeq_f 123 dX5_readStatement_116 (by decide) hc16 ?_
              refine zr_iconst (v := (1 : Int32)) dX5_readStatement_119 (by decide) ?_
              refine zr_goto (tgt := 124) dX5_readStatement_120 (by decide) ?_
              cases hf
              exact zr_ret _ rfl dX5_readStatement_124
      · rw [if_neg hc3] at hf
        refine zr_ifeq_f 89 dX5_readStatement_48 (by decide) hc3 ?_
        refine zr_aload_n (v := .inl (some l0)) dX5_readStatement_51 rfl rfl ?_
        refine zr_iload_n (x := x1) dX5_readStatement_52 rfl rfl ?_
        revert hf; refine zbi (fun q18 e_q18 hf => ?_)
        revert hf; refine zbi2 (fun x20 h18 e_x20 hf => ?_)
        refine zq_callV (J' := jX5_mayTie) (as := [zi x1]) (rest := []) (r1 := (some (zi x20))) (q := (RX5, TX5, 7)) kw_279 km_X5_mayTie kt_222 dX5_readStatement_53 rfl (Nat.le_of_ble_eq_true rfl) rfl rfl e_q18 rfl (c_X5_mayTie hg e_x20) ?_
        by_cases hc17 : x20 = 0
        · rw [if_pos hc17] at hf
          refine zr_ifeq_t (tgt := 87) dX5_readStatement_56 (by decide) hc17 ?_
          refine zr_iconst (v := (0 : Int32)) dX5_readStatement_87 (by decide) ?_
          cases hf
          exact zr_ret _ rfl dX5_readStatement_88
        · rw [if_neg hc17] at hf
          refine zr_ifeq_f 87 dX5_readStatement_56 (by decide) hc17 ?_
          refine zr_aload_n (v := .inl (some l0)) dX5_readStatement_59 rfl rfl ?_
          refine zr_iconst (v := (0 : Int32)) dX5_readStatement_60 (by decide) ?_
          refine zr_bipush (v := (20 : Int32)) dX5_readStatement_61 (by decide) ?_
          revert hf; refine zbi (fun q19 e_q19 hf => ?_)
          revert hf; refine zbi2 (fun x21 h19 e_x21 hf => ?_)
          refine zq_callV (J' := jX5_readNumber) (as := [zi (0 : Int32), zi (20 : Int32)]) (rest := []) (r1 := (some (zi x21))) (q := (RX5, TX5, 7)) kw_231 km_X5_readNumber kt_225 dX5_readStatement_63 rfl (Nat.le_of_ble_eq_true rfl) rfl rfl e_q19 rfl (c_X5_readNumber hg e_x21) ?_
          by_cases hc18 : x21 = 0
          · rw [if_pos hc18] at hf
            refine zr_ifeq_t (tgt := 87) dX5_readStatement_66 (by decide) hc18 ?_
            refine zr_iconst (v := (0 : Int32)) dX5_readStatement_87 (by decide) ?_
            cases hf
            exact zr_ret _ rfl dX5_readStatement_88
          · rw [if_neg hc18] at hf
            refine zr_ifeq_f 87 dX5_readStatement_66 (by decide) hc18 ?_
            refine zr_aload_n (v := .inl (some l0)) dX5_readStatement_69 rfl rfl ?_
            revert hf; refine zbi (fun x22 e_x22 hf => ?_)
            refine zq_getR kg_186 dX5_readStatement_70 e_x22 ?_
            refine zr_aload_n (v := .inl (some l0)) dX5_readStatement_73 rfl rfl ?_
            revert hf; refine zbi (fun x23 e_x23 hf => ?_)
            refine zq_getI kg_173 dX5_readStatement_74 e_x23 ?_
            revert hf; refine zbi (fun q20 e_q20 hf => ?_)
            revert hf; refine zbi2 (fun x24 h20 e_x24 hf => ?_)
            refine zq_callV (J' := jX6_addTie) (as := [zi x23]) (rest := []) (r1 := (some (zi x24))) (q := (RX6, TX6, 11)) kw_283 km_X6_addTie kt_224 dX5_readStatement_77 rfl (Nat.le_of_ble_eq_true rfl) rfl rfl e_q20 rfl (c_X6_addTie hg e_x24) ?_
            by_cases hc19 : x24 = 0
            · rw [if_pos hc19] at hf
              refine zr_ifeq_t (tgt := 87) dX5_readStatement_80 (by decide) hc19 ?_
              refine zr_iconst (v := (0 : Int32)) dX5_readStatement_87 (by decide) ?_
              cases hf
              exact zr_ret _ rfl dX5_readStatement_88
            · rw [if_neg hc19] at hf
              refine zr_ifeq_f 87 dX5_readStatement_80 (by decide) hc19 ?_
              refine zr_iconst (v := (1 : Int32)) dX5_readStatement_83 (by decide) ?_
              refine zr_goto (tgt := 88) dX5_readStatement_84 (by decide) ?_
              cases hf
              exact zr_ret _ rfl dX5_readStatement_88
    · rw [if_neg hc2] at hf
      refine zr_ifeq_f 41 dX5_readStatement_32 (by decide) hc2 ?_
      refine zr_aload_n (v := .inl (some l0)) dX5_readStatement_35 rfl rfl ?_
      refine zr_iload_n (x := x1) dX5_readStatement_36 rfl rfl ?_
      revert hf; refine zbi (fun q21 e_q21 hf => ?_)
      revert hf; refine zbi2 (fun x25 h21 e_x25 hf => ?_)
      refine zq_callV (J' := jX5_readLeg) (as := [zi x1]) (rest := []) (r1 := (some (zi x25))) (q := (RX5, TX5, 7)) kw_287 km_X5_readLeg kt_227 dX5_readStatement_37 rfl (Nat.le_of_ble_eq_true rfl) rfl rfl e_q21 rfl (c_X5_readLeg hg e_x25) ?_
      by_cases hc20 : x25 = 0 ∨ x25 = 1
      · rw [if_pos hc20] at hf
        cases hf
        exact zr_ret _ (zok_b hc20) dX5_readStatement_40
      · rw [if_neg hc20] at hf
        cases hf
  · rw [if_neg hc1] at hf
    refine zr_ifeq_f 25 dX5_readStatement_16 (by decide) hc1 ?_
    refine zr_aload_n (v := .inl (some l0)) dX5_readStatement_19 rfl rfl ?_
    refine zr_iload_n (x := x1) dX5_readStatement_20 rfl rfl ?_
    revert hf; refine zbi (fun q22 e_q22 hf => ?_)
    revert hf; refine zbi2 (fun x26 h22 e_x26 hf => ?_)
    refine zq_callV (J' := jX5_readFace) (as := [zi x1]) (rest := []) (r1 := (some (zi x26))) (q := (RX5, TX5, 7)) kw_291 km_X5_readFace kt_229 dX5_readStatement_21 rfl (Nat.le_of_ble_eq_true rfl) rfl rfl e_q22 rfl (c_X5_readFace hg e_x26) ?_
    by_cases hc21 : x26 = 0 ∨ x26 = 1
    · rw [if_pos hc21] at hf
      cases hf
      exact zr_ret _ (zok_b hc21) dX5_readStatement_24
    · rw [if_neg hc21] at hf
      cases hf
theorem c_X5_readStatement {g : zG} (hg : g.2.1.map (fun q => q.2) = zty) {N : Nat} {l0 : Nat} {h : zH} {r : Int32} {h' : zH} (hf : f_X5_readStatement N l0 h = some (r, h')) : zCa g jX5_readStatement [zr (some l0)] h (some (zi r)) h' :=
  zCa.of hg (by decide +kernel) (Nat.le_of_ble_eq_true rfl) (s_X5_readStatement hg N l0 h r h' hf)
theorem dX5_read_0 : decode cX5_read 0 = .ok (.aload_n 0, 1) := by decide +kernel
theorem dX5_read_1 : decode cX5_read 1 = .ok (.new 18, 3) := by decide +kernel
theorem dX5_read_4 : decode cX5_read 4 = .ok (.dup, 1) := by decide +kernel
theorem dX5_read_5 : decode cX5_read 5 = .ok (.invokespecial 20, 3) := by decide +kernel
theorem dX5_read_8 : decode cX5_read 8 = .ok (.putfield 21, 3) := by decide +kernel
theorem dX5_read_11 : decode cX5_read 11 = .ok (.aload_n 0, 1) := by decide +kernel
theorem dX5_read_12 : decode cX5_read 12 = .ok (.iconst 0, 1) := by decide +kernel
theorem dX5_read_13 : decode cX5_read 13 = .ok (.putfield 25, 3) := by decide +kernel
theorem dX5_read_16 : decode cX5_read 16 = .ok (.aload_n 0, 1) := by decide +kernel
theorem dX5_read_17 : decode cX5_read 17 = .ok (.iconst 0, 1) := by decide +kernel
theorem dX5_read_18 : decode cX5_read 18 = .ok (.putfield 35, 3) := by decide +kernel
theorem dX5_read_21 : decode cX5_read 21 = .ok (.aload_n 0, 1) := by decide +kernel
theorem dX5_read_22 : decode cX5_read 22 = .ok (.iconst (-1), 1) := by decide +kernel
theorem dX5_read_23 : decode cX5_read 23 = .ok (.putfield 38, 3) := by decide +kernel
theorem dX5_read_26 : decode cX5_read 26 = .ok (.aload_n 0, 1) := by decide +kernel
theorem dX5_read_27 : decode cX5_read 27 = .ok (.invokevirtual 41, 3) := by decide +kernel
theorem dX5_read_30 : decode cX5_read 30 = .ok (.iconst 0, 1) := by decide +kernel
theorem dX5_read_31 : decode cX5_read 31 = .ok (.istore_n 1, 1) := by decide +kernel
theorem dX5_read_32 : decode cX5_read 32 = .ok (.iload_n 1, 1) := by decide +kernel
theorem dX5_read_33 : decode cX5_read 33 = .ok (.sipush 1000, 3) := by decide +kernel
theorem dX5_read_36 : decode cX5_read 36 = .ok (.if_icmp .ge 50, 3) := by decide +kernel
theorem dX5_read_39 : decode cX5_read 39 = .ok (.aload_n 0, 1) := by decide +kernel
theorem dX5_read_40 : decode cX5_read 40 = .ok (.getfield 35, 3) := by decide +kernel
theorem dX5_read_43 : decode cX5_read 43 = .ok (.ifCond .ne 43, 3) := by decide +kernel
theorem dX5_read_46 : decode cX5_read 46 = .ok (.aload_n 0, 1) := by decide +kernel
theorem dX5_read_47 : decode cX5_read 47 = .ok (.getfield 25, 3) := by decide +kernel
theorem dX5_read_50 : decode cX5_read 50 = .ok (.aload_n 0, 1) := by decide +kernel
theorem dX5_read_51 : decode cX5_read 51 = .ok (.getfield 12, 3) := by decide +kernel
theorem dX5_read_54 : decode cX5_read 54 = .ok (.getfield 44, 3) := by decide +kernel
theorem dX5_read_57 : decode cX5_read 57 = .ok (.if_icmp .ge 29, 3) := by decide +kernel
theorem dX5_read_60 : decode cX5_read 60 = .ok (.aload_n 0, 1) := by decide +kernel
theorem dX5_read_61 : decode cX5_read 61 = .ok (.invokevirtual 47, 3) := by decide +kernel
theorem dX5_read_64 : decode cX5_read 64 = .ok (.ifCond .eq 16, 3) := by decide +kernel
theorem dX5_read_67 : decode cX5_read 67 = .ok (.aload_n 0, 1) := by decide +kernel
theorem dX5_read_68 : decode cX5_read 68 = .ok (.bipush 59, 2) := by decide +kernel
theorem dX5_read_70 : decode cX5_read 70 = .ok (.invokevirtual 51, 3) := by decide +kernel
theorem dX5_read_73 : decode cX5_read 73 = .ok (.ifCond .eq 7, 3) := by decide +kernel
theorem dX5_read_76 : decode cX5_read 76 = .ok (.aload_n 0, 1) := by decide +kernel
theorem dX5_read_77 : decode cX5_read 77 = .ok (.invokevirtual 41, 3) := by decide +kernel
theorem dX5_read_80 : decode cX5_read 80 = .ok (.iinc 1 1, 3) := by decide +kernel
theorem dX5_read_83 : decode cX5_read 83 = .ok (.goto (-51), 3) := by decide +kernel
theorem dX5_read_86 : decode cX5_read 86 = .ok (.aload_n 0, 1) := by decide +kernel
theorem dX5_read_87 : decode cX5_read 87 = .ok (.getfield 35, 3) := by decide +kernel
theorem dX5_read_90 : decode cX5_read 90 = .ok (.ifCond .ne 26, 3) := by decide +kernel
theorem dX5_read_93 : decode cX5_read 93 = .ok (.aload_n 0, 1) := by decide +kernel
theorem dX5_read_94 : decode cX5_read 94 = .ok (.getfield 21, 3) := by decide +kernel
theorem dX5_read_97 : decode cX5_read 97 = .ok (.getfield 55, 3) := by decide +kernel
theorem dX5_read_100 : decode cX5_read 100 = .ok (.ifCond .ne 16, 3) := by decide +kernel
theorem dX5_read_103 : decode cX5_read 103 = .ok (.aload_n 0, 1) := by decide +kernel
theorem dX5_read_104 : decode cX5_read 104 = .ok (.iconst 1, 1) := by decide +kernel
theorem dX5_read_105 : decode cX5_read 105 = .ok (.aload_n 0, 1) := by decide +kernel
theorem dX5_read_106 : decode cX5_read 106 = .ok (.getfield 12, 3) := by decide +kernel
theorem dX5_read_109 : decode cX5_read 109 = .ok (.getfield 44, 3) := by decide +kernel
theorem dX5_read_112 : decode cX5_read 112 = .ok (.invokevirtual 58, 3) := by decide +kernel
theorem dX5_read_115 : decode cX5_read 115 = .ok (.pop, 1) := by decide +kernel
theorem dX5_read_116 : decode cX5_read 116 = .ok (.aload_n 0, 1) := by decide +kernel
theorem dX5_read_117 : decode cX5_read 117 = .ok (.getfield 35, 3) := by decide +kernel
theorem dX5_read_120 : decode cX5_read 120 = .ok (.ifCond .ne 10, 3) := by decide +kernel
theorem dX5_read_123 : decode cX5_read 123 = .ok (.aload_n 0, 1) := by decide +kernel
theorem dX5_read_124 : decode cX5_read 124 = .ok (.getfield 21, 3) := by decide +kernel
theorem dX5_read_127 : decode cX5_read 127 = .ok (.goto 4, 3) := by decide +kernel
theorem dX5_read_130 : decode cX5_read 130 = .ok (.aconst_null, 1) := by decide +kernel
theorem dX5_read_131 : decode cX5_read 131 = .ok (.areturn, 1) := by decide +kernel
def f_X5_read_116 (N : Nat) (l0 : Nat) (h : zH) : Option ((Option Nat) × zH) := (zgI h 5 (some l0) 5).bind fun x1 => if x1 = 0 then (zgR h 5 (some l0) 1).bind fun x2 => some (x2, h) else some (none, h)
set_option maxHeartbeats 4000000 in
set_option maxRecDepth 100000 in
theorem s_X5_read_116 {g : zG} (hg : g.2.1.map (fun q => q.2) = zty) {h0 : zH} (N : Nat) (l0 : Nat) (h : zH) (r : Option Nat) (h' : zH) (hf : f_X5_read_116 N l0 h = some (r, h')) : zR g jX5_read h0 116 [some (zr (some l0)), none] [] h (some (zr r)) h' := by
  unfold f_X5_read_116 at hf
  refine zr_aload_n (v := .inl (some l0)) dX5_read_116 rfl rfl ?_
  revert hf; refine zbi (fun x1 e_x1 hf => ?_)
  refine zq_getI kg_230 dX5_read_117 e_x1 ?_
  by_cases hc1 : x1 = 0
  · rw [if_pos hc1] at hf
    refine zr_ifne_f 130 dX5_read_120 (by decide) hc1 ?_
    refine zr_aload_n (v := .inl (some l0)) dX5_read_123 rfl rfl ?_
    revert hf; refine zbi (fun x2 e_x2 hf => ?_)
    refine zq_getR kg_186 dX5_read_124 e_x2 ?_
    refine zr_goto (tgt := 131) dX5_read_127 (by decide) ?_
    cases hf
    exact zr_ret _ (Or.inl ⟨_, rfl⟩) dX5_read_131
  · rw [if_neg hc1] at hf
    refine zr_ifne_t (tgt := 130) dX5_read_120 (by decide) hc1 ?_
    refine zr_null dX5_read_130 ?_
    cases hf
    exact zr_ret _ (Or.inl ⟨_, rfl⟩) dX5_read_131
def f_X5_read_86 (N : Nat) (l0 : Nat) (h : zH) : Option ((Option Nat) × zH) := (zgI h 5 (some l0) 5).bind fun x1 => if x1 = 0 then (zgR h 5 (some l0) 1).bind fun x2 => (zgI h 6 x2 4).bind fun x3 => if x3 = 0 then (zgR h 5 (some l0) 0).bind fun x4 => (zgI h 10 x4 1).bind fun x5 => (zck h 5 (some l0)).bind fun q1 => zb2 (f_X5_refuse N q1 (1 : Int32) x5 h) fun x6 h1 => f_X5_read_116 N l0 h1 else f_X5_read_116 N l0 h else f_X5_read_116 N l0 h
set_option maxHeartbeats 4000000 in
set_option maxRecDepth 100000 in
theorem s_X5_read_86 {g : zG} (hg : g.2.1.map (fun q => q.2) = zty) {h0 : zH} (N : Nat) (l0 : Nat) (h : zH) (r : Option Nat) (h' : zH) (hf : f_X5_read_86 N l0 h = some (r, h')) : zR g jX5_read h0 86 [some (zr (some l0)), none] [] h (some (zr r)) h' := by
  unfold f_X5_read_86 at hf
  refine zr_aload_n (v := .inl (some l0)) dX5_read_86 rfl rfl ?_
  revert hf; refine zbi (fun x1 e_x1 hf => ?_)
  refine zq_getI kg_230 dX5_read_87 e_x1 ?_
  by_cases hc1 : x1 = 0
  · rw [if_pos hc1] at hf
    refine zr_ifne_f 116 dX5_read_90 (by decide) hc1 ?_
    refine zr_aload_n (v := .inl (some l0)) dX5_read_93 rfl rfl ?_
    revert hf; refine zbi (fun x2 e_x2 hf => ?_)
    refine zq_getR kg_186 dX5_read_94 e_x2 ?_
    revert hf; refine zbi (fun x3 e_x3 hf => ?_)
    refine zq_getI kg_197 dX5_read_97 e_x3 ?_
    by_cases hc2 : x3 = 0
    · rw [if_pos hc2] at hf
      refine zr_ifne_f 116 dX5_read_100 (by decide) hc2 ?_
      refine zr_aload_n (v := .inl (some l0)) dX5_read_103 rfl rfl ?_
      refine zr_iconst (v := (1 : Int32)) dX5_read_104 (by decide) ?_
      refine zr_aload_n (v := .inl (some l0)) dX5_read_105 rfl rfl ?_
      revert hf; refine zbi (fun x4 e_x4 hf => ?_)
      refine zq_getR kg_149 dX5_read_106 e_x4 ?_
      revert hf; refine zbi (fun x5 e_x5 hf => ?_)
      refine zq_getI kg_150 dX5_read_109 e_x5 ?_
      revert hf; refine zbi (fun q1 e_q1 hf => ?_)
      revert hf; refine zbi2 (fun x6 h1 e_x6 hf => ?_)
      refine zq_callV (J' := jX5_refuse) (as := [zi (1 : Int32), zi x5]) (rest := []) (r1 := (some (zi x6))) (q := (RX5, TX5, 7)) kw_227 km_X5_refuse kt_231 dX5_read_112 rfl (Nat.le_of_ble_eq_true rfl) rfl rfl e_q1 rfl (c_X5_refuse hg e_x6) ?_
      refine zr_pop dX5_read_115 ?_
      exact s_X5_read_116 hg N l0 h1 r h' hf
    · rw [if_neg hc2] at hf
      refine zr_ifne_t (tgt := 116) dX5_read_100 (by decide) hc2 ?_
      exact s_X5_read_116 hg N l0 h r h' hf
  · rw [if_neg hc1] at hf
    refine zr_ifne_t (tgt := 116) dX5_read_90 (by decide) hc1 ?_
    exact s_X5_read_116 hg N l0 h r h' hf
def f_X5_read_32 (N : Nat) : Nat → Nat → Int32 → zH → Option ((Option Nat) × zH)
  | 0, _, _, _ => none
  | n + 1, l0, l1, h => if (1000 : Int32) ≤ l1 then f_X5_read_86 N l0 h else (zgI h 5 (some l0) 5).bind fun x1 => if x1 = 0 then (zgI h 5 (some l0) 2).bind fun x2 => (zgR h 5 (some l0) 0).bind fun x3 => (zgI h 10 x3 1).bind fun x4 => if x4 ≤ x2 then f_X5_read_86 N l0 h else (zck h 5 (some l0)).bind fun q1 => zb2 (f_X5_readStatement N q1 h) fun x5 h1 => if x5 = 0 then f_X5_read_32 N n l0 (l1 + (1 : Int32)) h1 else (zck h1 5 (some l0)).bind fun q2 => zb2 (f_X5_readSign N q2 (59 : Int32) h1) fun x6 h2 => if x6 = 0 then f_X5_read_32 N n l0 (l1 + (1 : Int32)) h2 else (zck h2 5 (some l0)).bind fun q3 => (f_X5_skipBlanks N q3 h2).bind fun h3 => f_X5_read_32 N n l0 (l1 + (1 : Int32)) h3 else f_X5_read_86 N l0 h
set_option maxHeartbeats 4000000 in
set_option maxRecDepth 100000 in
theorem s_X5_read_32 {g : zG} (hg : g.2.1.map (fun q => q.2) = zty) {h0 : zH} (N : Nat) : ∀ (n : Nat) (l0 : Nat) (l1 : Int32) (h : zH) (r : Option Nat) (h' : zH), f_X5_read_32 N n l0 l1 h = some (r, h') → zR g jX5_read h0 32 [some (zr (some l0)), some (zi l1)] [] h (some (zr r)) h' := by
  intro n
  induction n with
  | zero =>
    intro l0 l1 h r h' hf
    cases hf
  | succ n ih =>
    intro l0 l1 h r h' hf
    rw [f_X5_read_32] at hf
    refine zr_iload_n (x := l1) dX5_read_32 rfl rfl ?_
    refine zr_sipush (v := (1000 : Int32)) dX5_read_33 (by decide) ?_
    by_cases hc1 : (1000 : Int32) ≤ l1
    · rw [if_pos hc1] at hf
      refine zr_icge_t (tgt := 86) dX5_read_36 (by decide) hc1 ?_
      refine zr_forget 1 (L' := [some (zr (some l0)), none]) rfl ?_
      exact s_X5_read_86 hg N l0 h r h' hf
    · rw [if_neg hc1] at hf
      refine zr_icge_f 86 dX5_read_36 (by decide) hc1 ?_
      refine zr_aload_n (v := .inl (some l0)) dX5_read_39 rfl rfl ?_
      revert hf; refine zbi (fun x1 e_x1 hf => ?_)
      refine zq_getI kg_230 dX5_read_40 e_x1 ?_
      by_cases hc2 : x1 = 0
      · rw [if_pos hc2] at hf
        refine zr_ifne_f 86 dX5_read_43 (by decide) hc2 ?_
        refine zr_aload_n (v := .inl (some l0)) dX5_read_46 rfl rfl ?_
        revert hf; refine zbi (fun x2 e_x2 hf => ?_)
        refine zq_getI kg_148 dX5_read_47 e_x2 ?_
        refine zr_aload_n (v := .inl (some l0)) dX5_read_50 rfl rfl ?_
        revert hf; refine zbi (fun x3 e_x3 hf => ?_)
        refine zq_getR kg_149 dX5_read_51 e_x3 ?_
        revert hf; refine zbi (fun x4 e_x4 hf => ?_)
        refine zq_getI kg_150 dX5_read_54 e_x4 ?_
        by_cases hc3 : x4 ≤ x2
        · rw [if_pos hc3] at hf
          refine zr_icge_t (tgt := 86) dX5_read_57 (by decide) hc3 ?_
          refine zr_forget 1 (L' := [some (zr (some l0)), none]) rfl ?_
          exact s_X5_read_86 hg N l0 h r h' hf
        · rw [if_neg hc3] at hf
          refine zr_icge_f 86 dX5_read_57 (by decide) hc3 ?_
          refine zr_aload_n (v := .inl (some l0)) dX5_read_60 rfl rfl ?_
          revert hf; refine zbi (fun q1 e_q1 hf => ?_)
          revert hf; refine zbi2 (fun x5 h1 e_x5 hf => ?_)
          refine zq_callV (J' := jX5_readStatement) (as := []) (rest := []) (r1 := (some (zi x5))) (q := (RX5, TX5, 7)) kw_295 km_X5_readStatement kt_233 dX5_read_61 rfl (Nat.le_of_ble_eq_true rfl) rfl rfl e_q1 rfl (c_X5_readStatement hg e_x5) ?_
          by_cases hc4 : x5 = 0
          · rw [if_pos hc4] at hf
            refine zr_ifeq_t (tgt := 80) dX5_read_64 (by decide) hc4 ?_
            refine zq_iinc (x := l1) (y := (1 : Int32)) (L' := [some (zr (some l0)), some (zi (l1 + (1 : Int32)))]) dX5_read_80 rfl (by decide) (by decide) rfl ?_
            refine zr_goto (tgt := 32) dX5_read_83 (by decide) ?_
            exact ih l0 (l1 + (1 : Int32)) h1 r h' hf
          · rw [if_neg hc4] at hf
            refine zr_ifeq_f 80 dX5_read_64 (by decide) hc4 ?_
            refine zr_aload_n (v := .inl (some l0)) dX5_read_67 rfl rfl ?_
            refine zr_bipush (v := (59 : Int32)) dX5_read_68 (by decide) ?_
            revert hf; refine zbi (fun q2 e_q2 hf => ?_)
            revert hf; refine zbi2 (fun x6 h2 e_x6 hf => ?_)
            refine zq_callV (J' := jX5_readSign) (as := [zi (59 : Int32)]) (rest := []) (r1 := (some (zi x6))) (q := (RX5, TX5, 7)) kw_235 km_X5_readSign kt_234 dX5_read_70 rfl (Nat.le_of_ble_eq_true rfl) rfl rfl e_q2 rfl (c_X5_readSign hg e_x6) ?_
            by_cases hc5 : x6 = 0
            · rw [if_pos hc5] at hf
              refine zr_ifeq_t (tgt := 80) dX5_read_73 (by decide) hc5 ?_
              refine zq_iinc (x := l1) (y := (1 : Int32)) (L' := [some (zr (some l0)), some (zi (l1 + (1 : Int32)))]) dX5_read_80 rfl (by decide) (by decide) rfl ?_
              refine zr_goto (tgt := 32) dX5_read_83 (by decide) ?_
              exact ih l0 (l1 + (1 : Int32)) h2 r h' hf
            · rw [if_neg hc5] at hf
              refine zr_ifeq_f 80 dX5_read_73 (by decide) hc5 ?_
              refine zr_aload_n (v := .inl (some l0)) dX5_read_76 rfl rfl ?_
              revert hf; refine zbi (fun q3 e_q3 hf => ?_)
              revert hf; refine zbi (fun h3 e_h3 hf => ?_)
              refine zq_callV (J' := jX5_skipBlanks) (as := []) (rest := []) (r1 := none) (q := (RX5, TX5, 7)) kw_220 km_X5_skipBlanks kt_235 dX5_read_77 rfl (Nat.le_of_ble_eq_true rfl) rfl rfl e_q3 rfl (c_X5_skipBlanks hg e_h3) ?_
              refine zq_iinc (x := l1) (y := (1 : Int32)) (L' := [some (zr (some l0)), some (zi (l1 + (1 : Int32)))]) dX5_read_80 rfl (by decide) (by decide) rfl ?_
              refine zr_goto (tgt := 32) dX5_read_83 (by decide) ?_
              exact ih l0 (l1 + (1 : Int32)) h3 r h' hf
      · rw [if_neg hc2] at hf
        refine zr_ifne_t (tgt := 86) dX5_read_43 (by decide) hc2 ?_
        refine zr_forget 1 (L' := [some (zr (some l0)), none]) rfl ?_
        exact s_X5_read_86 hg N l0 h r h' hf
def f_X5_read (N : Nat) (l0 : Nat) (h : zH) : Option ((Option Nat) × zH) := znw h (.inr (6, [zi 0, zr none, zr none, zr none, zi 0, zr none, zr none, zr none, zi 0, zr none, zr none])) fun a1 h1 => (f_X6_init N a1 h1).bind fun h2 => (zpu h2 5 (some l0) 1 (zr (some a1))).bind fun h3 => (zpu h3 5 (some l0) 2 (zi (0 : Int32))).bind fun h4 => (zpu h4 5 (some l0) 5 (zi (0 : Int32))).bind fun h5 => (zpu h5 5 (some l0) 6 (zi ((-1) : Int32))).bind fun h6 => (zck h6 5 (some l0)).bind fun q1 => (f_X5_skipBlanks N q1 h6).bind fun h7 => f_X5_read_32 N N l0 (0 : Int32) h7
set_option maxHeartbeats 4000000 in
set_option maxRecDepth 100000 in
theorem s_X5_read {g : zG} (hg : g.2.1.map (fun q => q.2) = zty) {h0 : zH} (N : Nat) (l0 : Nat) (h : zH) (r : Option Nat) (h' : zH) (hf : f_X5_read N l0 h = some (r, h')) : zR g jX5_read h0 0 [some (zr (some l0)), none] [] h (some (zr r)) h' := by
  unfold f_X5_read at hf
  refine zr_aload_n (v := .inl (some l0)) dX5_read_0 rfl rfl ?_
  obtain ⟨a1, h1, e_a1, e_h1, hf⟩ := znw_spec hf
  refine zq_new kn_137 dX5_read_1 e_a1 e_h1 ?_
  refine zr_dup dX5_read_4 ?_
  revert hf; refine zbi (fun h2 e_h2 hf => ?_)
  refine zq_callIN (J' := jX6_init) (as := []) (rest := [zr (some a1), zr (some l0)]) (r1 := none) (a := a1) kw_197 km_X6_init kt_236 dX5_read_5 rfl (Nat.le_of_ble_eq_true rfl) rfl (c_X6_init hg e_h2) ?_
  revert hf; refine zbi (fun h3 e_h3 hf => ?_)
  refine zq_put (kp_237 _) dX5_read_8 (zn_o _ _) e_h3 ?_
  refine zr_aload_n (v := .inl (some l0)) dX5_read_11 rfl rfl ?_
  refine zr_iconst (v := (0 : Int32)) dX5_read_12 (by decide) ?_
  revert hf; refine zbi (fun h4 e_h4 hf => ?_)
  refine zq_put (kp_155 _) dX5_read_13 (zn_i _) e_h4 ?_
  refine zr_aload_n (v := .inl (some l0)) dX5_read_16 rfl rfl ?_
  refine zr_iconst (v := (0 : Int32)) dX5_read_17 (by decide) ?_
  revert hf; refine zbi (fun h5 e_h5 hf => ?_)
  refine zq_put (kp_163 _) dX5_read_18 (zn_i _) e_h5 ?_
  refine zr_aload_n (v := .inl (some l0)) dX5_read_21 rfl rfl ?_
  refine zr_iconst (v := ((-1) : Int32)) dX5_read_22 (by decide) ?_
  revert hf; refine zbi (fun h6 e_h6 hf => ?_)
  refine zq_put (kp_164 _) dX5_read_23 (zn_i _) e_h6 ?_
  refine zr_aload_n (v := .inl (some l0)) dX5_read_26 rfl rfl ?_
  revert hf; refine zbi (fun q1 e_q1 hf => ?_)
  revert hf; refine zbi (fun h7 e_h7 hf => ?_)
  refine zq_callV (J' := jX5_skipBlanks) (as := []) (rest := []) (r1 := none) (q := (RX5, TX5, 7)) kw_220 km_X5_skipBlanks kt_235 dX5_read_27 rfl (Nat.le_of_ble_eq_true rfl) rfl rfl e_q1 rfl (c_X5_skipBlanks hg e_h7) ?_
  refine zr_iconst (v := (0 : Int32)) dX5_read_30 (by decide) ?_
  refine zq_istore_n (x := (0 : Int32)) (L' := [some (zr (some l0)), some (zi (0 : Int32))]) dX5_read_31 rfl (by decide) rfl ?_
  exact s_X5_read_32 hg N N l0 (0 : Int32) h7 r h' hf
theorem c_X5_read {g : zG} (hg : g.2.1.map (fun q => q.2) = zty) {N : Nat} {l0 : Nat} {h : zH} {r : Option Nat} {h' : zH} (hf : f_X5_read N l0 h = some (r, h')) : zCa g jX5_read [zr (some l0)] h (some (zr r)) h' :=
  zCa.of hg (by decide +kernel) (Nat.le_of_ble_eq_true rfl) (s_X5_read hg N l0 h r h' hf)
