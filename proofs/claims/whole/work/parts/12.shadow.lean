theorem dX6_setting_0 : decode cX6_setting 0 = .ok (.aload_n 0, 1) := by decide +kernel
theorem dX6_setting_1 : decode cX6_setting 1 = .ok (.iload_n 1, 1) := by decide +kernel
theorem dX6_setting_2 : decode cX6_setting 2 = .ok (.invokevirtual 50, 3) := by decide +kernel
theorem dX6_setting_5 : decode cX6_setting 5 = .ok (.ifCond .eq 12, 3) := by decide +kernel
theorem dX6_setting_8 : decode cX6_setting 8 = .ok (.aload_n 0, 1) := by decide +kernel
theorem dX6_setting_9 : decode cX6_setting 9 = .ok (.getfield 43, 3) := by decide +kernel
theorem dX6_setting_12 : decode cX6_setting 12 = .ok (.iload_n 1, 1) := by decide +kernel
theorem dX6_setting_13 : decode cX6_setting 13 = .ok (.iaload, 1) := by decide +kernel
theorem dX6_setting_14 : decode cX6_setting 14 = .ok (.goto 4, 3) := by decide +kernel
theorem dX6_setting_17 : decode cX6_setting 17 = .ok (.iconst 0, 1) := by decide +kernel
theorem dX6_setting_18 : decode cX6_setting 18 = .ok (.ireturn, 1) := by decide +kernel
def f_X6_setting (N : Nat) (l0 : Nat) (l1 : Int32) (h : zH) : Option Int32 := (zck h 6 (some l0)).bind fun q1 => (f_X6_isSet N q1 l1 h).bind fun x1 => if x1 = 0 then some (0 : Int32) else (zgR h 6 (some l0) 10).bind fun x2 => (zld h 0 x2 l1).bind fun x3 => some x3
set_option maxHeartbeats 4000000 in
set_option maxRecDepth 100000 in
theorem s_X6_setting {g : zG} (hg : g.2.1.map (fun q => q.2) = zty) {h0 : zH} (N : Nat) (l0 : Nat) (l1 : Int32) (h : zH) (r : Int32) (hf : f_X6_setting N l0 l1 h = some r) : zR g jX6_setting h0 0 [some (zr (some l0)), some (zi l1)] [] h (some (zi r)) h := by
  unfold f_X6_setting at hf
  refine zr_aload_n (v := .inl (some l0)) dX6_setting_0 rfl rfl ?_
  refine zr_iload_n (x := l1) dX6_setting_1 rfl rfl ?_
  revert hf; refine zbi (fun q1 e_q1 hf => ?_)
  revert hf; refine zbi (fun x1 e_x1 hf => ?_)
  refine zq_callV (J' := jX6_isSet) (as := [zi l1]) (rest := []) (r1 := (some (zi x1))) (q := (RX6, TX6, 11)) kw_150 km_X6_isSet kt_103 dX6_setting_2 rfl (Nat.le_of_ble_eq_true rfl) rfl rfl e_q1 rfl (c_X6_isSet hg e_x1) ?_
  by_cases hc1 : x1 = 0
  · rw [if_pos hc1] at hf
    refine zr_ifeq_t (tgt := 17) dX6_setting_5 (by decide) hc1 ?_
    refine zr_iconst (v := (0 : Int32)) dX6_setting_17 (by decide) ?_
    cases hf
    exact zr_ret _ rfl dX6_setting_18
  · rw [if_neg hc1] at hf
    refine zr_ifeq_f 17 dX6_setting_5 (by decide) hc1 ?_
    refine zr_aload_n (v := .inl (some l0)) dX6_setting_8 rfl rfl ?_
    revert hf; refine zbi (fun x2 e_x2 hf => ?_)
    refine zq_getR kg_101 dX6_setting_9 e_x2 ?_
    refine zr_iload_n (x := l1) dX6_setting_12 rfl rfl ?_
    revert hf; refine zbi (fun x3 e_x3 hf => ?_)
    refine zq_iald dX6_setting_13 e_x3 ?_
    refine zr_goto (tgt := 18) dX6_setting_14 (by decide) ?_
    cases hf
    exact zr_ret _ rfl dX6_setting_18
theorem c_X6_setting {g : zG} (hg : g.2.1.map (fun q => q.2) = zty) {N : Nat} {l0 : Nat} {l1 : Int32} {h : zH} {r : Int32} (hf : f_X6_setting N l0 l1 h = some r) : zCa g jX6_setting [zr (some l0), zi l1] h (some (zi r)) h :=
  zCa.of hg (by decide +kernel) (Nat.le_of_ble_eq_true rfl) (s_X6_setting hg N l0 l1 h r hf)
theorem dX6_valueAt_0 : decode cX6_valueAt 0 = .ok (.iload_n 1, 1) := by decide +kernel
theorem dX6_valueAt_1 : decode cX6_valueAt 1 = .ok (.ifCond .lt 20, 3) := by decide +kernel
theorem dX6_valueAt_4 : decode cX6_valueAt 4 = .ok (.iload_n 1, 1) := by decide +kernel
theorem dX6_valueAt_5 : decode cX6_valueAt 5 = .ok (.aload_n 0, 1) := by decide +kernel
theorem dX6_valueAt_6 : decode cX6_valueAt 6 = .ok (.getfield 25, 3) := by decide +kernel
theorem dX6_valueAt_9 : decode cX6_valueAt 9 = .ok (.if_icmp .ge 12, 3) := by decide +kernel
theorem dX6_valueAt_12 : decode cX6_valueAt 12 = .ok (.aload_n 0, 1) := by decide +kernel
theorem dX6_valueAt_13 : decode cX6_valueAt 13 = .ok (.getfield 34, 3) := by decide +kernel
theorem dX6_valueAt_16 : decode cX6_valueAt 16 = .ok (.iload_n 1, 1) := by decide +kernel
theorem dX6_valueAt_17 : decode cX6_valueAt 17 = .ok (.iaload, 1) := by decide +kernel
theorem dX6_valueAt_18 : decode cX6_valueAt 18 = .ok (.goto 4, 3) := by decide +kernel
theorem dX6_valueAt_21 : decode cX6_valueAt 21 = .ok (.iconst (-1), 1) := by decide +kernel
theorem dX6_valueAt_22 : decode cX6_valueAt 22 = .ok (.istore 4, 2) := by decide +kernel
theorem dX6_valueAt_24 : decode cX6_valueAt 24 = .ok (.iload 4, 2) := by decide +kernel
theorem dX6_valueAt_26 : decode cX6_valueAt 26 = .ok (.ifCond .lt 12, 3) := by decide +kernel
theorem dX6_valueAt_29 : decode cX6_valueAt 29 = .ok (.iload 4, 2) := by decide +kernel
theorem dX6_valueAt_31 : decode cX6_valueAt 31 = .ok (.aload_n 0, 1) := by decide +kernel
theorem dX6_valueAt_32 : decode cX6_valueAt 32 = .ok (.getfield 9, 3) := by decide +kernel
theorem dX6_valueAt_35 : decode cX6_valueAt 35 = .ok (.if_icmp .lt 5, 3) := by decide +kernel
theorem dX6_valueAt_38 : decode cX6_valueAt 38 = .ok (.iconst 0, 1) := by decide +kernel
theorem dX6_valueAt_39 : decode cX6_valueAt 39 = .ok (.ireturn, 1) := by decide +kernel
theorem dX6_valueAt_40 : decode cX6_valueAt 40 = .ok (.iload_n 2, 1) := by decide +kernel
theorem dX6_valueAt_41 : decode cX6_valueAt 41 = .ok (.iload_n 2, 1) := by decide +kernel
theorem dX6_valueAt_42 : decode cX6_valueAt 42 = .ok (.imul, 1) := by decide +kernel
theorem dX6_valueAt_43 : decode cX6_valueAt 43 = .ok (.iload_n 3, 1) := by decide +kernel
theorem dX6_valueAt_44 : decode cX6_valueAt 44 = .ok (.iload_n 3, 1) := by decide +kernel
theorem dX6_valueAt_45 : decode cX6_valueAt 45 = .ok (.imul, 1) := by decide +kernel
theorem dX6_valueAt_46 : decode cX6_valueAt 46 = .ok (.iadd, 1) := by decide +kernel
theorem dX6_valueAt_47 : decode cX6_valueAt 47 = .ok (.istore 5, 2) := by decide +kernel
theorem dX6_valueAt_49 : decode cX6_valueAt 49 = .ok (.iconst 0, 1) := by decide +kernel
theorem dX6_valueAt_50 : decode cX6_valueAt 50 = .ok (.istore 6, 2) := by decide +kernel
theorem dX6_valueAt_52 : decode cX6_valueAt 52 = .ok (.iconst 0, 1) := by decide +kernel
theorem dX6_valueAt_53 : decode cX6_valueAt 53 = .ok (.istore 7, 2) := by decide +kernel
theorem dX6_valueAt_55 : decode cX6_valueAt 55 = .ok (.iload 7, 2) := by decide +kernel
theorem dX6_valueAt_57 : decode cX6_valueAt 57 = .ok (.aload_n 0, 1) := by decide +kernel
theorem dX6_valueAt_58 : decode cX6_valueAt 58 = .ok (.getfield 15, 3) := by decide +kernel
theorem dX6_valueAt_61 : decode cX6_valueAt 61 = .ok (.iload 4, 2) := by decide +kernel
theorem dX6_valueAt_63 : decode cX6_valueAt 63 = .ok (.iaload, 1) := by decide +kernel
theorem dX6_valueAt_64 : decode cX6_valueAt 64 = .ok (.if_icmp .ge 55, 3) := by decide +kernel
theorem dX6_valueAt_67 : decode cX6_valueAt 67 = .ok (.aload_n 0, 1) := by decide +kernel
theorem dX6_valueAt_68 : decode cX6_valueAt 68 = .ok (.getfield 19, 3) := by decide +kernel
theorem dX6_valueAt_71 : decode cX6_valueAt 71 = .ok (.iload 4, 2) := by decide +kernel
theorem dX6_valueAt_73 : decode cX6_valueAt 73 = .ok (.bipush 12, 2) := by decide +kernel
theorem dX6_valueAt_75 : decode cX6_valueAt 75 = .ok (.imul, 1) := by decide +kernel
theorem dX6_valueAt_76 : decode cX6_valueAt 76 = .ok (.iload 7, 2) := by decide +kernel
theorem dX6_valueAt_78 : decode cX6_valueAt 78 = .ok (.iadd, 1) := by decide +kernel
theorem dX6_valueAt_79 : decode cX6_valueAt 79 = .ok (.iaload, 1) := by decide +kernel
theorem dX6_valueAt_80 : decode cX6_valueAt 80 = .ok (.aload_n 0, 1) := by decide +kernel
theorem dX6_valueAt_81 : decode cX6_valueAt 81 = .ok (.iconst 2, 1) := by decide +kernel
theorem dX6_valueAt_82 : decode cX6_valueAt 82 = .ok (.invokevirtual 61, 3) := by decide +kernel
theorem dX6_valueAt_85 : decode cX6_valueAt 85 = .ok (.iadd, 1) := by decide +kernel
theorem dX6_valueAt_86 : decode cX6_valueAt 86 = .ok (.istore 8, 2) := by decide +kernel
theorem dX6_valueAt_88 : decode cX6_valueAt 88 = .ok (.iload 5, 2) := by decide +kernel
theorem dX6_valueAt_90 : decode cX6_valueAt 90 = .ok (.iload 8, 2) := by decide +kernel
theorem dX6_valueAt_92 : decode cX6_valueAt 92 = .ok (.iload 8, 2) := by decide +kernel
theorem dX6_valueAt_94 : decode cX6_valueAt 94 = .ok (.imul, 1) := by decide +kernel
theorem dX6_valueAt_95 : decode cX6_valueAt 95 = .ok (.if_icmp .gt 18, 3) := by decide +kernel
theorem dX6_valueAt_98 : decode cX6_valueAt 98 = .ok (.aload_n 0, 1) := by decide +kernel
theorem dX6_valueAt_99 : decode cX6_valueAt 99 = .ok (.getfield 22, 3) := by decide +kernel
theorem dX6_valueAt_102 : decode cX6_valueAt 102 = .ok (.iload 4, 2) := by decide +kernel
theorem dX6_valueAt_104 : decode cX6_valueAt 104 = .ok (.bipush 12, 2) := by decide +kernel
theorem dX6_valueAt_106 : decode cX6_valueAt 106 = .ok (.imul, 1) := by decide +kernel
theorem dX6_valueAt_107 : decode cX6_valueAt 107 = .ok (.iload 7, 2) := by decide +kernel
theorem dX6_valueAt_109 : decode cX6_valueAt 109 = .ok (.iadd, 1) := by decide +kernel
theorem dX6_valueAt_110 : decode cX6_valueAt 110 = .ok (.iaload, 1) := by decide +kernel
theorem dX6_valueAt_111 : decode cX6_valueAt 111 = .ok (.istore 6, 2) := by decide +kernel
theorem dX6_valueAt_113 : decode cX6_valueAt 113 = .ok (.iinc 7 1, 3) := by decide +kernel
theorem dX6_valueAt_116 : decode cX6_valueAt 116 = .ok (.goto (-61), 3) := by decide +kernel
theorem dX6_valueAt_119 : decode cX6_valueAt 119 = .ok (.iload 6, 2) := by decide +kernel
theorem dX6_valueAt_121 : decode cX6_valueAt 121 = .ok (.ireturn, 1) := by decide +kernel
def f_X6_valueAt_55 (N : Nat) : Nat → Nat → Int32 → Int32 → Int32 → Int32 → zH → Option Int32
  | 0, _, _, _, _, _, _ => none
  | n + 1, l0, l4, l5, l6, l7, h => (zgR h 6 (some l0) 1).bind fun x1 => (zld h 0 x1 l4).bind fun x2 => if x2 ≤ l7 then some l6 else (zgR h 6 (some l0) 2).bind fun x3 => (zld h 0 x3 ((l4 * (12 : Int32)) + l7)).bind fun x4 => (zck h 6 (some l0)).bind fun q1 => (f_X6_setting N q1 (2 : Int32) h).bind fun x5 => if ((x4 + x5) * (x4 + x5)) < l5 then f_X6_valueAt_55 N n l0 l4 l5 l6 (l7 + (1 : Int32)) h else (zgR h 6 (some l0) 3).bind fun x6 => (zld h 0 x6 ((l4 * (12 : Int32)) + l7)).bind fun x7 => f_X6_valueAt_55 N n l0 l4 l5 x7 (l7 + (1 : Int32)) h
set_option maxHeartbeats 4000000 in
set_option maxRecDepth 100000 in
theorem s_X6_valueAt_55 {g : zG} (hg : g.2.1.map (fun q => q.2) = zty) {h0 : zH} (N : Nat) : ∀ (n : Nat) (l0 : Nat) (l4 : Int32) (l5 : Int32) (l6 : Int32) (l7 : Int32) (h : zH) (r : Int32), f_X6_valueAt_55 N n l0 l4 l5 l6 l7 h = some r → zR g jX6_valueAt h0 55 [some (zr (some l0)), none, none, none, some (zi l4), some (zi l5), some (zi l6), some (zi l7), none] [] h (some (zi r)) h := by
  intro n
  induction n with
  | zero =>
    intro l0 l4 l5 l6 l7 h r hf
    cases hf
  | succ n ih =>
    intro l0 l4 l5 l6 l7 h r hf
    rw [f_X6_valueAt_55] at hf
    refine zr_iload (x := l7) dX6_valueAt_55 rfl ?_
    refine zr_aload_n (v := .inl (some l0)) dX6_valueAt_57 rfl rfl ?_
    revert hf; refine zbi (fun x1 e_x1 hf => ?_)
    refine zq_getR kg_104 dX6_valueAt_58 e_x1 ?_
    refine zr_iload (x := l4) dX6_valueAt_61 rfl ?_
    revert hf; refine zbi (fun x2 e_x2 hf => ?_)
    refine zq_iald dX6_valueAt_63 e_x2 ?_
    by_cases hc1 : x2 ≤ l7
    · rw [if_pos hc1] at hf
      refine zr_icge_t (tgt := 119) dX6_valueAt_64 (by decide) hc1 ?_
      refine zr_iload (x := l6) dX6_valueAt_119 rfl ?_
      cases hf
      exact zr_ret _ rfl dX6_valueAt_121
    · rw [if_neg hc1] at hf
      refine zr_icge_f 119 dX6_valueAt_64 (by decide) hc1 ?_
      refine zr_aload_n (v := .inl (some l0)) dX6_valueAt_67 rfl rfl ?_
      revert hf; refine zbi (fun x3 e_x3 hf => ?_)
      refine zq_getR kg_105 dX6_valueAt_68 e_x3 ?_
      refine zr_iload (x := l4) dX6_valueAt_71 rfl ?_
      refine zr_bipush (v := (12 : Int32)) dX6_valueAt_73 (by decide) ?_
      refine zr_imul dX6_valueAt_75 ?_
      refine zr_iload (x := l7) dX6_valueAt_76 rfl ?_
      refine zr_iadd dX6_valueAt_78 ?_
      revert hf; refine zbi (fun x4 e_x4 hf => ?_)
      refine zq_iald dX6_valueAt_79 e_x4 ?_
      refine zr_aload_n (v := .inl (some l0)) dX6_valueAt_80 rfl rfl ?_
      refine zr_iconst (v := (2 : Int32)) dX6_valueAt_81 (by decide) ?_
      revert hf; refine zbi (fun q1 e_q1 hf => ?_)
      revert hf; refine zbi (fun x5 e_x5 hf => ?_)
      refine zq_callV (J' := jX6_setting) (as := [zi (2 : Int32)]) (rest := [zi x4]) (r1 := (some (zi x5))) (q := (RX6, TX6, 11)) kw_157 km_X6_setting kt_107 dX6_valueAt_82 rfl (Nat.le_of_ble_eq_true rfl) rfl rfl e_q1 rfl (c_X6_setting hg e_x5) ?_
      refine zr_iadd dX6_valueAt_85 ?_
      refine zq_istore (x := (x4 + x5)) (L' := [some (zr (some l0)), none, none, none, some (zi l4), some (zi l5), some (zi l6), some (zi l7), some (zi (x4 + x5))]) dX6_valueAt_86 (by decide) rfl ?_
      refine zr_iload (x := l5) dX6_valueAt_88 rfl ?_
      refine zr_iload (x := (x4 + x5)) dX6_valueAt_90 rfl ?_
      refine zr_iload (x := (x4 + x5)) dX6_valueAt_92 rfl ?_
      refine zr_imul dX6_valueAt_94 ?_
      by_cases hc2 : ((x4 + x5) * (x4 + x5)) < l5
      · rw [if_pos hc2] at hf
        refine zr_icgt_t (tgt := 113) dX6_valueAt_95 (by decide) hc2 ?_
        refine zq_iinc (x := l7) (y := (1 : Int32)) (L' := [some (zr (some l0)), none, none, none, some (zi l4), some (zi l5), some (zi l6), some (zi (l7 + (1 : Int32))), some (zi (x4 + x5))]) dX6_valueAt_113 rfl (by decide) (by decide) rfl ?_
        refine zr_goto (tgt := 55) dX6_valueAt_116 (by decide) ?_
        refine zr_forget 8 (L' := [some (zr (some l0)), none, none, none, some (zi l4), some (zi l5), some (zi l6), some (zi (l7 + (1 : Int32))), none]) rfl ?_
        exact ih l0 l4 l5 l6 (l7 + (1 : Int32)) h r hf
      · rw [if_neg hc2] at hf
        refine zr_icgt_f 113 dX6_valueAt_95 (by decide) hc2 ?_
        refine zr_aload_n (v := .inl (some l0)) dX6_valueAt_98 rfl rfl ?_
        revert hf; refine zbi (fun x6 e_x6 hf => ?_)
        refine zq_getR kg_108 dX6_valueAt_99 e_x6 ?_
        refine zr_iload (x := l4) dX6_valueAt_102 rfl ?_
        refine zr_bipush (v := (12 : Int32)) dX6_valueAt_104 (by decide) ?_
        refine zr_imul dX6_valueAt_106 ?_
        refine zr_iload (x := l7) dX6_valueAt_107 rfl ?_
        refine zr_iadd dX6_valueAt_109 ?_
        revert hf; refine zbi (fun x7 e_x7 hf => ?_)
        refine zq_iald dX6_valueAt_110 e_x7 ?_
        refine zq_istore (x := x7) (L' := [some (zr (some l0)), none, none, none, some (zi l4), some (zi l5), some (zi x7), some (zi l7), some (zi (x4 + x5))]) dX6_valueAt_111 (by decide) rfl ?_
        refine zq_iinc (x := l7) (y := (1 : Int32)) (L' := [some (zr (some l0)), none, none, none, some (zi l4), some (zi l5), some (zi x7), some (zi (l7 + (1 : Int32))), some (zi (x4 + x5))]) dX6_valueAt_113 rfl (by decide) (by decide) rfl ?_
        refine zr_goto (tgt := 55) dX6_valueAt_116 (by decide) ?_
        refine zr_forget 8 (L' := [some (zr (some l0)), none, none, none, some (zi l4), some (zi l5), some (zi x7), some (zi (l7 + (1 : Int32))), none]) rfl ?_
        exact ih l0 l4 l5 x7 (l7 + (1 : Int32)) h r hf
def f_X6_valueAt_22 (N : Nat) (l0 : Nat) (l2 : Int32) (l3 : Int32) (s0 : Int32) (h : zH) : Option Int32 := if s0 < 0 then some (0 : Int32) else (zgI h 6 (some l0) 0).bind fun x1 => if s0 < x1 then f_X6_valueAt_55 N N l0 s0 ((l2 * l2) + (l3 * l3)) (0 : Int32) (0 : Int32) h else some (0 : Int32)
set_option maxHeartbeats 4000000 in
set_option maxRecDepth 100000 in
theorem s_X6_valueAt_22 {g : zG} (hg : g.2.1.map (fun q => q.2) = zty) {h0 : zH} (N : Nat) (l0 : Nat) (l2 : Int32) (l3 : Int32) (s0 : Int32) (h : zH) (r : Int32) (hf : f_X6_valueAt_22 N l0 l2 l3 s0 h = some r) : zR g jX6_valueAt h0 22 [some (zr (some l0)), none, some (zi l2), some (zi l3), none, none, none, none, none] [zi s0] h (some (zi r)) h := by
  unfold f_X6_valueAt_22 at hf
  refine zq_istore (x := s0) (L' := [some (zr (some l0)), none, some (zi l2), some (zi l3), some (zi s0), none, none, none, none]) dX6_valueAt_22 (by decide) rfl ?_
  refine zr_iload (x := s0) dX6_valueAt_24 rfl ?_
  by_cases hc1 : s0 < 0
  · rw [if_pos hc1] at hf
    refine zr_iflt_t (tgt := 38) dX6_valueAt_26 (by decide) hc1 ?_
    refine zr_iconst (v := (0 : Int32)) dX6_valueAt_38 (by decide) ?_
    cases hf
    exact zr_ret _ rfl dX6_valueAt_39
  · rw [if_neg hc1] at hf
    refine zr_iflt_f 38 dX6_valueAt_26 (by decide) hc1 ?_
    refine zr_iload (x := s0) dX6_valueAt_29 rfl ?_
    refine zr_aload_n (v := .inl (some l0)) dX6_valueAt_31 rfl rfl ?_
    revert hf; refine zbi (fun x1 e_x1 hf => ?_)
    refine zq_getI kg_109 dX6_valueAt_32 e_x1 ?_
    by_cases hc2 : s0 < x1
    · rw [if_pos hc2] at hf
      refine zr_iclt_t (tgt := 40) dX6_valueAt_35 (by decide) hc2 ?_
      refine zr_iload_n (x := l2) dX6_valueAt_40 rfl rfl ?_
      refine zr_iload_n (x := l2) dX6_valueAt_41 rfl rfl ?_
      refine zr_imul dX6_valueAt_42 ?_
      refine zr_iload_n (x := l3) dX6_valueAt_43 rfl rfl ?_
      refine zr_iload_n (x := l3) dX6_valueAt_44 rfl rfl ?_
      refine zr_imul dX6_valueAt_45 ?_
      refine zr_iadd dX6_valueAt_46 ?_
      refine zq_istore (x := ((l2 * l2) + (l3 * l3))) (L' := [some (zr (some l0)), none, some (zi l2), some (zi l3), some (zi s0), some (zi ((l2 * l2) + (l3 * l3))), none, none, none]) dX6_valueAt_47 (by decide) rfl ?_
      refine zr_iconst (v := (0 : Int32)) dX6_valueAt_49 (by decide) ?_
      refine zq_istore (x := (0 : Int32)) (L' := [some (zr (some l0)), none, some (zi l2), some (zi l3), some (zi s0), some (zi ((l2 * l2) + (l3 * l3))), some (zi (0 : Int32)), none, none]) dX6_valueAt_50 (by decide) rfl ?_
      refine zr_iconst (v := (0 : Int32)) dX6_valueAt_52 (by decide) ?_
      refine zq_istore (x := (0 : Int32)) (L' := [some (zr (some l0)), none, some (zi l2), some (zi l3), some (zi s0), some (zi ((l2 * l2) + (l3 * l3))), some (zi (0 : Int32)), some (zi (0 : Int32)), none]) dX6_valueAt_53 (by decide) rfl ?_
      refine zr_forget 2 (L' := [some (zr (some l0)), none, none, some (zi l3), some (zi s0), some (zi ((l2 * l2) + (l3 * l3))), some (zi (0 : Int32)), some (zi (0 : Int32)), none]) rfl ?_
      refine zr_forget 3 (L' := [some (zr (some l0)), none, none, none, some (zi s0), some (zi ((l2 * l2) + (l3 * l3))), some (zi (0 : Int32)), some (zi (0 : Int32)), none]) rfl ?_
      exact s_X6_valueAt_55 hg N N l0 s0 ((l2 * l2) + (l3 * l3)) (0 : Int32) (0 : Int32) h r hf
    · rw [if_neg hc2] at hf
      refine zr_iclt_f 40 dX6_valueAt_35 (by decide) hc2 ?_
      refine zr_iconst (v := (0 : Int32)) dX6_valueAt_38 (by decide) ?_
      cases hf
      exact zr_ret _ rfl dX6_valueAt_39
def f_X6_valueAt_21 (N : Nat) (l0 : Nat) (l2 : Int32) (l3 : Int32) (h : zH) : Option Int32 := f_X6_valueAt_22 N l0 l2 l3 ((-1) : Int32) h
set_option maxHeartbeats 4000000 in
set_option maxRecDepth 100000 in
theorem s_X6_valueAt_21 {g : zG} (hg : g.2.1.map (fun q => q.2) = zty) {h0 : zH} (N : Nat) (l0 : Nat) (l2 : Int32) (l3 : Int32) (h : zH) (r : Int32) (hf : f_X6_valueAt_21 N l0 l2 l3 h = some r) : zR g jX6_valueAt h0 21 [some (zr (some l0)), none, some (zi l2), some (zi l3), none, none, none, none, none] [] h (some (zi r)) h := by
  unfold f_X6_valueAt_21 at hf
  refine zr_iconst (v := ((-1) : Int32)) dX6_valueAt_21 (by decide) ?_
  exact s_X6_valueAt_22 hg N l0 l2 l3 ((-1) : Int32) h r hf
def f_X6_valueAt (N : Nat) (l0 : Nat) (l1 : Int32) (l2 : Int32) (l3 : Int32) (h : zH) : Option Int32 := if l1 < 0 then f_X6_valueAt_21 N l0 l2 l3 h else (zgI h 6 (some l0) 4).bind fun x1 => if x1 ≤ l1 then f_X6_valueAt_21 N l0 l2 l3 h else (zgR h 6 (some l0) 7).bind fun x2 => (zld h 0 x2 l1).bind fun x3 => f_X6_valueAt_22 N l0 l2 l3 x3 h
set_option maxHeartbeats 4000000 in
set_option maxRecDepth 100000 in
theorem s_X6_valueAt {g : zG} (hg : g.2.1.map (fun q => q.2) = zty) {h0 : zH} (N : Nat) (l0 : Nat) (l1 : Int32) (l2 : Int32) (l3 : Int32) (h : zH) (r : Int32) (hf : f_X6_valueAt N l0 l1 l2 l3 h = some r) : zR g jX6_valueAt h0 0 [some (zr (some l0)), some (zi l1), some (zi l2), some (zi l3), none, none, none, none, none] [] h (some (zi r)) h := by
  unfold f_X6_valueAt at hf
  refine zr_iload_n (x := l1) dX6_valueAt_0 rfl rfl ?_
  by_cases hc1 : l1 < 0
  · rw [if_pos hc1] at hf
    refine zr_iflt_t (tgt := 21) dX6_valueAt_1 (by decide) hc1 ?_
    refine zr_forget 1 (L' := [some (zr (some l0)), none, some (zi l2), some (zi l3), none, none, none, none, none]) rfl ?_
    exact s_X6_valueAt_21 hg N l0 l2 l3 h r hf
  · rw [if_neg hc1] at hf
    refine zr_iflt_f 21 dX6_valueAt_1 (by decide) hc1 ?_
    refine zr_iload_n (x := l1) dX6_valueAt_4 rfl rfl ?_
    refine zr_aload_n (v := .inl (some l0)) dX6_valueAt_5 rfl rfl ?_
    revert hf; refine zbi (fun x1 e_x1 hf => ?_)
    refine zq_getI kg_110 dX6_valueAt_6 e_x1 ?_
    by_cases hc2 : x1 ≤ l1
    · rw [if_pos hc2] at hf
      refine zr_icge_t (tgt := 21) dX6_valueAt_9 (by decide) hc2 ?_
      refine zr_forget 1 (L' := [some (zr (some l0)), none, some (zi l2), some (zi l3), none, none, none, none, none]) rfl ?_
      exact s_X6_valueAt_21 hg N l0 l2 l3 h r hf
    · rw [if_neg hc2] at hf
      refine zr_icge_f 21 dX6_valueAt_9 (by decide) hc2 ?_
      refine zr_aload_n (v := .inl (some l0)) dX6_valueAt_12 rfl rfl ?_
      revert hf; refine zbi (fun x2 e_x2 hf => ?_)
      refine zq_getR kg_111 dX6_valueAt_13 e_x2 ?_
      refine zr_iload_n (x := l1) dX6_valueAt_16 rfl rfl ?_
      revert hf; refine zbi (fun x3 e_x3 hf => ?_)
      refine zq_iald dX6_valueAt_17 e_x3 ?_
      refine zr_goto (tgt := 22) dX6_valueAt_18 (by decide) ?_
      refine zr_forget 1 (L' := [some (zr (some l0)), none, some (zi l2), some (zi l3), none, none, none, none, none]) rfl ?_
      exact s_X6_valueAt_22 hg N l0 l2 l3 x3 h r hf
theorem c_X6_valueAt {g : zG} (hg : g.2.1.map (fun q => q.2) = zty) {N : Nat} {l0 : Nat} {l1 : Int32} {l2 : Int32} {l3 : Int32} {h : zH} {r : Int32} (hf : f_X6_valueAt N l0 l1 l2 l3 h = some r) : zCa g jX6_valueAt [zr (some l0), zi l1, zi l2, zi l3] h (some (zi r)) h :=
  zCa.of hg (by decide +kernel) (Nat.le_of_ble_eq_true rfl) (s_X6_valueAt hg N l0 l1 l2 l3 h r hf)
theorem dX4_judgeIn_0 : decode cX4_judgeIn 0 = .ok (.iload_n 1, 1) := by decide +kernel
theorem dX4_judgeIn_1 : decode cX4_judgeIn 1 = .ok (.ifCond .lt 18, 3) := by decide +kernel
theorem dX4_judgeIn_4 : decode cX4_judgeIn 4 = .ok (.iload_n 1, 1) := by decide +kernel
theorem dX4_judgeIn_5 : decode cX4_judgeIn 5 = .ok (.iload_n 2, 1) := by decide +kernel
theorem dX4_judgeIn_6 : decode cX4_judgeIn 6 = .ok (.if_icmp .ge 13, 3) := by decide +kernel
theorem dX4_judgeIn_9 : decode cX4_judgeIn 9 = .ok (.aload_n 0, 1) := by decide +kernel
theorem dX4_judgeIn_10 : decode cX4_judgeIn 10 = .ok (.getfield 11, 3) := by decide +kernel
theorem dX4_judgeIn_13 : decode cX4_judgeIn 13 = .ok (.iload_n 1, 1) := by decide +kernel
theorem dX4_judgeIn_14 : decode cX4_judgeIn 14 = .ok (.iaload, 1) := by decide +kernel
theorem dX4_judgeIn_15 : decode cX4_judgeIn 15 = .ok (.iconst 1, 1) := by decide +kernel
theorem dX4_judgeIn_16 : decode cX4_judgeIn 16 = .ok (.if_icmp .ne 5, 3) := by decide +kernel
theorem dX4_judgeIn_19 : decode cX4_judgeIn 19 = .ok (.iconst (-1), 1) := by decide +kernel
theorem dX4_judgeIn_20 : decode cX4_judgeIn 20 = .ok (.ireturn, 1) := by decide +kernel
theorem dX4_judgeIn_21 : decode cX4_judgeIn 21 = .ok (.aload_n 0, 1) := by decide +kernel
theorem dX4_judgeIn_22 : decode cX4_judgeIn 22 = .ok (.getfield 25, 3) := by decide +kernel
theorem dX4_judgeIn_25 : decode cX4_judgeIn 25 = .ok (.iload_n 1, 1) := by decide +kernel
theorem dX4_judgeIn_26 : decode cX4_judgeIn 26 = .ok (.iaload, 1) := by decide +kernel
theorem dX4_judgeIn_27 : decode cX4_judgeIn 27 = .ok (.ireturn, 1) := by decide +kernel
def f_X4_judgeIn (N : Nat) (l0 : Nat) (l1 : Int32) (l2 : Int32) (h : zH) : Option Int32 := if l1 < 0 then some ((-1) : Int32) else if l2 ≤ l1 then some ((-1) : Int32) else (zgR h 4 (some l0) 0).bind fun x1 => (zld h 0 x1 l1).bind fun x2 => if x2 = (1 : Int32) then some ((-1) : Int32) else (zgR h 4 (some l0) 4).bind fun x3 => (zld h 0 x3 l1).bind fun x4 => some x4
set_option maxHeartbeats 4000000 in
set_option maxRecDepth 100000 in
theorem s_X4_judgeIn {g : zG} (hg : g.2.1.map (fun q => q.2) = zty) {h0 : zH} (N : Nat) (l0 : Nat) (l1 : Int32) (l2 : Int32) (h : zH) (r : Int32) (hf : f_X4_judgeIn N l0 l1 l2 h = some r) : zR g jX4_judgeIn h0 0 [some (zr (some l0)), some (zi l1), some (zi l2)] [] h (some (zi r)) h := by
  unfold f_X4_judgeIn at hf
  refine zr_iload_n (x := l1) dX4_judgeIn_0 rfl rfl ?_
  by_cases hc1 : l1 < 0
  · rw [if_pos hc1] at hf
    refine zr_iflt_t (tgt := 19) dX4_judgeIn_1 (by decide) hc1 ?_
    refine zr_iconst (v := ((-1) : Int32)) dX4_judgeIn_19 (by decide) ?_
    cases hf
    exact zr_ret _ rfl dX4_judgeIn_20
  · rw [if_neg hc1] at hf
    refine zr_iflt_f 19 dX4_judgeIn_1 (by decide) hc1 ?_
    refine zr_iload_n (x := l1) dX4_judgeIn_4 rfl rfl ?_
    refine zr_iload_n (x := l2) dX4_judgeIn_5 rfl rfl ?_
    by_cases hc2 : l2 ≤ l1
    · rw [if_pos hc2] at hf
      refine zr_icge_t (tgt := 19) dX4_judgeIn_6 (by decide) hc2 ?_
      refine zr_iconst (v := ((-1) : Int32)) dX4_judgeIn_19 (by decide) ?_
      cases hf
      exact zr_ret _ rfl dX4_judgeIn_20
    · rw [if_neg hc2] at hf
      refine zr_icge_f 19 dX4_judgeIn_6 (by decide) hc2 ?_
      refine zr_aload_n (v := .inl (some l0)) dX4_judgeIn_9 rfl rfl ?_
      revert hf; refine zbi (fun x1 e_x1 hf => ?_)
      refine zq_getR kg_97 dX4_judgeIn_10 e_x1 ?_
      refine zr_iload_n (x := l1) dX4_judgeIn_13 rfl rfl ?_
      revert hf; refine zbi (fun x2 e_x2 hf => ?_)
      refine zq_iald dX4_judgeIn_14 e_x2 ?_
      refine zr_iconst (v := (1 : Int32)) dX4_judgeIn_15 (by decide) ?_
      by_cases hc3 : x2 = (1 : Int32)
      · rw [if_pos hc3] at hf
        refine zr_icne_f 21 dX4_judgeIn_16 (by decide) hc3 ?_
        refine zr_iconst (v := ((-1) : Int32)) dX4_judgeIn_19 (by decide) ?_
        cases hf
        exact zr_ret _ rfl dX4_judgeIn_20
      · rw [if_neg hc3] at hf
        refine zr_icne_t (tgt := 21) dX4_judgeIn_16 (by decide) hc3 ?_
        refine zr_aload_n (v := .inl (some l0)) dX4_judgeIn_21 rfl rfl ?_
        revert hf; refine zbi (fun x3 e_x3 hf => ?_)
        refine zq_getR kg_112 dX4_judgeIn_22 e_x3 ?_
        refine zr_iload_n (x := l1) dX4_judgeIn_25 rfl rfl ?_
        revert hf; refine zbi (fun x4 e_x4 hf => ?_)
        refine zq_iald dX4_judgeIn_26 e_x4 ?_
        cases hf
        exact zr_ret _ rfl dX4_judgeIn_27
theorem c_X4_judgeIn {g : zG} (hg : g.2.1.map (fun q => q.2) = zty) {N : Nat} {l0 : Nat} {l1 : Int32} {l2 : Int32} {h : zH} {r : Int32} (hf : f_X4_judgeIn N l0 l1 l2 h = some r) : zCa g jX4_judgeIn [zr (some l0), zi l1, zi l2] h (some (zi r)) h :=
  zCa.of hg (by decide +kernel) (Nat.le_of_ble_eq_true rfl) (s_X4_judgeIn hg N l0 l1 l2 h r hf)
theorem dX4_judgeOne_0 : decode cX4_judgeOne 0 = .ok (.aload_n 0, 1) := by decide +kernel
theorem dX4_judgeOne_1 : decode cX4_judgeOne 1 = .ok (.getfield 11, 3) := by decide +kernel
theorem dX4_judgeOne_4 : decode cX4_judgeOne 4 = .ok (.iload_n 3, 1) := by decide +kernel
theorem dX4_judgeOne_5 : decode cX4_judgeOne 5 = .ok (.iaload, 1) := by decide +kernel
theorem dX4_judgeOne_6 : decode cX4_judgeOne 6 = .ok (.tableswitch 76 0 4 #[34, 76, 52, 58, 64], 34) := by decide +kernel
theorem dX4_judgeOne_40 : decode cX4_judgeOne 40 = .ok (.aload_n 1, 1) := by decide +kernel
theorem dX4_judgeOne_41 : decode cX4_judgeOne 41 = .ok (.iload_n 2, 1) := by decide +kernel
theorem dX4_judgeOne_42 : decode cX4_judgeOne 42 = .ok (.aload_n 0, 1) := by decide +kernel
theorem dX4_judgeOne_43 : decode cX4_judgeOne 43 = .ok (.getfield 15, 3) := by decide +kernel
theorem dX4_judgeOne_46 : decode cX4_judgeOne 46 = .ok (.iload_n 3, 1) := by decide +kernel
theorem dX4_judgeOne_47 : decode cX4_judgeOne 47 = .ok (.iaload, 1) := by decide +kernel
theorem dX4_judgeOne_48 : decode cX4_judgeOne 48 = .ok (.aload_n 0, 1) := by decide +kernel
theorem dX4_judgeOne_49 : decode cX4_judgeOne 49 = .ok (.getfield 18, 3) := by decide +kernel
theorem dX4_judgeOne_52 : decode cX4_judgeOne 52 = .ok (.iload_n 3, 1) := by decide +kernel
theorem dX4_judgeOne_53 : decode cX4_judgeOne 53 = .ok (.iaload, 1) := by decide +kernel
theorem dX4_judgeOne_54 : decode cX4_judgeOne 54 = .ok (.invokevirtual 40, 3) := by decide +kernel
theorem dX4_judgeOne_57 : decode cX4_judgeOne 57 = .ok (.ireturn, 1) := by decide +kernel
theorem dX4_judgeOne_58 : decode cX4_judgeOne 58 = .ok (.aload_n 1, 1) := by decide +kernel
theorem dX4_judgeOne_59 : decode cX4_judgeOne 59 = .ok (.iconst 0, 1) := by decide +kernel
theorem dX4_judgeOne_60 : decode cX4_judgeOne 60 = .ok (.invokevirtual 46, 3) := by decide +kernel
theorem dX4_judgeOne_63 : decode cX4_judgeOne 63 = .ok (.ireturn, 1) := by decide +kernel
theorem dX4_judgeOne_64 : decode cX4_judgeOne 64 = .ok (.aload_n 1, 1) := by decide +kernel
theorem dX4_judgeOne_65 : decode cX4_judgeOne 65 = .ok (.iconst 1, 1) := by decide +kernel
theorem dX4_judgeOne_66 : decode cX4_judgeOne 66 = .ok (.invokevirtual 46, 3) := by decide +kernel
theorem dX4_judgeOne_69 : decode cX4_judgeOne 69 = .ok (.ireturn, 1) := by decide +kernel
theorem dX4_judgeOne_70 : decode cX4_judgeOne 70 = .ok (.aload_n 0, 1) := by decide +kernel
theorem dX4_judgeOne_71 : decode cX4_judgeOne 71 = .ok (.aload_n 0, 1) := by decide +kernel
theorem dX4_judgeOne_72 : decode cX4_judgeOne 72 = .ok (.getfield 15, 3) := by decide +kernel
theorem dX4_judgeOne_75 : decode cX4_judgeOne 75 = .ok (.iload_n 3, 1) := by decide +kernel
theorem dX4_judgeOne_76 : decode cX4_judgeOne 76 = .ok (.iaload, 1) := by decide +kernel
theorem dX4_judgeOne_77 : decode cX4_judgeOne 77 = .ok (.iload_n 3, 1) := by decide +kernel
theorem dX4_judgeOne_78 : decode cX4_judgeOne 78 = .ok (.invokevirtual 50, 3) := by decide +kernel
theorem dX4_judgeOne_81 : decode cX4_judgeOne 81 = .ok (.ireturn, 1) := by decide +kernel
theorem dX4_judgeOne_82 : decode cX4_judgeOne 82 = .ok (.iconst 0, 1) := by decide +kernel
theorem dX4_judgeOne_83 : decode cX4_judgeOne 83 = .ok (.ireturn, 1) := by decide +kernel
def f_X4_judgeOne (N : Nat) (l0 : Nat) (l1 : Option Nat) (l2 : Int32) (l3 : Int32) (h : zH) : Option Int32 := (zgR h 4 (some l0) 0).bind fun x1 => (zld h 0 x1 l3).bind fun x2 => if x2 = (0 : Int32) then (zgR h 4 (some l0) 1).bind fun x3 => (zld h 0 x3 l3).bind fun x4 => (zgR h 4 (some l0) 2).bind fun x5 => (zld h 0 x5 l3).bind fun x6 => (zck h 6 l1).bind fun q1 => (f_X6_valueAt N q1 l2 x4 x6 h).bind fun x7 => some x7 else if x2 = (1 : Int32) then some (0 : Int32) else if x2 = (2 : Int32) then (zck h 6 l1).bind fun q2 => (f_X6_setting N q2 (0 : Int32) h).bind fun x8 => some x8 else if x2 = (3 : Int32) then (zck h 6 l1).bind fun q3 => (f_X6_setting N q3 (1 : Int32) h).bind fun x9 => some x9 else if x2 = (4 : Int32) then (zgR h 4 (some l0) 1).bind fun x10 => (zld h 0 x10 l3).bind fun x11 => (zck h 4 (some l0)).bind fun q4 => (f_X4_judgeIn N q4 x11 l3 h).bind fun x12 => some x12 else some (0 : Int32)
set_option maxHeartbeats 4000000 in
set_option maxRecDepth 100000 in
theorem s_X4_judgeOne {g : zG} (hg : g.2.1.map (fun q => q.2) = zty) {h0 : zH} (N : Nat) (l0 : Nat) (l1 : Option Nat) (l2 : Int32) (l3 : Int32) (h : zH) (r : Int32) (hf : f_X4_judgeOne N l0 l1 l2 l3 h = some r) : zR g jX4_judgeOne h0 0 [some (zr (some l0)), some (zr l1), some (zi l2), some (zi l3)] [] h (some (zi r)) h := by
  unfold f_X4_judgeOne at hf
  refine zr_aload_n (v := .inl (some l0)) dX4_judgeOne_0 rfl rfl ?_
  revert hf; refine zbi (fun x1 e_x1 hf => ?_)
  refine zq_getR kg_97 dX4_judgeOne_1 e_x1 ?_
  refine zr_iload_n (x := l3) dX4_judgeOne_4 rfl rfl ?_
  revert hf; refine zbi (fun x2 e_x2 hf => ?_)
  refine zq_iald dX4_judgeOne_5 e_x2 ?_
  by_cases hc1 : x2 = (0 : Int32)
  · rw [if_pos hc1] at hf
    refine zr_tabIn (off := 34) (tgt := 40) dX4_judgeOne_6 (by rw [hc1]; decide) (by rw [hc1]; rfl) (by decide) ?_
    refine zr_aload_n (v := .inl l1) dX4_judgeOne_40 rfl rfl ?_
    refine zr_iload_n (x := l2) dX4_judgeOne_41 rfl rfl ?_
    refine zr_aload_n (v := .inl (some l0)) dX4_judgeOne_42 rfl rfl ?_
    revert hf; refine zbi (fun x3 e_x3 hf => ?_)
    refine zq_getR kg_98 dX4_judgeOne_43 e_x3 ?_
    refine zr_iload_n (x := l3) dX4_judgeOne_46 rfl rfl ?_
    revert hf; refine zbi (fun x4 e_x4 hf => ?_)
    refine zq_iald dX4_judgeOne_47 e_x4 ?_
    refine zr_aload_n (v := .inl (some l0)) dX4_judgeOne_48 rfl rfl ?_
    revert hf; refine zbi (fun x5 e_x5 hf => ?_)
    refine zq_getR kg_99 dX4_judgeOne_49 e_x5 ?_
    refine zr_iload_n (x := l3) dX4_judgeOne_52 rfl rfl ?_
    revert hf; refine zbi (fun x6 e_x6 hf => ?_)
    refine zq_iald dX4_judgeOne_53 e_x6 ?_
    revert hf; refine zbi (fun q1 e_q1 hf => ?_)
    revert hf; refine zbi (fun x7 e_x7 hf => ?_)
    refine zq_callV (J' := jX6_valueAt) (as := [zi l2, zi x4, zi x6]) (rest := []) (r1 := (some (zi x7))) (q := (RX6, TX6, 11)) kw_165 km_X6_valueAt kt_114 dX4_judgeOne_54 rfl (Nat.le_of_ble_eq_true rfl) rfl rfl e_q1 rfl (c_X6_valueAt hg e_x7) ?_
    cases hf
    exact zr_ret _ rfl dX4_judgeOne_57
  · rw [if_neg hc1] at hf
    by_cases hc2 : x2 = (1 : Int32)
    · rw [if_pos hc2] at hf
      refine zr_tabIn (off := 76) (tgt := 82) dX4_judgeOne_6 (by rw [hc2]; decide) (by rw [hc2]; rfl) (by decide) ?_
      refine zr_iconst (v := (0 : Int32)) dX4_judgeOne_82 (by decide) ?_
      cases hf
      exact zr_ret _ rfl dX4_judgeOne_83
    · rw [if_neg hc2] at hf
      by_cases hc3 : x2 = (2 : Int32)
      · rw [if_pos hc3] at hf
        refine zr_tabIn (off := 52) (tgt := 58) dX4_judgeOne_6 (by rw [hc3]; decide) (by rw [hc3]; rfl) (by decide) ?_
        refine zr_aload_n (v := .inl l1) dX4_judgeOne_58 rfl rfl ?_
        refine zr_iconst (v := (0 : Int32)) dX4_judgeOne_59 (by decide) ?_
        revert hf; refine zbi (fun q2 e_q2 hf => ?_)
        revert hf; refine zbi (fun x8 e_x8 hf => ?_)
        refine zq_callV (J' := jX6_setting) (as := [zi (0 : Int32)]) (rest := []) (r1 := (some (zi x8))) (q := (RX6, TX6, 11)) kw_169 km_X6_setting kt_115 dX4_judgeOne_60 rfl (Nat.le_of_ble_eq_true rfl) rfl rfl e_q2 rfl (c_X6_setting hg e_x8) ?_
        cases hf
        exact zr_ret _ rfl dX4_judgeOne_63
      · rw [if_neg hc3] at hf
        by_cases hc4 : x2 = (3 : Int32)
        · rw [if_pos hc4] at hf
          refine zr_tabIn (off := 58) (tgt := 64) dX4_judgeOne_6 (by rw [hc4]; decide) (by rw [hc4]; rfl) (by decide) ?_
          refine zr_aload_n (v := .inl l1) dX4_judgeOne_64 rfl rfl ?_
          refine zr_iconst (v := (1 : Int32)) dX4_judgeOne_65 (by decide) ?_
          revert hf; refine zbi (fun q3 e_q3 hf => ?_)
          revert hf; refine zbi (fun x9 e_x9 hf => ?_)
          refine zq_callV (J' := jX6_setting) (as := [zi (1 : Int32)]) (rest := []) (r1 := (some (zi x9))) (q := (RX6, TX6, 11)) kw_169 km_X6_setting kt_115 dX4_judgeOne_66 rfl (Nat.le_of_ble_eq_true rfl) rfl rfl e_q3 rfl (c_X6_setting hg e_x9) ?_
          cases hf
          exact zr_ret _ rfl dX4_judgeOne_69
        · rw [if_neg hc4] at hf
          by_cases hc5 : x2 = (4 : Int32)
          · rw [if_pos hc5] at hf
            refine zr_tabIn (off := 64) (tgt := 70) dX4_judgeOne_6 (by rw [hc5]; decide) (by rw [hc5]; rfl) (by decide) ?_
            refine zr_aload_n (v := .inl (some l0)) dX4_judgeOne_70 rfl rfl ?_
            refine zr_aload_n (v := .inl (some l0)) dX4_judgeOne_71 rfl rfl ?_
            revert hf; refine zbi (fun x10 e_x10 hf => ?_)
            refine zq_getR kg_98 dX4_judgeOne_72 e_x10 ?_
            refine zr_iload_n (x := l3) dX4_judgeOne_75 rfl rfl ?_
            revert hf; refine zbi (fun x11 e_x11 hf => ?_)
            refine zq_iald dX4_judgeOne_76 e_x11 ?_
            refine zr_iload_n (x := l3) dX4_judgeOne_77 rfl rfl ?_
            revert hf; refine zbi (fun q4 e_q4 hf => ?_)
            revert hf; refine zbi (fun x12 e_x12 hf => ?_)
            refine zq_callV (J' := jX4_judgeIn) (as := [zi x11, zi l3]) (rest := []) (r1 := (some (zi x12))) (q := (RX4, TX4, 5)) kw_170 km_X4_judgeIn kt_117 dX4_judgeOne_78 rfl (Nat.le_of_ble_eq_true rfl) rfl rfl e_q4 rfl (c_X4_judgeIn hg e_x12) ?_
            cases hf
            exact zr_ret _ rfl dX4_judgeOne_81
          · rw [if_neg hc5] at hf
            refine zr_tabOut (tgt := 82) dX4_judgeOne_6 (fun q => by have n0 := zne (n := 0) hc1 (by decide); have n1 := zne (n := 1) hc2 (by decide); have n2 := zne (n := 2) hc3 (by decide); have n3 := zne (n := 3) hc4 (by decide); have n4 := zne (n := 4) hc5 (by decide); omega) (by decide) ?_
            refine zr_iconst (v := (0 : Int32)) dX4_judgeOne_82 (by decide) ?_
            cases hf
            exact zr_ret _ rfl dX4_judgeOne_83
theorem c_X4_judgeOne {g : zG} (hg : g.2.1.map (fun q => q.2) = zty) {N : Nat} {l0 : Nat} {l1 : Option Nat} {l2 : Int32} {l3 : Int32} {h : zH} {r : Int32} (hf : f_X4_judgeOne N l0 l1 l2 l3 h = some r) : zCa g jX4_judgeOne [zr (some l0), zr l1, zi l2, zi l3] h (some (zi r)) h :=
  zCa.of hg (by decide +kernel) (Nat.le_of_ble_eq_true rfl) (s_X4_judgeOne hg N l0 l1 l2 l3 h r hf)
theorem dX4_judge_0 : decode cX4_judge 0 = .ok (.iconst 0, 1) := by decide +kernel
theorem dX4_judge_1 : decode cX4_judge 1 = .ok (.istore 4, 2) := by decide +kernel
theorem dX4_judge_3 : decode cX4_judge 3 = .ok (.iconst 0, 1) := by decide +kernel
theorem dX4_judge_4 : decode cX4_judge 4 = .ok (.istore 5, 2) := by decide +kernel
theorem dX4_judge_6 : decode cX4_judge 6 = .ok (.iload 5, 2) := by decide +kernel
theorem dX4_judge_8 : decode cX4_judge 8 = .ok (.iload_n 3, 1) := by decide +kernel
theorem dX4_judge_9 : decode cX4_judge 9 = .ok (.if_icmp .ge 50, 3) := by decide +kernel
theorem dX4_judge_12 : decode cX4_judge 12 = .ok (.iload 5, 2) := by decide +kernel
theorem dX4_judge_14 : decode cX4_judge 14 = .ok (.bipush 6, 2) := by decide +kernel
theorem dX4_judge_16 : decode cX4_judge 16 = .ok (.if_icmp .ge 43, 3) := by decide +kernel
theorem dX4_judge_19 : decode cX4_judge 19 = .ok (.aload_n 0, 1) := by decide +kernel
theorem dX4_judge_20 : decode cX4_judge 20 = .ok (.aload_n 1, 1) := by decide +kernel
theorem dX4_judge_21 : decode cX4_judge 21 = .ok (.iload_n 2, 1) := by decide +kernel
theorem dX4_judge_22 : decode cX4_judge 22 = .ok (.iload 5, 2) := by decide +kernel
theorem dX4_judge_24 : decode cX4_judge 24 = .ok (.invokevirtual 36, 3) := by decide +kernel
theorem dX4_judge_27 : decode cX4_judge 27 = .ok (.istore 6, 2) := by decide +kernel
theorem dX4_judge_29 : decode cX4_judge 29 = .ok (.iload 6, 2) := by decide +kernel
theorem dX4_judge_31 : decode cX4_judge 31 = .ok (.iconst (-1), 1) := by decide +kernel
theorem dX4_judge_32 : decode cX4_judge 32 = .ok (.if_icmp .ne 5, 3) := by decide +kernel
theorem dX4_judge_35 : decode cX4_judge 35 = .ok (.iconst (-1), 1) := by decide +kernel
theorem dX4_judge_36 : decode cX4_judge 36 = .ok (.ireturn, 1) := by decide +kernel
theorem dX4_judge_37 : decode cX4_judge 37 = .ok (.aload_n 0, 1) := by decide +kernel
theorem dX4_judge_38 : decode cX4_judge 38 = .ok (.getfield 25, 3) := by decide +kernel
theorem dX4_judge_41 : decode cX4_judge 41 = .ok (.iload 5, 2) := by decide +kernel
theorem dX4_judge_43 : decode cX4_judge 43 = .ok (.iload 6, 2) := by decide +kernel
theorem dX4_judge_45 : decode cX4_judge 45 = .ok (.iastore, 1) := by decide +kernel
theorem dX4_judge_46 : decode cX4_judge 46 = .ok (.iload 4, 2) := by decide +kernel
theorem dX4_judge_48 : decode cX4_judge 48 = .ok (.iload 6, 2) := by decide +kernel
theorem dX4_judge_50 : decode cX4_judge 50 = .ok (.iadd, 1) := by decide +kernel
theorem dX4_judge_51 : decode cX4_judge 51 = .ok (.istore 4, 2) := by decide +kernel
theorem dX4_judge_53 : decode cX4_judge 53 = .ok (.iinc 5 1, 3) := by decide +kernel
theorem dX4_judge_56 : decode cX4_judge 56 = .ok (.goto (-50), 3) := by decide +kernel
theorem dX4_judge_59 : decode cX4_judge 59 = .ok (.iload 4, 2) := by decide +kernel
theorem dX4_judge_61 : decode cX4_judge 61 = .ok (.ireturn, 1) := by decide +kernel
def f_X4_judge_6 (N : Nat) : Nat → Nat → Option Nat → Int32 → Int32 → Int32 → Int32 → zH → Option (Int32 × zH)
  | 0, _, _, _, _, _, _, _ => none
  | n + 1, l0, l1, l2, l3, l4, l5, h => if l3 ≤ l5 then some (l4, h) else if (6 : Int32) ≤ l5 then some (l4, h) else (zck h 4 (some l0)).bind fun q1 => (f_X4_judgeOne N q1 l1 l2 l5 h).bind fun x1 => if x1 = ((-1) : Int32) then some (((-1) : Int32), h) else (zgR h 4 (some l0) 4).bind fun x2 => (zst h 0 x2 l5 x1).bind fun h1 => f_X4_judge_6 N n l0 l1 l2 l3 (l4 + x1) (l5 + (1 : Int32)) h1
set_option maxHeartbeats 4000000 in
set_option maxRecDepth 100000 in
theorem s_X4_judge_6 {g : zG} (hg : g.2.1.map (fun q => q.2) = zty) {h0 : zH} (N : Nat) : ∀ (n : Nat) (l0 : Nat) (l1 : Option Nat) (l2 : Int32) (l3 : Int32) (l4 : Int32) (l5 : Int32) (h : zH) (r : Int32) (h' : zH), f_X4_judge_6 N n l0 l1 l2 l3 l4 l5 h = some (r, h') → zR g jX4_judge h0 6 [some (zr (some l0)), some (zr l1), some (zi l2), some (zi l3), some (zi l4), some (zi l5), none] [] h (some (zi r)) h' := by
  intro n
  induction n with
  | zero =>
    intro l0 l1 l2 l3 l4 l5 h r h' hf
    cases hf
  | succ n ih =>
    intro l0 l1 l2 l3 l4 l5 h r h' hf
    rw [f_X4_judge_6] at hf
    refine zr_iload (x := l5) dX4_judge_6 rfl ?_
    refine zr_iload_n (x := l3) dX4_judge_8 rfl rfl ?_
    by_cases hc1 : l3 ≤ l5
    · rw [if_pos hc1] at hf
      refine zr_icge_t (tgt := 59) dX4_judge_9 (by decide) hc1 ?_
      refine zr_iload (x := l4) dX4_judge_59 rfl ?_
      cases hf
      exact zr_ret _ rfl dX4_judge_61
    · rw [if_neg hc1] at hf
      refine zr_icge_f 59 dX4_judge_9 (by decide) hc1 ?_
      refine zr_iload (x := l5) dX4_judge_12 rfl ?_
      refine zr_bipush (v := (6 : Int32)) dX4_judge_14 (by decide) ?_
      by_cases hc2 : (6 : Int32) ≤ l5
      · rw [if_pos hc2] at hf
        refine zr_icge_t (tgt := 59) dX4_judge_16 (by decide) hc2 ?_
        refine zr_iload (x := l4) dX4_judge_59 rfl ?_
        cases hf
        exact zr_ret _ rfl dX4_judge_61
      · rw [if_neg hc2] at hf
        refine zr_icge_f 59 dX4_judge_16 (by decide) hc2 ?_
        refine zr_aload_n (v := .inl (some l0)) dX4_judge_19 rfl rfl ?_
        refine zr_aload_n (v := .inl l1) dX4_judge_20 rfl rfl ?_
        refine zr_iload_n (x := l2) dX4_judge_21 rfl rfl ?_
        refine zr_iload (x := l5) dX4_judge_22 rfl ?_
        revert hf; refine zbi (fun q1 e_q1 hf => ?_)
        revert hf; refine zbi (fun x1 e_x1 hf => ?_)
        refine zq_callV (J' := jX4_judgeOne) (as := [zr l1, zi l2, zi l5]) (rest := []) (r1 := (some (zi x1))) (q := (RX4, TX4, 5)) kw_174 km_X4_judgeOne kt_119 dX4_judge_24 rfl (Nat.le_of_ble_eq_true rfl) rfl rfl e_q1 rfl (c_X4_judgeOne hg e_x1) ?_
        refine zq_istore (x := x1) (L' := [some (zr (some l0)), some (zr l1), some (zi l2), some (zi l3), some (zi l4), some (zi l5), some (zi x1)]) dX4_judge_27 (by decide) rfl ?_
        refine zr_iload (x := x1) dX4_judge_29 rfl ?_
        refine zr_iconst (v := ((-1) : Int32)) dX4_judge_31 (by decide) ?_
        by_cases hc3 : x1 = ((-1) : Int32)
        · rw [if_pos hc3] at hf
          refine zr_icne_f 37 dX4_judge_32 (by decide) hc3 ?_
          refine zr_iconst (v := ((-1) : Int32)) dX4_judge_35 (by decide) ?_
          cases hf
          exact zr_ret _ rfl dX4_judge_36
        · rw [if_neg hc3] at hf
          refine zr_icne_t (tgt := 37) dX4_judge_32 (by decide) hc3 ?_
          refine zr_aload_n (v := .inl (some l0)) dX4_judge_37 rfl rfl ?_
          revert hf; refine zbi (fun x2 e_x2 hf => ?_)
          refine zq_getR kg_112 dX4_judge_38 e_x2 ?_
          refine zr_iload (x := l5) dX4_judge_41 rfl ?_
          refine zr_iload (x := x1) dX4_judge_43 rfl ?_
          revert hf; refine zbi (fun h1 e_h1 hf => ?_)
          refine zq_iast dX4_judge_45 e_h1 ?_
          refine zr_iload (x := l4) dX4_judge_46 rfl ?_
          refine zr_iload (x := x1) dX4_judge_48 rfl ?_
          refine zr_iadd dX4_judge_50 ?_
          refine zq_istore (x := (l4 + x1)) (L' := [some (zr (some l0)), some (zr l1), some (zi l2), some (zi l3), some (zi (l4 + x1)), some (zi l5), some (zi x1)]) dX4_judge_51 (by decide) rfl ?_
          refine zq_iinc (x := l5) (y := (1 : Int32)) (L' := [some (zr (some l0)), some (zr l1), some (zi l2), some (zi l3), some (zi (l4 + x1)), some (zi (l5 + (1 : Int32))), some (zi x1)]) dX4_judge_53 rfl (by decide) (by decide) rfl ?_
          refine zr_goto (tgt := 6) dX4_judge_56 (by decide) ?_
          refine zr_forget 6 (L' := [some (zr (some l0)), some (zr l1), some (zi l2), some (zi l3), some (zi (l4 + x1)), some (zi (l5 + (1 : Int32))), none]) rfl ?_
          exact ih l0 l1 l2 l3 (l4 + x1) (l5 + (1 : Int32)) h1 r h' hf
def f_X4_judge (N : Nat) (l0 : Nat) (l1 : Option Nat) (l2 : Int32) (l3 : Int32) (h : zH) : Option (Int32 × zH) := f_X4_judge_6 N N l0 l1 l2 l3 (0 : Int32) (0 : Int32) h
set_option maxHeartbeats 4000000 in
set_option maxRecDepth 100000 in
theorem s_X4_judge {g : zG} (hg : g.2.1.map (fun q => q.2) = zty) {h0 : zH} (N : Nat) (l0 : Nat) (l1 : Option Nat) (l2 : Int32) (l3 : Int32) (h : zH) (r : Int32) (h' : zH) (hf : f_X4_judge N l0 l1 l2 l3 h = some (r, h')) : zR g jX4_judge h0 0 [some (zr (some l0)), some (zr l1), some (zi l2), some (zi l3), none, none, none] [] h (some (zi r)) h' := by
  unfold f_X4_judge at hf
  refine zr_iconst (v := (0 : Int32)) dX4_judge_0 (by decide) ?_
  refine zq_istore (x := (0 : Int32)) (L' := [some (zr (some l0)), some (zr l1), some (zi l2), some (zi l3), some (zi (0 : Int32)), none, none]) dX4_judge_1 (by decide) rfl ?_
  refine zr_iconst (v := (0 : Int32)) dX4_judge_3 (by decide) ?_
  refine zq_istore (x := (0 : Int32)) (L' := [some (zr (some l0)), some (zr l1), some (zi l2), some (zi l3), some (zi (0 : Int32)), some (zi (0 : Int32)), none]) dX4_judge_4 (by decide) rfl ?_
  exact s_X4_judge_6 hg N N l0 l1 l2 l3 (0 : Int32) (0 : Int32) h r h' hf
theorem c_X4_judge {g : zG} (hg : g.2.1.map (fun q => q.2) = zty) {N : Nat} {l0 : Nat} {l1 : Option Nat} {l2 : Int32} {l3 : Int32} {h : zH} {r : Int32} {h' : zH} (hf : f_X4_judge N l0 l1 l2 l3 h = some (r, h')) : zCa g jX4_judge [zr (some l0), zr l1, zi l2, zi l3] h (some (zi r)) h' :=
  zCa.of hg (by decide +kernel) (Nat.le_of_ble_eq_true rfl) (s_X4_judge hg N l0 l1 l2 l3 h r h' hf)
theorem dX10_init_0 : decode cX10_init 0 = .ok (.aload_n 0, 1) := by decide +kernel
theorem dX10_init_1 : decode cX10_init 1 = .ok (.invokespecial 3, 3) := by decide +kernel
theorem dX10_init_4 : decode cX10_init 4 = .ok (.aload_n 0, 1) := by decide +kernel
theorem dX10_init_5 : decode cX10_init 5 = .ok (.sipush 1000, 3) := by decide +kernel
theorem dX10_init_8 : decode cX10_init 8 = .ok (.newarray .byte, 2) := by decide +kernel
theorem dX10_init_10 : decode cX10_init 10 = .ok (.putfield 11, 3) := by decide +kernel
theorem dX10_init_13 : decode cX10_init 13 = .ok (.aload_n 0, 1) := by decide +kernel
theorem dX10_init_14 : decode cX10_init 14 = .ok (.iconst 0, 1) := by decide +kernel
theorem dX10_init_15 : decode cX10_init 15 = .ok (.putfield 15, 3) := by decide +kernel
theorem dX10_init_18 : decode cX10_init 18 = .ok (.return_, 1) := by decide +kernel
def f_X10_init (N : Nat) (l0 : Nat) (h : zH) : Option zH := zna h 1 (1000 : Int32) fun a1 h1 => (zpu h1 10 (some l0) 0 (zr (some a1))).bind fun h2 => (zpu h2 10 (some l0) 1 (zi (0 : Int32))).bind fun h3 => some h3
set_option maxHeartbeats 4000000 in
set_option maxRecDepth 100000 in
theorem s_X10_init {g : zG} (hg : g.2.1.map (fun q => q.2) = zty) {h0 : zH} (N : Nat) (l0 : Nat) (h : zH) (h' : zH) (hf : f_X10_init N l0 h = some h') : zR g jX10_init h0 0 [some (zr (some l0))] [] h none h' := by
  unfold f_X10_init at hf
  refine zr_aload_n (v := .inl (some l0)) dX10_init_0 rfl rfl ?_
  refine zr_objInit kw_178 kw_1 kw_2 ⟨Nat.le_of_ble_eq_true rfl, Nat.le_of_ble_eq_true rfl⟩ dX10_init_1 ?_
  refine zr_aload_n (v := .inl (some l0)) dX10_init_4 rfl rfl ?_
  refine zr_sipush (v := (1000 : Int32)) dX10_init_5 (by decide) ?_
  obtain ⟨a1, h1, e_a1, hf⟩ := zna_spec hf
  refine zq_newa (atype := .byte) (t := 1) kw_179 rfl (fun _ _ => rfl) (by decide) dX10_init_8 e_a1 ?_
  revert hf; refine zbi (fun h2 e_h2 hf => ?_)
  refine zq_put kp_120 dX10_init_10 (zn_a _ _) e_h2 ?_
  refine zr_aload_n (v := .inl (some l0)) dX10_init_13 rfl rfl ?_
  refine zr_iconst (v := (0 : Int32)) dX10_init_14 (by decide) ?_
  revert hf; refine zbi (fun h3 e_h3 hf => ?_)
  refine zq_put (kp_121 _) dX10_init_15 (zn_i _) e_h3 ?_
  cases hf
  exact zr_ret none trivial dX10_init_18
theorem c_X10_init {g : zG} (hg : g.2.1.map (fun q => q.2) = zty) {N : Nat} {l0 : Nat} {h : zH} {h' : zH} (hf : f_X10_init N l0 h = some h') : zCa g jX10_init [zr (some l0)] h none h' :=
  zCa.of hg (by decide +kernel) (Nat.le_of_ble_eq_true rfl) (s_X10_init hg N l0 h h' hf)
theorem dX6_init_0 : decode cX6_init 0 = .ok (.aload_n 0, 1) := by decide +kernel
theorem dX6_init_1 : decode cX6_init 1 = .ok (.invokespecial 3, 3) := by decide +kernel
theorem dX6_init_4 : decode cX6_init 4 = .ok (.aload_n 0, 1) := by decide +kernel
theorem dX6_init_5 : decode cX6_init 5 = .ok (.iconst 0, 1) := by decide +kernel
theorem dX6_init_6 : decode cX6_init 6 = .ok (.putfield 9, 3) := by decide +kernel
theorem dX6_init_9 : decode cX6_init 9 = .ok (.aload_n 0, 1) := by decide +kernel
theorem dX6_init_10 : decode cX6_init 10 = .ok (.iconst 4, 1) := by decide +kernel
theorem dX6_init_11 : decode cX6_init 11 = .ok (.newarray .int, 2) := by decide +kernel
theorem dX6_init_13 : decode cX6_init 13 = .ok (.putfield 15, 3) := by decide +kernel
theorem dX6_init_16 : decode cX6_init 16 = .ok (.aload_n 0, 1) := by decide +kernel
theorem dX6_init_17 : decode cX6_init 17 = .ok (.bipush 48, 2) := by decide +kernel
theorem dX6_init_19 : decode cX6_init 19 = .ok (.newarray .int, 2) := by decide +kernel
theorem dX6_init_21 : decode cX6_init 21 = .ok (.putfield 19, 3) := by decide +kernel
theorem dX6_init_24 : decode cX6_init 24 = .ok (.aload_n 0, 1) := by decide +kernel
theorem dX6_init_25 : decode cX6_init 25 = .ok (.bipush 48, 2) := by decide +kernel
theorem dX6_init_27 : decode cX6_init 27 = .ok (.newarray .int, 2) := by decide +kernel
theorem dX6_init_29 : decode cX6_init 29 = .ok (.putfield 22, 3) := by decide +kernel
theorem dX6_init_32 : decode cX6_init 32 = .ok (.aload_n 0, 1) := by decide +kernel
theorem dX6_init_33 : decode cX6_init 33 = .ok (.iconst 0, 1) := by decide +kernel
theorem dX6_init_34 : decode cX6_init 34 = .ok (.putfield 25, 3) := by decide +kernel
theorem dX6_init_37 : decode cX6_init 37 = .ok (.aload_n 0, 1) := by decide +kernel
theorem dX6_init_38 : decode cX6_init 38 = .ok (.iconst 4, 1) := by decide +kernel
theorem dX6_init_39 : decode cX6_init 39 = .ok (.newarray .int, 2) := by decide +kernel
theorem dX6_init_41 : decode cX6_init 41 = .ok (.putfield 28, 3) := by decide +kernel
theorem dX6_init_44 : decode cX6_init 44 = .ok (.aload_n 0, 1) := by decide +kernel
theorem dX6_init_45 : decode cX6_init 45 = .ok (.iconst 4, 1) := by decide +kernel
theorem dX6_init_46 : decode cX6_init 46 = .ok (.newarray .int, 2) := by decide +kernel
theorem dX6_init_48 : decode cX6_init 48 = .ok (.putfield 31, 3) := by decide +kernel
theorem dX6_init_51 : decode cX6_init 51 = .ok (.aload_n 0, 1) := by decide +kernel
theorem dX6_init_52 : decode cX6_init 52 = .ok (.iconst 4, 1) := by decide +kernel
theorem dX6_init_53 : decode cX6_init 53 = .ok (.newarray .int, 2) := by decide +kernel
theorem dX6_init_55 : decode cX6_init 55 = .ok (.putfield 34, 3) := by decide +kernel
theorem dX6_init_58 : decode cX6_init 58 = .ok (.aload_n 0, 1) := by decide +kernel
theorem dX6_init_59 : decode cX6_init 59 = .ok (.iconst 0, 1) := by decide +kernel
theorem dX6_init_60 : decode cX6_init 60 = .ok (.putfield 37, 3) := by decide +kernel
theorem dX6_init_63 : decode cX6_init 63 = .ok (.aload_n 0, 1) := by decide +kernel
theorem dX6_init_64 : decode cX6_init 64 = .ok (.bipush 6, 2) := by decide +kernel
theorem dX6_init_66 : decode cX6_init 66 = .ok (.newarray .int, 2) := by decide +kernel
theorem dX6_init_68 : decode cX6_init 68 = .ok (.putfield 40, 3) := by decide +kernel
theorem dX6_init_71 : decode cX6_init 71 = .ok (.aload_n 0, 1) := by decide +kernel
theorem dX6_init_72 : decode cX6_init 72 = .ok (.iconst 3, 1) := by decide +kernel
theorem dX6_init_73 : decode cX6_init 73 = .ok (.newarray .int, 2) := by decide +kernel
theorem dX6_init_75 : decode cX6_init 75 = .ok (.dup, 1) := by decide +kernel
theorem dX6_init_76 : decode cX6_init 76 = .ok (.iconst 0, 1) := by decide +kernel
theorem dX6_init_77 : decode cX6_init 77 = .ok (.iconst (-1), 1) := by decide +kernel
theorem dX6_init_78 : decode cX6_init 78 = .ok (.iastore, 1) := by decide +kernel
theorem dX6_init_79 : decode cX6_init 79 = .ok (.dup, 1) := by decide +kernel
theorem dX6_init_80 : decode cX6_init 80 = .ok (.iconst 1, 1) := by decide +kernel
theorem dX6_init_81 : decode cX6_init 81 = .ok (.iconst (-1), 1) := by decide +kernel
theorem dX6_init_82 : decode cX6_init 82 = .ok (.iastore, 1) := by decide +kernel
theorem dX6_init_83 : decode cX6_init 83 = .ok (.dup, 1) := by decide +kernel
theorem dX6_init_84 : decode cX6_init 84 = .ok (.iconst 2, 1) := by decide +kernel
theorem dX6_init_85 : decode cX6_init 85 = .ok (.iconst (-1), 1) := by decide +kernel
theorem dX6_init_86 : decode cX6_init 86 = .ok (.iastore, 1) := by decide +kernel
theorem dX6_init_87 : decode cX6_init 87 = .ok (.putfield 43, 3) := by decide +kernel
theorem dX6_init_90 : decode cX6_init 90 = .ok (.return_, 1) := by decide +kernel
def f_X6_init (N : Nat) (l0 : Nat) (h : zH) : Option zH := (zpu h 6 (some l0) 0 (zi (0 : Int32))).bind fun h1 => zna h1 0 (4 : Int32) fun a1 h2 => (zpu h2 6 (some l0) 1 (zr (some a1))).bind fun h3 => zna h3 0 (48 : Int32) fun a2 h4 => (zpu h4 6 (some l0) 2 (zr (some a2))).bind fun h5 => zna h5 0 (48 : Int32) fun a3 h6 => (zpu h6 6 (some l0) 3 (zr (some a3))).bind fun h7 => (zpu h7 6 (some l0) 4 (zi (0 : Int32))).bind fun h8 => zna h8 0 (4 : Int32) fun a4 h9 => (zpu h9 6 (some l0) 5 (zr (some a4))).bind fun h10 => zna h10 0 (4 : Int32) fun a5 h11 => (zpu h11 6 (some l0) 6 (zr (some a5))).bind fun h12 => zna h12 0 (4 : Int32) fun a6 h13 => (zpu h13 6 (some l0) 7 (zr (some a6))).bind fun h14 => (zpu h14 6 (some l0) 8 (zi (0 : Int32))).bind fun h15 => zna h15 0 (6 : Int32) fun a7 h16 => (zpu h16 6 (some l0) 9 (zr (some a7))).bind fun h17 => zna h17 0 (3 : Int32) fun a8 h18 => (zst h18 0 (some a8) (0 : Int32) ((-1) : Int32)).bind fun h19 => (zst h19 0 (some a8) (1 : Int32) ((-1) : Int32)).bind fun h20 => (zst h20 0 (some a8) (2 : Int32) ((-1) : Int32)).bind fun h21 => (zpu h21 6 (some l0) 10 (zr (some a8))).bind fun h22 => some h22
set_option maxHeartbeats 4000000 in
set_option maxRecDepth 100000 in
theorem s_X6_init {g : zG} (hg : g.2.1.map (fun q => q.2) = zty) {h0 : zH} (N : Nat) (l0 : Nat) (h : zH) (h' : zH) (hf : f_X6_init N l0 h = some h') : zR g jX6_init h0 0 [some (zr (some l0))] [] h none h' := by
  unfold f_X6_init at hf
  refine zr_aload_n (v := .inl (some l0)) dX6_init_0 rfl rfl ?_
  refine zr_objInit kw_182 kw_1 kw_2 ⟨Nat.le_of_ble_eq_true rfl, Nat.le_of_ble_eq_true rfl⟩ dX6_init_1 ?_
  refine zr_aload_n (v := .inl (some l0)) dX6_init_4 rfl rfl ?_
  refine zr_iconst (v := (0 : Int32)) dX6_init_5 (by decide) ?_
  revert hf; refine zbi (fun h1 e_h1 hf => ?_)
  refine zq_put (kp_122 _) dX6_init_6 (zn_i _) e_h1 ?_
  refine zr_aload_n (v := .inl (some l0)) dX6_init_9 rfl rfl ?_
  refine zr_iconst (v := (4 : Int32)) dX6_init_10 (by decide) ?_
  obtain ⟨a1, h2, e_a1, hf⟩ := zna_spec hf
  refine zq_newa (atype := .int) (t := 0) kw_14 rfl (fun _ _ => rfl) (by decide) dX6_init_11 e_a1 ?_
  revert hf; refine zbi (fun h3 e_h3 hf => ?_)
  refine zq_put kp_123 dX6_init_13 (zn_a _ _) e_h3 ?_
  refine zr_aload_n (v := .inl (some l0)) dX6_init_16 rfl rfl ?_
  refine zr_bipush (v := (48 : Int32)) dX6_init_17 (by decide) ?_
  obtain ⟨a2, h4, e_a2, hf⟩ := zna_spec hf
  refine zq_newa (atype := .int) (t := 0) kw_14 rfl (fun _ _ => rfl) (by decide) dX6_init_19 e_a2 ?_
  revert hf; refine zbi (fun h5 e_h5 hf => ?_)
  refine zq_put kp_124 dX6_init_21 (zn_a _ _) e_h5 ?_
  refine zr_aload_n (v := .inl (some l0)) dX6_init_24 rfl rfl ?_
  refine zr_bipush (v := (48 : Int32)) dX6_init_25 (by decide) ?_
  obtain ⟨a3, h6, e_a3, hf⟩ := zna_spec hf
  refine zq_newa (atype := .int) (t := 0) kw_14 rfl (fun _ _ => rfl) (by decide) dX6_init_27 e_a3 ?_
  revert hf; refine zbi (fun h7 e_h7 hf => ?_)
  refine zq_put kp_125 dX6_init_29 (zn_a _ _) e_h7 ?_
  refine zr_aload_n (v := .inl (some l0)) dX6_init_32 rfl rfl ?_
  refine zr_iconst (v := (0 : Int32)) dX6_init_33 (by decide) ?_
  revert hf; refine zbi (fun h8 e_h8 hf => ?_)
  refine zq_put (kp_126 _) dX6_init_34 (zn_i _) e_h8 ?_
  refine zr_aload_n (v := .inl (some l0)) dX6_init_37 rfl rfl ?_
  refine zr_iconst (v := (4 : Int32)) dX6_init_38 (by decide) ?_
  obtain ⟨a4, h9, e_a4, hf⟩ := zna_spec hf
  refine zq_newa (atype := .int) (t := 0) kw_14 rfl (fun _ _ => rfl) (by decide) dX6_init_39 e_a4 ?_
  revert hf; refine zbi (fun h10 e_h10 hf => ?_)
  refine zq_put kp_127 dX6_init_41 (zn_a _ _) e_h10 ?_
  refine zr_aload_n (v := .inl (some l0)) dX6_init_44 rfl rfl ?_
  refine zr_iconst (v := (4 : Int32)) dX6_init_45 (by decide) ?_
  obtain ⟨a5, h11, e_a5, hf⟩ := zna_spec hf
  refine zq_newa (atype := .int) (t := 0) kw_14 rfl (fun _ _ => rfl) (by decide) dX6_init_46 e_a5 ?_
  revert hf; refine zbi (fun h12 e_h12 hf => ?_)
  refine zq_put kp_128 dX6_init_48 (zn_a _ _) e_h12 ?_
  refine zr_aload_n (v := .inl (some l0)) dX6_init_51 rfl rfl ?_
  refine zr_iconst (v := (4 : Int32)) dX6_init_52 (by decide) ?_
  obtain ⟨a6, h13, e_a6, hf⟩ := zna_spec hf
  refine zq_newa (atype := .int) (t := 0) kw_14 rfl (fun _ _ => rfl) (by decide) dX6_init_53 e_a6 ?_
  revert hf; refine zbi (fun h14 e_h14 hf => ?_)
  refine zq_put kp_129 dX6_init_55 (zn_a _ _) e_h14 ?_
  refine zr_aload_n (v := .inl (some l0)) dX6_init_58 rfl rfl ?_
  refine zr_iconst (v := (0 : Int32)) dX6_init_59 (by decide) ?_
  revert hf; refine zbi (fun h15 e_h15 hf => ?_)
  refine zq_put (kp_130 _) dX6_init_60 (zn_i _) e_h15 ?_
  refine zr_aload_n (v := .inl (some l0)) dX6_init_63 rfl rfl ?_
  refine zr_bipush (v := (6 : Int32)) dX6_init_64 (by decide) ?_
  obtain ⟨a7, h16, e_a7, hf⟩ := zna_spec hf
  refine zq_newa (atype := .int) (t := 0) kw_14 rfl (fun _ _ => rfl) (by decide) dX6_init_66 e_a7 ?_
  revert hf; refine zbi (fun h17 e_h17 hf => ?_)
  refine zq_put kp_131 dX6_init_68 (zn_a _ _) e_h17 ?_
  refine zr_aload_n (v := .inl (some l0)) dX6_init_71 rfl rfl ?_
  refine zr_iconst (v := (3 : Int32)) dX6_init_72 (by decide) ?_
  obtain ⟨a8, h18, e_a8, hf⟩ := zna_spec hf
  refine zq_newa (atype := .int) (t := 0) kw_14 rfl (fun _ _ => rfl) (by decide) dX6_init_73 e_a8 ?_
  refine zr_dup dX6_init_75 ?_
  refine zr_iconst (v := (0 : Int32)) dX6_init_76 (by decide) ?_
  refine zr_iconst (v := ((-1) : Int32)) dX6_init_77 (by decide) ?_
  revert hf; refine zbi (fun h19 e_h19 hf => ?_)
  refine zq_iast dX6_init_78 e_h19 ?_
  refine zr_dup dX6_init_79 ?_
  refine zr_iconst (v := (1 : Int32)) dX6_init_80 (by decide) ?_
  refine zr_iconst (v := ((-1) : Int32)) dX6_init_81 (by decide) ?_
  revert hf; refine zbi (fun h20 e_h20 hf => ?_)
  refine zq_iast dX6_init_82 e_h20 ?_
  refine zr_dup dX6_init_83 ?_
  refine zr_iconst (v := (2 : Int32)) dX6_init_84 (by decide) ?_
  refine zr_iconst (v := ((-1) : Int32)) dX6_init_85 (by decide) ?_
  revert hf; refine zbi (fun h21 e_h21 hf => ?_)
  refine zq_iast dX6_init_86 e_h21 ?_
  revert hf; refine zbi (fun h22 e_h22 hf => ?_)
  refine zq_put kp_132 dX6_init_87 (zn_a _ _) e_h22 ?_
  cases hf
  exact zr_ret none trivial dX6_init_90
theorem c_X6_init {g : zG} (hg : g.2.1.map (fun q => q.2) = zty) {N : Nat} {l0 : Nat} {h : zH} {h' : zH} (hf : f_X6_init N l0 h = some h') : zCa g jX6_init [zr (some l0)] h none h' :=
  zCa.of hg (by decide +kernel) (Nat.le_of_ble_eq_true rfl) (s_X6_init hg N l0 h h' hf)
theorem dX5_init_0 : decode cX5_init 0 = .ok (.aload_n 0, 1) := by decide +kernel
theorem dX5_init_1 : decode cX5_init 1 = .ok (.invokespecial 3, 3) := by decide +kernel
theorem dX5_init_4 : decode cX5_init 4 = .ok (.aload_n 0, 1) := by decide +kernel
theorem dX5_init_5 : decode cX5_init 5 = .ok (.new 9, 3) := by decide +kernel
theorem dX5_init_8 : decode cX5_init 8 = .ok (.dup, 1) := by decide +kernel
theorem dX5_init_9 : decode cX5_init 9 = .ok (.invokespecial 11, 3) := by decide +kernel
theorem dX5_init_12 : decode cX5_init 12 = .ok (.putfield 12, 3) := by decide +kernel
theorem dX5_init_15 : decode cX5_init 15 = .ok (.aload_n 0, 1) := by decide +kernel
theorem dX5_init_16 : decode cX5_init 16 = .ok (.new 18, 3) := by decide +kernel
theorem dX5_init_19 : decode cX5_init 19 = .ok (.dup, 1) := by decide +kernel
theorem dX5_init_20 : decode cX5_init 20 = .ok (.invokespecial 20, 3) := by decide +kernel
theorem dX5_init_23 : decode cX5_init 23 = .ok (.putfield 21, 3) := by decide +kernel
theorem dX5_init_26 : decode cX5_init 26 = .ok (.aload_n 0, 1) := by decide +kernel
theorem dX5_init_27 : decode cX5_init 27 = .ok (.iconst 0, 1) := by decide +kernel
theorem dX5_init_28 : decode cX5_init 28 = .ok (.putfield 25, 3) := by decide +kernel
theorem dX5_init_31 : decode cX5_init 31 = .ok (.aload_n 0, 1) := by decide +kernel
theorem dX5_init_32 : decode cX5_init 32 = .ok (.iconst 0, 1) := by decide +kernel
theorem dX5_init_33 : decode cX5_init 33 = .ok (.putfield 29, 3) := by decide +kernel
theorem dX5_init_36 : decode cX5_init 36 = .ok (.aload_n 0, 1) := by decide +kernel
theorem dX5_init_37 : decode cX5_init 37 = .ok (.iconst 0, 1) := by decide +kernel
theorem dX5_init_38 : decode cX5_init 38 = .ok (.putfield 32, 3) := by decide +kernel
theorem dX5_init_41 : decode cX5_init 41 = .ok (.aload_n 0, 1) := by decide +kernel
theorem dX5_init_42 : decode cX5_init 42 = .ok (.iconst 0, 1) := by decide +kernel
theorem dX5_init_43 : decode cX5_init 43 = .ok (.putfield 35, 3) := by decide +kernel
theorem dX5_init_46 : decode cX5_init 46 = .ok (.aload_n 0, 1) := by decide +kernel
theorem dX5_init_47 : decode cX5_init 47 = .ok (.iconst (-1), 1) := by decide +kernel
theorem dX5_init_48 : decode cX5_init 48 = .ok (.putfield 38, 3) := by decide +kernel
theorem dX5_init_51 : decode cX5_init 51 = .ok (.return_, 1) := by decide +kernel
def f_X5_init (N : Nat) (l0 : Nat) (h : zH) : Option zH := znw h (.inr (10, [zr none, zi 0])) fun a1 h1 => (f_X10_init N a1 h1).bind fun h2 => (zpu h2 5 (some l0) 0 (zr (some a1))).bind fun h3 => znw h3 (.inr (6, [zi 0, zr none, zr none, zr none, zi 0, zr none, zr none, zr none, zi 0, zr none, zr none])) fun a2 h4 => (f_X6_init N a2 h4).bind fun h5 => (zpu h5 5 (some l0) 1 (zr (some a2))).bind fun h6 => (zpu h6 5 (some l0) 2 (zi (0 : Int32))).bind fun h7 => (zpu h7 5 (some l0) 3 (zi (0 : Int32))).bind fun h8 => (zpu h8 5 (some l0) 4 (zi (0 : Int32))).bind fun h9 => (zpu h9 5 (some l0) 5 (zi (0 : Int32))).bind fun h10 => (zpu h10 5 (some l0) 6 (zi ((-1) : Int32))).bind fun h11 => some h11
set_option maxHeartbeats 4000000 in
set_option maxRecDepth 100000 in
theorem s_X5_init {g : zG} (hg : g.2.1.map (fun q => q.2) = zty) {h0 : zH} (N : Nat) (l0 : Nat) (h : zH) (h' : zH) (hf : f_X5_init N l0 h = some h') : zR g jX5_init h0 0 [some (zr (some l0))] [] h none h' := by
  unfold f_X5_init at hf
  refine zr_aload_n (v := .inl (some l0)) dX5_init_0 rfl rfl ?_
  refine zr_objInit kw_187 kw_1 kw_2 ⟨Nat.le_of_ble_eq_true rfl, Nat.le_of_ble_eq_true rfl⟩ dX5_init_1 ?_
  refine zr_aload_n (v := .inl (some l0)) dX5_init_4 rfl rfl ?_
  obtain ⟨a1, h1, e_a1, e_h1, hf⟩ := znw_spec hf
  refine zq_new kn_133 dX5_init_5 e_a1 e_h1 ?_
  refine zr_dup dX5_init_8 ?_
  revert hf; refine zbi (fun h2 e_h2 hf => ?_)
  refine zq_callIN (J' := jX10_init) (as := []) (rest := [zr (some a1), zr (some l0)]) (r1 := none) (a := a1) kw_191 km_X10_init kt_135 dX5_init_9 rfl (Nat.le_of_ble_eq_true rfl) rfl (c_X10_init hg e_h2) ?_
  revert hf; refine zbi (fun h3 e_h3 hf => ?_)
  refine zq_put kp_136 dX5_init_12 (zn_o _ _) e_h3 ?_
  refine zr_aload_n (v := .inl (some l0)) dX5_init_15 rfl rfl ?_
  obtain ⟨a2, h4, e_a2, e_h4, hf⟩ := znw_spec hf
  refine zq_new kn_137 dX5_init_16 e_a2 e_h4 ?_
  refine zr_dup dX5_init_19 ?_
  revert hf; refine zbi (fun h5 e_h5 hf => ?_)
  refine zq_callIN (J' := jX6_init) (as := []) (rest := [zr (some a2), zr (some l0)]) (r1 := none) (a := a2) kw_197 km_X6_init kt_139 dX5_init_20 rfl (Nat.le_of_ble_eq_true rfl) rfl (c_X6_init hg e_h5) ?_
  revert hf; refine zbi (fun h6 e_h6 hf => ?_)
  refine zq_put (kp_140 _) dX5_init_23 (zn_o _ _) e_h6 ?_
  refine zr_aload_n (v := .inl (some l0)) dX5_init_26 rfl rfl ?_
  refine zr_iconst (v := (0 : Int32)) dX5_init_27 (by decide) ?_
  revert hf; refine zbi (fun h7 e_h7 hf => ?_)
  refine zq_put (kp_141 _) dX5_init_28 (zn_i _) e_h7 ?_
  refine zr_aload_n (v := .inl (some l0)) dX5_init_31 rfl rfl ?_
  refine zr_iconst (v := (0 : Int32)) dX5_init_32 (by decide) ?_
  revert hf; refine zbi (fun h8 e_h8 hf => ?_)
  refine zq_put (kp_142 _) dX5_init_33 (zn_i _) e_h8 ?_
  refine zr_aload_n (v := .inl (some l0)) dX5_init_36 rfl rfl ?_
  refine zr_iconst (v := (0 : Int32)) dX5_init_37 (by decide) ?_
  revert hf; refine zbi (fun h9 e_h9 hf => ?_)
  refine zq_put (kp_143 _) dX5_init_38 (zn_i _) e_h9 ?_
  refine zr_aload_n (v := .inl (some l0)) dX5_init_41 rfl rfl ?_
  refine zr_iconst (v := (0 : Int32)) dX5_init_42 (by decide) ?_
  revert hf; refine zbi (fun h10 e_h10 hf => ?_)
  refine zq_put (kp_144 _) dX5_init_43 (zn_i _) e_h10 ?_
  refine zr_aload_n (v := .inl (some l0)) dX5_init_46 rfl rfl ?_
  refine zr_iconst (v := ((-1) : Int32)) dX5_init_47 (by decide) ?_
  revert hf; refine zbi (fun h11 e_h11 hf => ?_)
  refine zq_put (kp_145 _) dX5_init_48 (zn_i _) e_h11 ?_
  cases hf
  exact zr_ret none trivial dX5_init_51
theorem c_X5_init {g : zG} (hg : g.2.1.map (fun q => q.2) = zty) {N : Nat} {l0 : Nat} {h : zH} {h' : zH} (hf : f_X5_init N l0 h = some h') : zCa g jX5_init [zr (some l0)] h none h' :=
  zCa.of hg (by decide +kernel) (Nat.le_of_ble_eq_true rfl) (s_X5_init hg N l0 h h' hf)
theorem dX10_signAt_0 : decode cX10_signAt 0 = .ok (.iload_n 1, 1) := by decide +kernel
theorem dX10_signAt_1 : decode cX10_signAt 1 = .ok (.ifCond .lt 24, 3) := by decide +kernel
theorem dX10_signAt_4 : decode cX10_signAt 4 = .ok (.iload_n 1, 1) := by decide +kernel
theorem dX10_signAt_5 : decode cX10_signAt 5 = .ok (.aload_n 0, 1) := by decide +kernel
theorem dX10_signAt_6 : decode cX10_signAt 6 = .ok (.getfield 15, 3) := by decide +kernel
theorem dX10_signAt_9 : decode cX10_signAt 9 = .ok (.if_icmp .ge 16, 3) := by decide +kernel
theorem dX10_signAt_12 : decode cX10_signAt 12 = .ok (.aload_n 0, 1) := by decide +kernel
theorem dX10_signAt_13 : decode cX10_signAt 13 = .ok (.getfield 11, 3) := by decide +kernel
theorem dX10_signAt_16 : decode cX10_signAt 16 = .ok (.iload_n 1, 1) := by decide +kernel
theorem dX10_signAt_17 : decode cX10_signAt 17 = .ok (.baload, 1) := by decide +kernel
theorem dX10_signAt_18 : decode cX10_signAt 18 = .ok (.sipush 255, 3) := by decide +kernel
theorem dX10_signAt_21 : decode cX10_signAt 21 = .ok (.iand, 1) := by decide +kernel
theorem dX10_signAt_22 : decode cX10_signAt 22 = .ok (.goto 4, 3) := by decide +kernel
theorem dX10_signAt_25 : decode cX10_signAt 25 = .ok (.iconst (-1), 1) := by decide +kernel
theorem dX10_signAt_26 : decode cX10_signAt 26 = .ok (.ireturn, 1) := by decide +kernel
def f_X10_signAt (N : Nat) (l0 : Nat) (l1 : Int32) (h : zH) : Option Int32 := if l1 < 0 then some ((-1) : Int32) else (zgI h 10 (some l0) 1).bind fun x1 => if x1 ≤ l1 then some ((-1) : Int32) else (zgR h 10 (some l0) 0).bind fun x2 => (zld h 1 x2 l1).bind fun x3 => some (x3 &&& (255 : Int32))
set_option maxHeartbeats 4000000 in
set_option maxRecDepth 100000 in
theorem s_X10_signAt {g : zG} (hg : g.2.1.map (fun q => q.2) = zty) {h0 : zH} (N : Nat) (l0 : Nat) (l1 : Int32) (h : zH) (r : Int32) (hf : f_X10_signAt N l0 l1 h = some r) : zR g jX10_signAt h0 0 [some (zr (some l0)), some (zi l1)] [] h (some (zi r)) h := by
  unfold f_X10_signAt at hf
  refine zr_iload_n (x := l1) dX10_signAt_0 rfl rfl ?_
  by_cases hc1 : l1 < 0
  · rw [if_pos hc1] at hf
    refine zr_iflt_t (tgt := 25) dX10_signAt_1 (by decide) hc1 ?_
    refine zr_iconst (v := ((-1) : Int32)) dX10_signAt_25 (by decide) ?_
    cases hf
    exact zr_ret _ rfl dX10_signAt_26
  · rw [if_neg hc1] at hf
    refine zr_iflt_f 25 dX10_signAt_1 (by decide) hc1 ?_
    refine zr_iload_n (x := l1) dX10_signAt_4 rfl rfl ?_
    refine zr_aload_n (v := .inl (some l0)) dX10_signAt_5 rfl rfl ?_
    revert hf; refine zbi (fun x1 e_x1 hf => ?_)
    refine zq_getI kg_146 dX10_signAt_6 e_x1 ?_
    by_cases hc2 : x1 ≤ l1
    · rw [if_pos hc2] at hf
      refine zr_icge_t (tgt := 25) dX10_signAt_9 (by decide) hc2 ?_
      refine zr_iconst (v := ((-1) : Int32)) dX10_signAt_25 (by decide) ?_
      cases hf
      exact zr_ret _ rfl dX10_signAt_26
    · rw [if_neg hc2] at hf
      refine zr_icge_f 25 dX10_signAt_9 (by decide) hc2 ?_
      refine zr_aload_n (v := .inl (some l0)) dX10_signAt_12 rfl rfl ?_
      revert hf; refine zbi (fun x2 e_x2 hf => ?_)
      refine zq_getR kg_147 dX10_signAt_13 e_x2 ?_
      refine zr_iload_n (x := l1) dX10_signAt_16 rfl rfl ?_
      revert hf; refine zbi (fun x3 e_x3 hf => ?_)
      refine zq_bald dX10_signAt_17 e_x3 ?_
      refine zr_sipush (v := (255 : Int32)) dX10_signAt_18 (by decide) ?_
      refine zr_iand dX10_signAt_21 ?_
      refine zr_goto (tgt := 26) dX10_signAt_22 (by decide) ?_
      cases hf
      exact zr_ret _ rfl dX10_signAt_26
theorem c_X10_signAt {g : zG} (hg : g.2.1.map (fun q => q.2) = zty) {N : Nat} {l0 : Nat} {l1 : Int32} {h : zH} {r : Int32} (hf : f_X10_signAt N l0 l1 h = some r) : zCa g jX10_signAt [zr (some l0), zi l1] h (some (zi r)) h :=
  zCa.of hg (by decide +kernel) (Nat.le_of_ble_eq_true rfl) (s_X10_signAt hg N l0 l1 h r hf)
theorem dX5_isBlank_0 : decode cX5_isBlank 0 = .ok (.iload_n 0, 1) := by decide +kernel
theorem dX5_isBlank_1 : decode cX5_isBlank 1 = .ok (.bipush 10, 2) := by decide +kernel
theorem dX5_isBlank_3 : decode cX5_isBlank 3 = .ok (.if_icmp .eq 9, 3) := by decide +kernel
theorem dX5_isBlank_6 : decode cX5_isBlank 6 = .ok (.iload_n 0, 1) := by decide +kernel
theorem dX5_isBlank_7 : decode cX5_isBlank 7 = .ok (.bipush 32, 2) := by decide +kernel
theorem dX5_isBlank_9 : decode cX5_isBlank 9 = .ok (.if_icmp .ne 7, 3) := by decide +kernel
theorem dX5_isBlank_12 : decode cX5_isBlank 12 = .ok (.iconst 1, 1) := by decide +kernel
theorem dX5_isBlank_13 : decode cX5_isBlank 13 = .ok (.goto 4, 3) := by decide +kernel
theorem dX5_isBlank_16 : decode cX5_isBlank 16 = .ok (.iconst 0, 1) := by decide +kernel
theorem dX5_isBlank_17 : decode cX5_isBlank 17 = .ok (.ireturn, 1) := by decide +kernel
def f_X5_isBlank (N : Nat) (l0 : Int32) (h : zH) : Option Int32 := if l0 = (10 : Int32) then some (1 : Int32) else if l0 = (32 : Int32) then some (1 : Int32) else some (0 : Int32)
set_option maxHeartbeats 4000000 in
set_option maxRecDepth 100000 in
theorem s_X5_isBlank {g : zG} (hg : g.2.1.map (fun q => q.2) = zty) {h0 : zH} (N : Nat) (l0 : Int32) (h : zH) (r : Int32) (hf : f_X5_isBlank N l0 h = some r) : zR g jX5_isBlank h0 0 [some (zi l0)] [] h (some (zi r)) h := by
  unfold f_X5_isBlank at hf
  refine zr_iload_n (x := l0) dX5_isBlank_0 rfl rfl ?_
  refine zr_bipush (v := (10 : Int32)) dX5_isBlank_1 (by decide) ?_
  by_cases hc1 : l0 = (10 : Int32)
  · rw [if_pos hc1] at hf
    refine zr_iceq_t (tgt := 12) dX5_isBlank_3 (by decide) hc1 ?_
    refine zr_iconst (v := (1 : Int32)) dX5_isBlank_12 (by decide) ?_
    refine zr_goto (tgt := 17) dX5_isBlank_13 (by decide) ?_
    cases hf
    exact zr_ret _ rfl dX5_isBlank_17
  · rw [if_neg hc1] at hf
    refine zr_iceq_f 12 dX5_isBlank_3 (by decide) hc1 ?_
    refine zr_iload_n (x := l0) dX5_isBlank_6 rfl rfl ?_
    refine zr_bipush (v := (32 : Int32)) dX5_isBlank_7 (by decide) ?_
    by_cases hc2 : l0 = (32 : Int32)
    · rw [if_pos hc2] at hf
      refine zr_icne_f 16 dX5_isBlank_9 (by decide) hc2 ?_
      refine zr_iconst (v := (1 : Int32)) dX5_isBlank_12 (by decide) ?_
      refine zr_goto (tgt := 17) dX5_isBlank_13 (by decide) ?_
      cases hf
      exact zr_ret _ rfl dX5_isBlank_17
    · rw [if_neg hc2] at hf
      refine zr_icne_t (tgt := 16) dX5_isBlank_9 (by decide) hc2 ?_
      refine zr_iconst (v := (0 : Int32)) dX5_isBlank_16 (by decide) ?_
      cases hf
      exact zr_ret _ rfl dX5_isBlank_17
theorem c_X5_isBlank {g : zG} (hg : g.2.1.map (fun q => q.2) = zty) {N : Nat} {l0 : Int32} {h : zH} {r : Int32} (hf : f_X5_isBlank N l0 h = some r) : zCa g jX5_isBlank [zi l0] h (some (zi r)) h :=
  zCa.of hg (by decide +kernel) (Nat.le_of_ble_eq_true rfl) (s_X5_isBlank hg N l0 h r hf)
theorem dX5_skipBlanks_0 : decode cX5_skipBlanks 0 = .ok (.aload_n 0, 1) := by decide +kernel
theorem dX5_skipBlanks_1 : decode cX5_skipBlanks 1 = .ok (.getfield 25, 3) := by decide +kernel
theorem dX5_skipBlanks_4 : decode cX5_skipBlanks 4 = .ok (.aload_n 0, 1) := by decide +kernel
theorem dX5_skipBlanks_5 : decode cX5_skipBlanks 5 = .ok (.getfield 12, 3) := by decide +kernel
theorem dX5_skipBlanks_8 : decode cX5_skipBlanks 8 = .ok (.getfield 44, 3) := by decide +kernel
theorem dX5_skipBlanks_11 : decode cX5_skipBlanks 11 = .ok (.if_icmp .ge 33, 3) := by decide +kernel
theorem dX5_skipBlanks_14 : decode cX5_skipBlanks 14 = .ok (.aload_n 0, 1) := by decide +kernel
theorem dX5_skipBlanks_15 : decode cX5_skipBlanks 15 = .ok (.getfield 12, 3) := by decide +kernel
theorem dX5_skipBlanks_18 : decode cX5_skipBlanks 18 = .ok (.aload_n 0, 1) := by decide +kernel
theorem dX5_skipBlanks_19 : decode cX5_skipBlanks 19 = .ok (.getfield 25, 3) := by decide +kernel
theorem dX5_skipBlanks_22 : decode cX5_skipBlanks 22 = .ok (.invokevirtual 130, 3) := by decide +kernel
theorem dX5_skipBlanks_25 : decode cX5_skipBlanks 25 = .ok (.invokestatic 137, 3) := by decide +kernel
theorem dX5_skipBlanks_28 : decode cX5_skipBlanks 28 = .ok (.ifCond .eq 16, 3) := by decide +kernel
theorem dX5_skipBlanks_31 : decode cX5_skipBlanks 31 = .ok (.aload_n 0, 1) := by decide +kernel
theorem dX5_skipBlanks_32 : decode cX5_skipBlanks 32 = .ok (.dup, 1) := by decide +kernel
theorem dX5_skipBlanks_33 : decode cX5_skipBlanks 33 = .ok (.getfield 25, 3) := by decide +kernel
theorem dX5_skipBlanks_36 : decode cX5_skipBlanks 36 = .ok (.iconst 1, 1) := by decide +kernel
theorem dX5_skipBlanks_37 : decode cX5_skipBlanks 37 = .ok (.iadd, 1) := by decide +kernel
theorem dX5_skipBlanks_38 : decode cX5_skipBlanks 38 = .ok (.putfield 25, 3) := by decide +kernel
theorem dX5_skipBlanks_41 : decode cX5_skipBlanks 41 = .ok (.goto (-41), 3) := by decide +kernel
theorem dX5_skipBlanks_44 : decode cX5_skipBlanks 44 = .ok (.return_, 1) := by decide +kernel
def f_X5_skipBlanks_0 (N : Nat) : Nat → Nat → zH → Option zH
  | 0, _, _ => none
  | n + 1, l0, h => (zgI h 5 (some l0) 2).bind fun x1 => (zgR h 5 (some l0) 0).bind fun x2 => (zgI h 10 x2 1).bind fun x3 => if x3 ≤ x1 then some h else (zgR h 5 (some l0) 0).bind fun x4 => (zgI h 5 (some l0) 2).bind fun x5 => (zck h 10 x4).bind fun q1 => (f_X10_signAt N q1 x5 h).bind fun x6 => (f_X5_isBlank N x6 h).bind fun x7 => if x7 = 0 then some h else (zgI h 5 (some l0) 2).bind fun x8 => (zpu h 5 (some l0) 2 (zi (x8 + (1 : Int32)))).bind fun h1 => f_X5_skipBlanks_0 N n l0 h1
set_option maxHeartbeats 4000000 in
set_option maxRecDepth 100000 in
theorem s_X5_skipBlanks_0 {g : zG} (hg : g.2.1.map (fun q => q.2) = zty) {h0 : zH} (N : Nat) : ∀ (n : Nat) (l0 : Nat) (h : zH) (h' : zH), f_X5_skipBlanks_0 N n l0 h = some h' → zR g jX5_skipBlanks h0 0 [some (zr (some l0))] [] h none h' := by
  intro n
  induction n with
  | zero =>
    intro l0 h h' hf
    cases hf
  | succ n ih =>
    intro l0 h h' hf
    rw [f_X5_skipBlanks_0] at hf
    refine zr_aload_n (v := .inl (some l0)) dX5_skipBlanks_0 rfl rfl ?_
    revert hf; refine zbi (fun x1 e_x1 hf => ?_)
    refine zq_getI kg_148 dX5_skipBlanks_1 e_x1 ?_
    refine zr_aload_n (v := .inl (some l0)) dX5_skipBlanks_4 rfl rfl ?_
    revert hf; refine zbi (fun x2 e_x2 hf => ?_)
    refine zq_getR kg_149 dX5_skipBlanks_5 e_x2 ?_
    revert hf; refine zbi (fun x3 e_x3 hf => ?_)
    refine zq_getI kg_150 dX5_skipBlanks_8 e_x3 ?_
    by_cases hc1 : x3 ≤ x1
    · rw [if_pos hc1] at hf
      refine zr_icge_t (tgt := 44) dX5_skipBlanks_11 (by decide) hc1 ?_
      cases hf
      exact zr_ret none trivial dX5_skipBlanks_44
    · rw [if_neg hc1] at hf
      refine zr_icge_f 44 dX5_skipBlanks_11 (by decide) hc1 ?_
      refine zr_aload_n (v := .inl (some l0)) dX5_skipBlanks_14 rfl rfl ?_
      revert hf; refine zbi (fun x4 e_x4 hf => ?_)
      refine zq_getR kg_149 dX5_skipBlanks_15 e_x4 ?_
      refine zr_aload_n (v := .inl (some l0)) dX5_skipBlanks_18 rfl rfl ?_
      revert hf; refine zbi (fun x5 e_x5 hf => ?_)
      refine zq_getI kg_148 dX5_skipBlanks_19 e_x5 ?_
      revert hf; refine zbi (fun q1 e_q1 hf => ?_)
      revert hf; refine zbi (fun x6 e_x6 hf => ?_)
      refine zq_callV (J' := jX10_signAt) (as := [zi x5]) (rest := []) (r1 := (some (zi x6))) (q := (RX10, TX10, 2)) kw_207 km_X10_signAt kt_152 dX5_skipBlanks_22 rfl (Nat.le_of_ble_eq_true rfl) rfl rfl e_q1 rfl (c_X10_signAt hg e_x6) ?_
      revert hf; refine zbi (fun x7 e_x7 hf => ?_)
      refine zq_callS (J' := jX5_isBlank) (as := [zi x6]) (rest := []) (r1 := (some (zi x7))) kw_211 km_X5_isBlank kt_154 dX5_skipBlanks_25 rfl (Nat.le_of_ble_eq_true rfl) rfl (c_X5_isBlank hg e_x7) ?_
      by_cases hc2 : x7 = 0
      · rw [if_pos hc2] at hf
        refine zr_ifeq_t (tgt := 44) dX5_skipBlanks_28 (by decide) hc2 ?_
        cases hf
        exact zr_ret none trivial dX5_skipBlanks_44
      · rw [if_neg hc2] at hf
        refine zr_ifeq_f 44 dX5_skipBlanks_28 (by decide) hc2 ?_
        refine zr_aload_n (v := .inl (some l0)) dX5_skipBlanks_31 rfl rfl ?_
        refine zr_dup dX5_skipBlanks_32 ?_
        revert hf; refine zbi (fun x8 e_x8 hf => ?_)
        refine zq_getI kg_148 dX5_skipBlanks_33 e_x8 ?_
        refine zr_iconst (v := (1 : Int32)) dX5_skipBlanks_36 (by decide) ?_
        refine zr_iadd dX5_skipBlanks_37 ?_
        revert hf; refine zbi (fun h1 e_h1 hf => ?_)
        refine zq_put (kp_155 _) dX5_skipBlanks_38 (zn_i _) e_h1 ?_
        refine zr_goto (tgt := 0) dX5_skipBlanks_41 (by decide) ?_
        exact ih l0 h1 h' hf
def f_X5_skipBlanks (N : Nat) (l0 : Nat) (h : zH) : Option zH := f_X5_skipBlanks_0 N N l0 h
theorem s_X5_skipBlanks {g : zG} (hg : g.2.1.map (fun q => q.2) = zty) {h0 : zH} (N : Nat) (l0 : Nat) (h : zH) (h' : zH) (hf : f_X5_skipBlanks N l0 h = some h') : zR g jX5_skipBlanks h0 0 [some (zr (some l0))] [] h none h' := s_X5_skipBlanks_0 hg N N l0 h h' hf
theorem c_X5_skipBlanks {g : zG} (hg : g.2.1.map (fun q => q.2) = zty) {N : Nat} {l0 : Nat} {h : zH} {h' : zH} (hf : f_X5_skipBlanks N l0 h = some h') : zCa g jX5_skipBlanks [zr (some l0)] h none h' :=
  zCa.of hg (by decide +kernel) (Nat.le_of_ble_eq_true rfl) (s_X5_skipBlanks hg N l0 h h' hf)
theorem dX5_isLetter_0 : decode cX5_isLetter 0 = .ok (.iload_n 0, 1) := by decide +kernel
theorem dX5_isLetter_1 : decode cX5_isLetter 1 = .ok (.bipush 97, 2) := by decide +kernel
theorem dX5_isLetter_3 : decode cX5_isLetter 3 = .ok (.if_icmp .lt 13, 3) := by decide +kernel
theorem dX5_isLetter_6 : decode cX5_isLetter 6 = .ok (.iload_n 0, 1) := by decide +kernel
theorem dX5_isLetter_7 : decode cX5_isLetter 7 = .ok (.bipush 122, 2) := by decide +kernel
theorem dX5_isLetter_9 : decode cX5_isLetter 9 = .ok (.if_icmp .gt 7, 3) := by decide +kernel
theorem dX5_isLetter_12 : decode cX5_isLetter 12 = .ok (.iconst 1, 1) := by decide +kernel
theorem dX5_isLetter_13 : decode cX5_isLetter 13 = .ok (.goto 4, 3) := by decide +kernel
theorem dX5_isLetter_16 : decode cX5_isLetter 16 = .ok (.iconst 0, 1) := by decide +kernel
theorem dX5_isLetter_17 : decode cX5_isLetter 17 = .ok (.ireturn, 1) := by decide +kernel
def f_X5_isLetter (N : Nat) (l0 : Int32) (h : zH) : Option Int32 := if l0 < (97 : Int32) then some (0 : Int32) else if (122 : Int32) < l0 then some (0 : Int32) else some (1 : Int32)
set_option maxHeartbeats 4000000 in
set_option maxRecDepth 100000 in
theorem s_X5_isLetter {g : zG} (hg : g.2.1.map (fun q => q.2) = zty) {h0 : zH} (N : Nat) (l0 : Int32) (h : zH) (r : Int32) (hf : f_X5_isLetter N l0 h = some r) : zR g jX5_isLetter h0 0 [some (zi l0)] [] h (some (zi r)) h := by
  unfold f_X5_isLetter at hf
  refine zr_iload_n (x := l0) dX5_isLetter_0 rfl rfl ?_
  refine zr_bipush (v := (97 : Int32)) dX5_isLetter_1 (by decide) ?_
  by_cases hc1 : l0 < (97 : Int32)
  · rw [if_pos hc1] at hf
    refine zr_iclt_t (tgt := 16) dX5_isLetter_3 (by decide) hc1 ?_
    refine zr_iconst (v := (0 : Int32)) dX5_isLetter_16 (by decide) ?_
    cases hf
    exact zr_ret _ rfl dX5_isLetter_17
  · rw [if_neg hc1] at hf
    refine zr_iclt_f 16 dX5_isLetter_3 (by decide) hc1 ?_
    refine zr_iload_n (x := l0) dX5_isLetter_6 rfl rfl ?_
    refine zr_bipush (v := (122 : Int32)) dX5_isLetter_7 (by decide) ?_
    by_cases hc2 : (122 : Int32) < l0
    · rw [if_pos hc2] at hf
      refine zr_icgt_t (tgt := 16) dX5_isLetter_9 (by decide) hc2 ?_
      refine zr_iconst (v := (0 : Int32)) dX5_isLetter_16 (by decide) ?_
      cases hf
      exact zr_ret _ rfl dX5_isLetter_17
    · rw [if_neg hc2] at hf
      refine zr_icgt_f 16 dX5_isLetter_9 (by decide) hc2 ?_
      refine zr_iconst (v := (1 : Int32)) dX5_isLetter_12 (by decide) ?_
      refine zr_goto (tgt := 17) dX5_isLetter_13 (by decide) ?_
      cases hf
      exact zr_ret _ rfl dX5_isLetter_17
theorem c_X5_isLetter {g : zG} (hg : g.2.1.map (fun q => q.2) = zty) {N : Nat} {l0 : Int32} {h : zH} {r : Int32} (hf : f_X5_isLetter N l0 h = some r) : zCa g jX5_isLetter [zi l0] h (some (zi r)) h :=
  zCa.of hg (by decide +kernel) (Nat.le_of_ble_eq_true rfl) (s_X5_isLetter hg N l0 h r hf)
theorem dX5_skipLetters_0 : decode cX5_skipLetters 0 = .ok (.aload_n 0, 1) := by decide +kernel
theorem dX5_skipLetters_1 : decode cX5_skipLetters 1 = .ok (.getfield 25, 3) := by decide +kernel
theorem dX5_skipLetters_4 : decode cX5_skipLetters 4 = .ok (.aload_n 0, 1) := by decide +kernel
theorem dX5_skipLetters_5 : decode cX5_skipLetters 5 = .ok (.getfield 12, 3) := by decide +kernel
theorem dX5_skipLetters_8 : decode cX5_skipLetters 8 = .ok (.getfield 44, 3) := by decide +kernel
theorem dX5_skipLetters_11 : decode cX5_skipLetters 11 = .ok (.if_icmp .ge 33, 3) := by decide +kernel
theorem dX5_skipLetters_14 : decode cX5_skipLetters 14 = .ok (.aload_n 0, 1) := by decide +kernel
theorem dX5_skipLetters_15 : decode cX5_skipLetters 15 = .ok (.getfield 12, 3) := by decide +kernel
theorem dX5_skipLetters_18 : decode cX5_skipLetters 18 = .ok (.aload_n 0, 1) := by decide +kernel
theorem dX5_skipLetters_19 : decode cX5_skipLetters 19 = .ok (.getfield 25, 3) := by decide +kernel
theorem dX5_skipLetters_22 : decode cX5_skipLetters 22 = .ok (.invokevirtual 130, 3) := by decide +kernel
theorem dX5_skipLetters_25 : decode cX5_skipLetters 25 = .ok (.invokestatic 140, 3) := by decide +kernel
theorem dX5_skipLetters_28 : decode cX5_skipLetters 28 = .ok (.ifCond .eq 16, 3) := by decide +kernel
theorem dX5_skipLetters_31 : decode cX5_skipLetters 31 = .ok (.aload_n 0, 1) := by decide +kernel
theorem dX5_skipLetters_32 : decode cX5_skipLetters 32 = .ok (.dup, 1) := by decide +kernel
theorem dX5_skipLetters_33 : decode cX5_skipLetters 33 = .ok (.getfield 25, 3) := by decide +kernel
theorem dX5_skipLetters_36 : decode cX5_skipLetters 36 = .ok (.iconst 1, 1) := by decide +kernel
theorem dX5_skipLetters_37 : decode cX5_skipLetters 37 = .ok (.iadd, 1) := by decide +kernel
theorem dX5_skipLetters_38 : decode cX5_skipLetters 38 = .ok (.putfield 25, 3) := by decide +kernel
theorem dX5_skipLetters_41 : decode cX5_skipLetters 41 = .ok (.goto (-41), 3) := by decide +kernel
theorem dX5_skipLetters_44 : decode cX5_skipLetters 44 = .ok (.return_, 1) := by decide +kernel
def f_X5_skipLetters_0 (N : Nat) : Nat → Nat → zH → Option zH
  | 0, _, _ => none
  | n + 1, l0, h => (zgI h 5 (some l0) 2).bind fun x1 => (zgR h 5 (some l0) 0).bind fun x2 => (zgI h 10 x2 1).bind fun x3 => if x3 ≤ x1 then some h else (zgR h 5 (some l0) 0).bind fun x4 => (zgI h 5 (some l0) 2).bind fun x5 => (zck h 10 x4).bind fun q1 => (f_X10_signAt N q1 x5 h).bind fun x6 => (f_X5_isLetter N x6 h).bind fun x7 => if x7 = 0 then some h else (zgI h 5 (some l0) 2).bind fun x8 => (zpu h 5 (some l0) 2 (zi (x8 + (1 : Int32)))).bind fun h1 => f_X5_skipLetters_0 N n l0 h1
set_option maxHeartbeats 4000000 in
set_option maxRecDepth 100000 in
theorem s_X5_skipLetters_0 {g : zG} (hg : g.2.1.map (fun q => q.2) = zty) {h0 : zH} (N : Nat) : ∀ (n : Nat) (l0 : Nat) (h : zH) (h' : zH), f_X5_skipLetters_0 N n l0 h = some h' → zR g jX5_skipLetters h0 0 [some (zr (some l0))] [] h none h' := by
  intro n
  induction n with
  | zero =>
    intro l0 h h' hf
    cases hf
  | succ n ih =>
    intro l0 h h' hf
    rw [f_X5_skipLetters_0] at hf
    refine zr_aload_n (v := .inl (some l0)) dX5_skipLetters_0 rfl rfl ?_
    revert hf; refine zbi (fun x1 e_x1 hf => ?_)
    refine zq_getI kg_148 dX5_skipLetters_1 e_x1 ?_
    refine zr_aload_n (v := .inl (some l0)) dX5_skipLetters_4 rfl rfl ?_
    revert hf; refine zbi (fun x2 e_x2 hf => ?_)
    refine zq_getR kg_149 dX5_skipLetters_5 e_x2 ?_
    revert hf; refine zbi (fun x3 e_x3 hf => ?_)
    refine zq_getI kg_150 dX5_skipLetters_8 e_x3 ?_
    by_cases hc1 : x3 ≤ x1
    · rw [if_pos hc1] at hf
      refine zr_icge_t (tgt := 44) dX5_skipLetters_11 (by decide) hc1 ?_
      cases hf
      exact zr_ret none trivial dX5_skipLetters_44
    · rw [if_neg hc1] at hf
      refine zr_icge_f 44 dX5_skipLetters_11 (by decide) hc1 ?_
      refine zr_aload_n (v := .inl (some l0)) dX5_skipLetters_14 rfl rfl ?_
      revert hf; refine zbi (fun x4 e_x4 hf => ?_)
      refine zq_getR kg_149 dX5_skipLetters_15 e_x4 ?_
      refine zr_aload_n (v := .inl (some l0)) dX5_skipLetters_18 rfl rfl ?_
      revert hf; refine zbi (fun x5 e_x5 hf => ?_)
      refine zq_getI kg_148 dX5_skipLetters_19 e_x5 ?_
      revert hf; refine zbi (fun q1 e_q1 hf => ?_)
      revert hf; refine zbi (fun x6 e_x6 hf => ?_)
      refine zq_callV (J' := jX10_signAt) (as := [zi x5]) (rest := []) (r1 := (some (zi x6))) (q := (RX10, TX10, 2)) kw_207 km_X10_signAt kt_156 dX5_skipLetters_22 rfl (Nat.le_of_ble_eq_true rfl) rfl rfl e_q1 rfl (c_X10_signAt hg e_x6) ?_
      revert hf; refine zbi (fun x7 e_x7 hf => ?_)
      refine zq_callS (J' := jX5_isLetter) (as := [zi x6]) (rest := []) (r1 := (some (zi x7))) kw_215 km_X5_isLetter kt_158 dX5_skipLetters_25 rfl (Nat.le_of_ble_eq_true rfl) rfl (c_X5_isLetter hg e_x7) ?_
      by_cases hc2 : x7 = 0
      · rw [if_pos hc2] at hf
        refine zr_ifeq_t (tgt := 44) dX5_skipLetters_28 (by decide) hc2 ?_
        cases hf
        exact zr_ret none trivial dX5_skipLetters_44
      · rw [if_neg hc2] at hf
        refine zr_ifeq_f 44 dX5_skipLetters_28 (by decide) hc2 ?_
        refine zr_aload_n (v := .inl (some l0)) dX5_skipLetters_31 rfl rfl ?_
        refine zr_dup dX5_skipLetters_32 ?_
        revert hf; refine zbi (fun x8 e_x8 hf => ?_)
        refine zq_getI kg_148 dX5_skipLetters_33 e_x8 ?_
        refine zr_iconst (v := (1 : Int32)) dX5_skipLetters_36 (by decide) ?_
        refine zr_iadd dX5_skipLetters_37 ?_
        revert hf; refine zbi (fun h1 e_h1 hf => ?_)
        refine zq_put (kp_155 _) dX5_skipLetters_38 (zn_i _) e_h1 ?_
        refine zr_goto (tgt := 0) dX5_skipLetters_41 (by decide) ?_
        exact ih l0 h1 h' hf
def f_X5_skipLetters (N : Nat) (l0 : Nat) (h : zH) : Option zH := f_X5_skipLetters_0 N N l0 h
theorem s_X5_skipLetters {g : zG} (hg : g.2.1.map (fun q => q.2) = zty) {h0 : zH} (N : Nat) (l0 : Nat) (h : zH) (h' : zH) (hf : f_X5_skipLetters N l0 h = some h') : zR g jX5_skipLetters h0 0 [some (zr (some l0))] [] h none h' := s_X5_skipLetters_0 hg N N l0 h h' hf
theorem c_X5_skipLetters {g : zG} (hg : g.2.1.map (fun q => q.2) = zty) {N : Nat} {l0 : Nat} {h : zH} {h' : zH} (hf : f_X5_skipLetters N l0 h = some h') : zCa g jX5_skipLetters [zr (some l0)] h none h' :=
  zCa.of hg (by decide +kernel) (Nat.le_of_ble_eq_true rfl) (s_X5_skipLetters hg N l0 h h' hf)
theorem dX5_isSpelt_0 : decode cX5_isSpelt 0 = .ok (.aload_n 0, 1) := by decide +kernel
theorem dX5_isSpelt_1 : decode cX5_isSpelt 1 = .ok (.getfield 25, 3) := by decide +kernel
theorem dX5_isSpelt_4 : decode cX5_isSpelt 4 = .ok (.iload_n 1, 1) := by decide +kernel
theorem dX5_isSpelt_5 : decode cX5_isSpelt 5 = .ok (.isub, 1) := by decide +kernel
theorem dX5_isSpelt_6 : decode cX5_isSpelt 6 = .ok (.aload_n 2, 1) := by decide +kernel
theorem dX5_isSpelt_7 : decode cX5_isSpelt 7 = .ok (.invokevirtual 143, 3) := by decide +kernel
theorem dX5_isSpelt_10 : decode cX5_isSpelt 10 = .ok (.if_icmp .eq 5, 3) := by decide +kernel
theorem dX5_isSpelt_13 : decode cX5_isSpelt 13 = .ok (.iconst 0, 1) := by decide +kernel
theorem dX5_isSpelt_14 : decode cX5_isSpelt 14 = .ok (.ireturn, 1) := by decide +kernel
theorem dX5_isSpelt_15 : decode cX5_isSpelt 15 = .ok (.iconst 0, 1) := by decide +kernel
theorem dX5_isSpelt_16 : decode cX5_isSpelt 16 = .ok (.istore_n 3, 1) := by decide +kernel
theorem dX5_isSpelt_17 : decode cX5_isSpelt 17 = .ok (.iload_n 3, 1) := by decide +kernel
theorem dX5_isSpelt_18 : decode cX5_isSpelt 18 = .ok (.aload_n 2, 1) := by decide +kernel
theorem dX5_isSpelt_19 : decode cX5_isSpelt 19 = .ok (.invokevirtual 143, 3) := by decide +kernel
theorem dX5_isSpelt_22 : decode cX5_isSpelt 22 = .ok (.if_icmp .ge 29, 3) := by decide +kernel
theorem dX5_isSpelt_25 : decode cX5_isSpelt 25 = .ok (.aload_n 0, 1) := by decide +kernel
theorem dX5_isSpelt_26 : decode cX5_isSpelt 26 = .ok (.getfield 12, 3) := by decide +kernel
theorem dX5_isSpelt_29 : decode cX5_isSpelt 29 = .ok (.iload_n 1, 1) := by decide +kernel
theorem dX5_isSpelt_30 : decode cX5_isSpelt 30 = .ok (.iload_n 3, 1) := by decide +kernel
theorem dX5_isSpelt_31 : decode cX5_isSpelt 31 = .ok (.iadd, 1) := by decide +kernel
theorem dX5_isSpelt_32 : decode cX5_isSpelt 32 = .ok (.invokevirtual 130, 3) := by decide +kernel
theorem dX5_isSpelt_35 : decode cX5_isSpelt 35 = .ok (.aload_n 2, 1) := by decide +kernel
theorem dX5_isSpelt_36 : decode cX5_isSpelt 36 = .ok (.iload_n 3, 1) := by decide +kernel
theorem dX5_isSpelt_37 : decode cX5_isSpelt 37 = .ok (.invokevirtual 148, 3) := by decide +kernel
theorem dX5_isSpelt_40 : decode cX5_isSpelt 40 = .ok (.if_icmp .eq 5, 3) := by decide +kernel
theorem dX5_isSpelt_43 : decode cX5_isSpelt 43 = .ok (.iconst 0, 1) := by decide +kernel
theorem dX5_isSpelt_44 : decode cX5_isSpelt 44 = .ok (.ireturn, 1) := by decide +kernel
theorem dX5_isSpelt_45 : decode cX5_isSpelt 45 = .ok (.iinc 3 1, 3) := by decide +kernel
theorem dX5_isSpelt_48 : decode cX5_isSpelt 48 = .ok (.goto (-31), 3) := by decide +kernel
theorem dX5_isSpelt_51 : decode cX5_isSpelt 51 = .ok (.iconst 1, 1) := by decide +kernel
theorem dX5_isSpelt_52 : decode cX5_isSpelt 52 = .ok (.ireturn, 1) := by decide +kernel
def f_X5_isSpelt_17 (N : Nat) : Nat → Nat → Int32 → Nat → Int32 → zH → Option (Int32 × zH)
  | 0, _, _, _, _, _ => none
  | n + 1, l0, l1, l2, l3, h => (zstl l2).bind fun x1 => if x1 ≤ l3 then some ((1 : Int32), h) else (zgR h 5 (some l0) 0).bind fun x2 => (zck h 10 x2).bind fun q1 => (f_X10_signAt N q1 (l1 + l3) h).bind fun x3 => (zstc l2 l3).bind fun x4 => if x3 = x4 then f_X5_isSpelt_17 N n l0 l1 l2 (l3 + (1 : Int32)) h else some ((0 : Int32), h)
set_option maxHeartbeats 4000000 in
set_option maxRecDepth 100000 in
theorem s_X5_isSpelt_17 {g : zG} (hg : g.2.1.map (fun q => q.2) = zty) {h0 : zH} (N : Nat) : ∀ (n : Nat) (l0 : Nat) (l1 : Int32) (l2 : Nat) (l3 : Int32) (h : zH) (r : Int32) (h' : zH), f_X5_isSpelt_17 N n l0 l1 l2 l3 h = some (r, h') → zR g jX5_isSpelt h0 17 [some (zr (some l0)), some (zi l1), some (zs l2), some (zi l3)] [] h (some (zi r)) h' := by
  intro n
  induction n with
  | zero =>
    intro l0 l1 l2 l3 h r h' hf
    cases hf
  | succ n ih =>
    intro l0 l1 l2 l3 h r h' hf
    rw [f_X5_isSpelt_17] at hf
    refine zr_iload_n (x := l3) dX5_isSpelt_17 rfl rfl ?_
    refine zr_aload_n (v := .inr l2) dX5_isSpelt_18 rfl rfl ?_
    revert hf; refine zbi (fun x1 e_x1 hf => ?_)
    refine zq_strlen hg kw_218 kt_159 (Nat.le_of_ble_eq_true rfl) dX5_isSpelt_19 e_x1 ?_
    by_cases hc1 : x1 ≤ l3
    · rw [if_pos hc1] at hf
      refine zr_icge_t (tgt := 51) dX5_isSpelt_22 (by decide) hc1 ?_
      refine zr_iconst (v := (1 : Int32)) dX5_isSpelt_51 (by decide) ?_
      cases hf
      exact zr_ret _ rfl dX5_isSpelt_52
    · rw [if_neg hc1] at hf
      refine zr_icge_f 51 dX5_isSpelt_22 (by decide) hc1 ?_
      refine zr_aload_n (v := .inl (some l0)) dX5_isSpelt_25 rfl rfl ?_
      revert hf; refine zbi (fun x2 e_x2 hf => ?_)
      refine zq_getR kg_149 dX5_isSpelt_26 e_x2 ?_
      refine zr_iload_n (x := l1) dX5_isSpelt_29 rfl rfl ?_
      refine zr_iload_n (x := l3) dX5_isSpelt_30 rfl rfl ?_
      refine zr_iadd dX5_isSpelt_31 ?_
      revert hf; refine zbi (fun q1 e_q1 hf => ?_)
      revert hf; refine zbi (fun x3 e_x3 hf => ?_)
      refine zq_callV (J' := jX10_signAt) (as := [zi (l1 + l3)]) (rest := []) (r1 := (some (zi x3))) (q := (RX10, TX10, 2)) kw_207 km_X10_signAt kt_160 dX5_isSpelt_32 rfl (Nat.le_of_ble_eq_true rfl) rfl rfl e_q1 rfl (c_X10_signAt hg e_x3) ?_
      refine zr_aload_n (v := .inr l2) dX5_isSpelt_35 rfl rfl ?_
      refine zr_iload_n (x := l3) dX5_isSpelt_36 rfl rfl ?_
      revert hf; refine zbi (fun x4 e_x4 hf => ?_)
      refine zq_strat hg kw_219 kt_161 (Nat.le_of_ble_eq_true rfl) dX5_isSpelt_37 e_x4 ?_
      by_cases hc2 : x3 = x4
      · rw [if_pos hc2] at hf
        refine zr_iceq_t (tgt := 45) dX5_isSpelt_40 (by decide) hc2 ?_
        refine zq_iinc (x := l3) (y := (1 : Int32)) (L' := [some (zr (some l0)), some (zi l1), some (zs l2), some (zi (l3 + (1 : Int32)))]) dX5_isSpelt_45 rfl (by decide) (by decide) rfl ?_
        refine zr_goto (tgt := 17) dX5_isSpelt_48 (by decide) ?_
        exact ih l0 l1 l2 (l3 + (1 : Int32)) h r h' hf
      · rw [if_neg hc2] at hf
        refine zr_iceq_f 45 dX5_isSpelt_40 (by decide) hc2 ?_
        refine zr_iconst (v := (0 : Int32)) dX5_isSpelt_43 (by decide) ?_
        cases hf
        exact zr_ret _ rfl dX5_isSpelt_44
def f_X5_isSpelt (N : Nat) (l0 : Nat) (l1 : Int32) (l2 : Nat) (h : zH) : Option (Int32 × zH) := (zgI h 5 (some l0) 2).bind fun x1 => (zstl l2).bind fun x2 => if (x1 - l1) = x2 then f_X5_isSpelt_17 N N l0 l1 l2 (0 : Int32) h else some ((0 : Int32), h)
set_option maxHeartbeats 4000000 in
set_option maxRecDepth 100000 in
theorem s_X5_isSpelt {g : zG} (hg : g.2.1.map (fun q => q.2) = zty) {h0 : zH} (N : Nat) (l0 : Nat) (l1 : Int32) (l2 : Nat) (h : zH) (r : Int32) (h' : zH) (hf : f_X5_isSpelt N l0 l1 l2 h = some (r, h')) : zR g jX5_isSpelt h0 0 [some (zr (some l0)), some (zi l1), some (zs l2), none] [] h (some (zi r)) h' := by
  unfold f_X5_isSpelt at hf
  refine zr_aload_n (v := .inl (some l0)) dX5_isSpelt_0 rfl rfl ?_
  revert hf; refine zbi (fun x1 e_x1 hf => ?_)
  refine zq_getI kg_148 dX5_isSpelt_1 e_x1 ?_
  refine zr_iload_n (x := l1) dX5_isSpelt_4 rfl rfl ?_
  refine zr_isub dX5_isSpelt_5 ?_
  refine zr_aload_n (v := .inr l2) dX5_isSpelt_6 rfl rfl ?_
  revert hf; refine zbi (fun x2 e_x2 hf => ?_)
  refine zq_strlen hg kw_218 kt_159 (Nat.le_of_ble_eq_true rfl) dX5_isSpelt_7 e_x2 ?_
  by_cases hc1 : (x1 - l1) = x2
  · rw [if_pos hc1] at hf
    refine zr_iceq_t (tgt := 15) dX5_isSpelt_10 (by decide) hc1 ?_
    refine zr_iconst (v := (0 : Int32)) dX5_isSpelt_15 (by decide) ?_
    refine zq_istore_n (x := (0 : Int32)) (L' := [some (zr (some l0)), some (zi l1), some (zs l2), some (zi (0 : Int32))]) dX5_isSpelt_16 rfl (by decide) rfl ?_
    exact s_X5_isSpelt_17 hg N N l0 l1 l2 (0 : Int32) h r h' hf
  · rw [if_neg hc1] at hf
    refine zr_iceq_f 15 dX5_isSpelt_10 (by decide) hc1 ?_
    refine zr_iconst (v := (0 : Int32)) dX5_isSpelt_13 (by decide) ?_
    cases hf
    exact zr_ret _ rfl dX5_isSpelt_14
theorem c_X5_isSpelt {g : zG} (hg : g.2.1.map (fun q => q.2) = zty) {N : Nat} {l0 : Nat} {l1 : Int32} {l2 : Nat} {h : zH} {r : Int32} {h' : zH} (hf : f_X5_isSpelt N l0 l1 l2 h = some (r, h')) : zCa g jX5_isSpelt [zr (some l0), zi l1, zs l2] h (some (zi r)) h' :=
  zCa.of hg (by decide +kernel) (Nat.le_of_ble_eq_true rfl) (s_X5_isSpelt hg N l0 l1 l2 h r h' hf)
theorem dX6_addFace_0 : decode cX6_addFace 0 = .ok (.aload_n 0, 1) := by decide +kernel
theorem dX6_addFace_1 : decode cX6_addFace 1 = .ok (.getfield 9, 3) := by decide +kernel
theorem dX6_addFace_4 : decode cX6_addFace 4 = .ok (.iconst 4, 1) := by decide +kernel
theorem dX6_addFace_5 : decode cX6_addFace 5 = .ok (.if_icmp .lt 5, 3) := by decide +kernel
theorem dX6_addFace_8 : decode cX6_addFace 8 = .ok (.iconst 0, 1) := by decide +kernel
theorem dX6_addFace_9 : decode cX6_addFace 9 = .ok (.ireturn, 1) := by decide +kernel
theorem dX6_addFace_10 : decode cX6_addFace 10 = .ok (.aload_n 0, 1) := by decide +kernel
theorem dX6_addFace_11 : decode cX6_addFace 11 = .ok (.dup, 1) := by decide +kernel
theorem dX6_addFace_12 : decode cX6_addFace 12 = .ok (.getfield 9, 3) := by decide +kernel
theorem dX6_addFace_15 : decode cX6_addFace 15 = .ok (.iconst 1, 1) := by decide +kernel
theorem dX6_addFace_16 : decode cX6_addFace 16 = .ok (.iadd, 1) := by decide +kernel
theorem dX6_addFace_17 : decode cX6_addFace 17 = .ok (.putfield 9, 3) := by decide +kernel
theorem dX6_addFace_20 : decode cX6_addFace 20 = .ok (.iconst 1, 1) := by decide +kernel
theorem dX6_addFace_21 : decode cX6_addFace 21 = .ok (.ireturn, 1) := by decide +kernel
def f_X6_addFace (N : Nat) (l0 : Nat) (h : zH) : Option (Int32 × zH) := (zgI h 6 (some l0) 0).bind fun x1 => if x1 < (4 : Int32) then (zgI h 6 (some l0) 0).bind fun x2 => (zpu h 6 (some l0) 0 (zi (x2 + (1 : Int32)))).bind fun h1 => some ((1 : Int32), h1) else some ((0 : Int32), h)
set_option maxHeartbeats 4000000 in
set_option maxRecDepth 100000 in
theorem s_X6_addFace {g : zG} (hg : g.2.1.map (fun q => q.2) = zty) {h0 : zH} (N : Nat) (l0 : Nat) (h : zH) (r : Int32) (h' : zH) (hf : f_X6_addFace N l0 h = some (r, h')) : zR g jX6_addFace h0 0 [some (zr (some l0))] [] h (some (zi r)) h' := by
  unfold f_X6_addFace at hf
  refine zr_aload_n (v := .inl (some l0)) dX6_addFace_0 rfl rfl ?_
  revert hf; refine zbi (fun x1 e_x1 hf => ?_)
  refine zq_getI kg_109 dX6_addFace_1 e_x1 ?_
  refine zr_iconst (v := (4 : Int32)) dX6_addFace_4 (by decide) ?_
  by_cases hc1 : x1 < (4 : Int32)
  · rw [if_pos hc1] at hf
    refine zr_iclt_t (tgt := 10) dX6_addFace_5 (by decide) hc1 ?_
    refine zr_aload_n (v := .inl (some l0)) dX6_addFace_10 rfl rfl ?_
    refine zr_dup dX6_addFace_11 ?_
    revert hf; refine zbi (fun x2 e_x2 hf => ?_)
    refine zq_getI kg_109 dX6_addFace_12 e_x2 ?_
    refine zr_iconst (v := (1 : Int32)) dX6_addFace_15 (by decide) ?_
    refine zr_iadd dX6_addFace_16 ?_
    revert hf; refine zbi (fun h1 e_h1 hf => ?_)
    refine zq_put (kp_162 _) dX6_addFace_17 (zn_i _) e_h1 ?_
    refine zr_iconst (v := (1 : Int32)) dX6_addFace_20 (by decide) ?_
    cases hf
    exact zr_ret _ rfl dX6_addFace_21
  · rw [if_neg hc1] at hf
    refine zr_iclt_f 10 dX6_addFace_5 (by decide) hc1 ?_
    refine zr_iconst (v := (0 : Int32)) dX6_addFace_8 (by decide) ?_
    cases hf
    exact zr_ret _ rfl dX6_addFace_9
theorem c_X6_addFace {g : zG} (hg : g.2.1.map (fun q => q.2) = zty) {N : Nat} {l0 : Nat} {h : zH} {r : Int32} {h' : zH} (hf : f_X6_addFace N l0 h = some (r, h')) : zCa g jX6_addFace [zr (some l0)] h (some (zi r)) h' :=
  zCa.of hg (by decide +kernel) (Nat.le_of_ble_eq_true rfl) (s_X6_addFace hg N l0 h r h' hf)
theorem dX5_refuse_0 : decode cX5_refuse 0 = .ok (.aload_n 0, 1) := by decide +kernel
theorem dX5_refuse_1 : decode cX5_refuse 1 = .ok (.iload_n 1, 1) := by decide +kernel
theorem dX5_refuse_2 : decode cX5_refuse 2 = .ok (.putfield 35, 3) := by decide +kernel
theorem dX5_refuse_5 : decode cX5_refuse 5 = .ok (.aload_n 0, 1) := by decide +kernel
theorem dX5_refuse_6 : decode cX5_refuse 6 = .ok (.iload_n 2, 1) := by decide +kernel
theorem dX5_refuse_7 : decode cX5_refuse 7 = .ok (.putfield 38, 3) := by decide +kernel
theorem dX5_refuse_10 : decode cX5_refuse 10 = .ok (.iconst 0, 1) := by decide +kernel
theorem dX5_refuse_11 : decode cX5_refuse 11 = .ok (.ireturn, 1) := by decide +kernel
def f_X5_refuse (N : Nat) (l0 : Nat) (l1 : Int32) (l2 : Int32) (h : zH) : Option (Int32 × zH) := (zpu h 5 (some l0) 5 (zi l1)).bind fun h1 => (zpu h1 5 (some l0) 6 (zi l2)).bind fun h2 => some ((0 : Int32), h2)
set_option maxHeartbeats 4000000 in
set_option maxRecDepth 100000 in
theorem s_X5_refuse {g : zG} (hg : g.2.1.map (fun q => q.2) = zty) {h0 : zH} (N : Nat) (l0 : Nat) (l1 : Int32) (l2 : Int32) (h : zH) (r : Int32) (h' : zH) (hf : f_X5_refuse N l0 l1 l2 h = some (r, h')) : zR g jX5_refuse h0 0 [some (zr (some l0)), some (zi l1), some (zi l2)] [] h (some (zi r)) h' := by
  unfold f_X5_refuse at hf
  refine zr_aload_n (v := .inl (some l0)) dX5_refuse_0 rfl rfl ?_
  refine zr_iload_n (x := l1) dX5_refuse_1 rfl rfl ?_
  revert hf; refine zbi (fun h1 e_h1 hf => ?_)
  refine zq_put (kp_163 _) dX5_refuse_2 (zn_i _) e_h1 ?_
  refine zr_aload_n (v := .inl (some l0)) dX5_refuse_5 rfl rfl ?_
  refine zr_iload_n (x := l2) dX5_refuse_6 rfl rfl ?_
  revert hf; refine zbi (fun h2 e_h2 hf => ?_)
  refine zq_put (kp_164 _) dX5_refuse_7 (zn_i _) e_h2 ?_
  refine zr_iconst (v := (0 : Int32)) dX5_refuse_10 (by decide) ?_
  cases hf
  exact zr_ret _ rfl dX5_refuse_11
theorem c_X5_refuse {g : zG} (hg : g.2.1.map (fun q => q.2) = zty) {N : Nat} {l0 : Nat} {l1 : Int32} {l2 : Int32} {h : zH} {r : Int32} {h' : zH} (hf : f_X5_refuse N l0 l1 l2 h = some (r, h')) : zCa g jX5_refuse [zr (some l0), zi l1, zi l2] h (some (zi r)) h' :=
  zCa.of hg (by decide +kernel) (Nat.le_of_ble_eq_true rfl) (s_X5_refuse hg N l0 l1 l2 h r h' hf)
theorem dX5_isDigit_0 : decode cX5_isDigit 0 = .ok (.iload_n 0, 1) := by decide +kernel
theorem dX5_isDigit_1 : decode cX5_isDigit 1 = .ok (.bipush 48, 2) := by decide +kernel
theorem dX5_isDigit_3 : decode cX5_isDigit 3 = .ok (.if_icmp .lt 13, 3) := by decide +kernel
theorem dX5_isDigit_6 : decode cX5_isDigit 6 = .ok (.iload_n 0, 1) := by decide +kernel
theorem dX5_isDigit_7 : decode cX5_isDigit 7 = .ok (.bipush 57, 2) := by decide +kernel
theorem dX5_isDigit_9 : decode cX5_isDigit 9 = .ok (.if_icmp .gt 7, 3) := by decide +kernel
theorem dX5_isDigit_12 : decode cX5_isDigit 12 = .ok (.iconst 1, 1) := by decide +kernel
theorem dX5_isDigit_13 : decode cX5_isDigit 13 = .ok (.goto 4, 3) := by decide +kernel
theorem dX5_isDigit_16 : decode cX5_isDigit 16 = .ok (.iconst 0, 1) := by decide +kernel
theorem dX5_isDigit_17 : decode cX5_isDigit 17 = .ok (.ireturn, 1) := by decide +kernel
def f_X5_isDigit (N : Nat) (l0 : Int32) (h : zH) : Option Int32 := if l0 < (48 : Int32) then some (0 : Int32) else if (57 : Int32) < l0 then some (0 : Int32) else some (1 : Int32)
set_option maxHeartbeats 4000000 in
set_option maxRecDepth 100000 in
theorem s_X5_isDigit {g : zG} (hg : g.2.1.map (fun q => q.2) = zty) {h0 : zH} (N : Nat) (l0 : Int32) (h : zH) (r : Int32) (hf : f_X5_isDigit N l0 h = some r) : zR g jX5_isDigit h0 0 [some (zi l0)] [] h (some (zi r)) h := by
  unfold f_X5_isDigit at hf
  refine zr_iload_n (x := l0) dX5_isDigit_0 rfl rfl ?_
  refine zr_bipush (v := (48 : Int32)) dX5_isDigit_1 (by decide) ?_
  by_cases hc1 : l0 < (48 : Int32)
  · rw [if_pos hc1] at hf
    refine zr_iclt_t (tgt := 16) dX5_isDigit_3 (by decide) hc1 ?_
    refine zr_iconst (v := (0 : Int32)) dX5_isDigit_16 (by decide) ?_
    cases hf
    exact zr_ret _ rfl dX5_isDigit_17
  · rw [if_neg hc1] at hf
    refine zr_iclt_f 16 dX5_isDigit_3 (by decide) hc1 ?_
    refine zr_iload_n (x := l0) dX5_isDigit_6 rfl rfl ?_
    refine zr_bipush (v := (57 : Int32)) dX5_isDigit_7 (by decide) ?_
    by_cases hc2 : (57 : Int32) < l0
    · rw [if_pos hc2] at hf
      refine zr_icgt_t (tgt := 16) dX5_isDigit_9 (by decide) hc2 ?_
      refine zr_iconst (v := (0 : Int32)) dX5_isDigit_16 (by decide) ?_
      cases hf
      exact zr_ret _ rfl dX5_isDigit_17
    · rw [if_neg hc2] at hf
      refine zr_icgt_f 16 dX5_isDigit_9 (by decide) hc2 ?_
      refine zr_iconst (v := (1 : Int32)) dX5_isDigit_12 (by decide) ?_
      refine zr_goto (tgt := 17) dX5_isDigit_13 (by decide) ?_
      cases hf
      exact zr_ret _ rfl dX5_isDigit_17
theorem c_X5_isDigit {g : zG} (hg : g.2.1.map (fun q => q.2) = zty) {N : Nat} {l0 : Int32} {h : zH} {r : Int32} (hf : f_X5_isDigit N l0 h = some r) : zCa g jX5_isDigit [zi l0] h (some (zi r)) h :=
  zCa.of hg (by decide +kernel) (Nat.le_of_ble_eq_true rfl) (s_X5_isDigit hg N l0 h r hf)
theorem dX5_isDigitNext_0 : decode cX5_isDigitNext 0 = .ok (.aload_n 0, 1) := by decide +kernel
theorem dX5_isDigitNext_1 : decode cX5_isDigitNext 1 = .ok (.invokevirtual 41, 3) := by decide +kernel
theorem dX5_isDigitNext_4 : decode cX5_isDigitNext 4 = .ok (.aload_n 0, 1) := by decide +kernel
theorem dX5_isDigitNext_5 : decode cX5_isDigitNext 5 = .ok (.getfield 12, 3) := by decide +kernel
theorem dX5_isDigitNext_8 : decode cX5_isDigitNext 8 = .ok (.aload_n 0, 1) := by decide +kernel
theorem dX5_isDigitNext_9 : decode cX5_isDigitNext 9 = .ok (.getfield 25, 3) := by decide +kernel
theorem dX5_isDigitNext_12 : decode cX5_isDigitNext 12 = .ok (.invokevirtual 130, 3) := by decide +kernel
theorem dX5_isDigitNext_15 : decode cX5_isDigitNext 15 = .ok (.invokestatic 134, 3) := by decide +kernel
theorem dX5_isDigitNext_18 : decode cX5_isDigitNext 18 = .ok (.ireturn, 1) := by decide +kernel
def f_X5_isDigitNext (N : Nat) (l0 : Nat) (h : zH) : Option (Int32 × zH) := (zck h 5 (some l0)).bind fun q1 => (f_X5_skipBlanks N q1 h).bind fun h1 => (zgR h1 5 (some l0) 0).bind fun x1 => (zgI h1 5 (some l0) 2).bind fun x2 => (zck h1 10 x1).bind fun q2 => (f_X10_signAt N q2 x2 h1).bind fun x3 => (f_X5_isDigit N x3 h1).bind fun x4 => if x4 = 0 ∨ x4 = 1 then some (x4, h1) else none
set_option maxHeartbeats 4000000 in
set_option maxRecDepth 100000 in
theorem s_X5_isDigitNext {g : zG} (hg : g.2.1.map (fun q => q.2) = zty) {h0 : zH} (N : Nat) (l0 : Nat) (h : zH) (r : Int32) (h' : zH) (hf : f_X5_isDigitNext N l0 h = some (r, h')) : zR g jX5_isDigitNext h0 0 [some (zr (some l0))] [] h (some (zi r)) h' := by
  unfold f_X5_isDigitNext at hf
  refine zr_aload_n (v := .inl (some l0)) dX5_isDigitNext_0 rfl rfl ?_
  revert hf; refine zbi (fun q1 e_q1 hf => ?_)
  revert hf; refine zbi (fun h1 e_h1 hf => ?_)
  refine zq_callV (J' := jX5_skipBlanks) (as := []) (rest := []) (r1 := none) (q := (RX5, TX5, 7)) kw_220 km_X5_skipBlanks kt_166 dX5_isDigitNext_1 rfl (Nat.le_of_ble_eq_true rfl) rfl rfl e_q1 rfl (c_X5_skipBlanks hg e_h1) ?_
  refine zr_aload_n (v := .inl (some l0)) dX5_isDigitNext_4 rfl rfl ?_
  revert hf; refine zbi (fun x1 e_x1 hf => ?_)
  refine zq_getR kg_149 dX5_isDigitNext_5 e_x1 ?_
  refine zr_aload_n (v := .inl (some l0)) dX5_isDigitNext_8 rfl rfl ?_
  revert hf; refine zbi (fun x2 e_x2 hf => ?_)
  refine zq_getI kg_148 dX5_isDigitNext_9 e_x2 ?_
  revert hf; refine zbi (fun q2 e_q2 hf => ?_)
  revert hf; refine zbi (fun x3 e_x3 hf => ?_)
  refine zq_callV (J' := jX10_signAt) (as := [zi x2]) (rest := []) (r1 := (some (zi x3))) (q := (RX10, TX10, 2)) kw_207 km_X10_signAt kt_167 dX5_isDigitNext_12 rfl (Nat.le_of_ble_eq_true rfl) rfl rfl e_q2 rfl (c_X10_signAt hg e_x3) ?_
  revert hf; refine zbi (fun x4 e_x4 hf => ?_)
  refine zq_callS (J' := jX5_isDigit) (as := [zi x3]) (rest := []) (r1 := (some (zi x4))) kw_224 km_X5_isDigit kt_169 dX5_isDigitNext_15 rfl (Nat.le_of_ble_eq_true rfl) rfl (c_X5_isDigit hg e_x4) ?_
  by_cases hc1 : x4 = 0 ∨ x4 = 1
  · rw [if_pos hc1] at hf
    cases hf
    exact zr_ret _ (zok_b hc1) dX5_isDigitNext_18
  · rw [if_neg hc1] at hf
    cases hf
theorem c_X5_isDigitNext {g : zG} (hg : g.2.1.map (fun q => q.2) = zty) {N : Nat} {l0 : Nat} {h : zH} {r : Int32} {h' : zH} (hf : f_X5_isDigitNext N l0 h = some (r, h')) : zCa g jX5_isDigitNext [zr (some l0)] h (some (zi r)) h' :=
  zCa.of hg (by decide +kernel) (Nat.le_of_ble_eq_true rfl) (s_X5_isDigitNext hg N l0 h r h' hf)
theorem dX5_readNumber_0 : decode cX5_readNumber 0 = .ok (.aload_n 0, 1) := by decide +kernel
theorem dX5_readNumber_1 : decode cX5_readNumber 1 = .ok (.invokevirtual 41, 3) := by decide +kernel
theorem dX5_readNumber_4 : decode cX5_readNumber 4 = .ok (.aload_n 0, 1) := by decide +kernel
theorem dX5_readNumber_5 : decode cX5_readNumber 5 = .ok (.aload_n 0, 1) := by decide +kernel
theorem dX5_readNumber_6 : decode cX5_readNumber 6 = .ok (.getfield 25, 3) := by decide +kernel
theorem dX5_readNumber_9 : decode cX5_readNumber 9 = .ok (.putfield 32, 3) := by decide +kernel
theorem dX5_readNumber_12 : decode cX5_readNumber 12 = .ok (.aload_n 0, 1) := by decide +kernel
theorem dX5_readNumber_13 : decode cX5_readNumber 13 = .ok (.iconst 0, 1) := by decide +kernel
theorem dX5_readNumber_14 : decode cX5_readNumber 14 = .ok (.putfield 29, 3) := by decide +kernel
theorem dX5_readNumber_17 : decode cX5_readNumber 17 = .ok (.aload_n 0, 1) := by decide +kernel
theorem dX5_readNumber_18 : decode cX5_readNumber 18 = .ok (.getfield 25, 3) := by decide +kernel
theorem dX5_readNumber_21 : decode cX5_readNumber 21 = .ok (.aload_n 0, 1) := by decide +kernel
theorem dX5_readNumber_22 : decode cX5_readNumber 22 = .ok (.getfield 12, 3) := by decide +kernel
theorem dX5_readNumber_25 : decode cX5_readNumber 25 = .ok (.getfield 44, 3) := by decide +kernel
theorem dX5_readNumber_28 : decode cX5_readNumber 28 = .ok (.if_icmp .ge 83, 3) := by decide +kernel
theorem dX5_readNumber_31 : decode cX5_readNumber 31 = .ok (.aload_n 0, 1) := by decide +kernel
theorem dX5_readNumber_32 : decode cX5_readNumber 32 = .ok (.getfield 12, 3) := by decide +kernel
theorem dX5_readNumber_35 : decode cX5_readNumber 35 = .ok (.aload_n 0, 1) := by decide +kernel
theorem dX5_readNumber_36 : decode cX5_readNumber 36 = .ok (.getfield 25, 3) := by decide +kernel
theorem dX5_readNumber_39 : decode cX5_readNumber 39 = .ok (.invokevirtual 130, 3) := by decide +kernel
theorem dX5_readNumber_42 : decode cX5_readNumber 42 = .ok (.invokestatic 134, 3) := by decide +kernel
theorem dX5_readNumber_45 : decode cX5_readNumber 45 = .ok (.ifCond .eq 66, 3) := by decide +kernel
theorem dX5_readNumber_48 : decode cX5_readNumber 48 = .ok (.aload_n 0, 1) := by decide +kernel
theorem dX5_readNumber_49 : decode cX5_readNumber 49 = .ok (.getfield 25, 3) := by decide +kernel
theorem dX5_readNumber_52 : decode cX5_readNumber 52 = .ok (.aload_n 0, 1) := by decide +kernel
theorem dX5_readNumber_53 : decode cX5_readNumber 53 = .ok (.getfield 32, 3) := by decide +kernel
theorem dX5_readNumber_56 : decode cX5_readNumber 56 = .ok (.isub, 1) := by decide +kernel
theorem dX5_readNumber_57 : decode cX5_readNumber 57 = .ok (.bipush 6, 2) := by decide +kernel
theorem dX5_readNumber_59 : decode cX5_readNumber 59 = .ok (.if_icmp .lt 13, 3) := by decide +kernel
theorem dX5_readNumber_62 : decode cX5_readNumber 62 = .ok (.aload_n 0, 1) := by decide +kernel
theorem dX5_readNumber_63 : decode cX5_readNumber 63 = .ok (.iconst 1, 1) := by decide +kernel
theorem dX5_readNumber_64 : decode cX5_readNumber 64 = .ok (.aload_n 0, 1) := by decide +kernel
theorem dX5_readNumber_65 : decode cX5_readNumber 65 = .ok (.getfield 25, 3) := by decide +kernel
theorem dX5_readNumber_68 : decode cX5_readNumber 68 = .ok (.invokevirtual 58, 3) := by decide +kernel
theorem dX5_readNumber_71 : decode cX5_readNumber 71 = .ok (.ireturn, 1) := by decide +kernel
theorem dX5_readNumber_72 : decode cX5_readNumber 72 = .ok (.aload_n 0, 1) := by decide +kernel
theorem dX5_readNumber_73 : decode cX5_readNumber 73 = .ok (.aload_n 0, 1) := by decide +kernel
theorem dX5_readNumber_74 : decode cX5_readNumber 74 = .ok (.getfield 29, 3) := by decide +kernel
theorem dX5_readNumber_77 : decode cX5_readNumber 77 = .ok (.bipush 10, 2) := by decide +kernel
theorem dX5_readNumber_79 : decode cX5_readNumber 79 = .ok (.imul, 1) := by decide +kernel
theorem dX5_readNumber_80 : decode cX5_readNumber 80 = .ok (.aload_n 0, 1) := by decide +kernel
theorem dX5_readNumber_81 : decode cX5_readNumber 81 = .ok (.getfield 12, 3) := by decide +kernel
theorem dX5_readNumber_84 : decode cX5_readNumber 84 = .ok (.aload_n 0, 1) := by decide +kernel
theorem dX5_readNumber_85 : decode cX5_readNumber 85 = .ok (.getfield 25, 3) := by decide +kernel
theorem dX5_readNumber_88 : decode cX5_readNumber 88 = .ok (.invokevirtual 130, 3) := by decide +kernel
theorem dX5_readNumber_91 : decode cX5_readNumber 91 = .ok (.bipush 48, 2) := by decide +kernel
theorem dX5_readNumber_93 : decode cX5_readNumber 93 = .ok (.isub, 1) := by decide +kernel
theorem dX5_readNumber_94 : decode cX5_readNumber 94 = .ok (.iadd, 1) := by decide +kernel
theorem dX5_readNumber_95 : decode cX5_readNumber 95 = .ok (.putfield 29, 3) := by decide +kernel
theorem dX5_readNumber_98 : decode cX5_readNumber 98 = .ok (.aload_n 0, 1) := by decide +kernel
theorem dX5_readNumber_99 : decode cX5_readNumber 99 = .ok (.dup, 1) := by decide +kernel
theorem dX5_readNumber_100 : decode cX5_readNumber 100 = .ok (.getfield 25, 3) := by decide +kernel
theorem dX5_readNumber_103 : decode cX5_readNumber 103 = .ok (.iconst 1, 1) := by decide +kernel
theorem dX5_readNumber_104 : decode cX5_readNumber 104 = .ok (.iadd, 1) := by decide +kernel
theorem dX5_readNumber_105 : decode cX5_readNumber 105 = .ok (.putfield 25, 3) := by decide +kernel
theorem dX5_readNumber_108 : decode cX5_readNumber 108 = .ok (.goto (-91), 3) := by decide +kernel
theorem dX5_readNumber_111 : decode cX5_readNumber 111 = .ok (.aload_n 0, 1) := by decide +kernel
theorem dX5_readNumber_112 : decode cX5_readNumber 112 = .ok (.getfield 25, 3) := by decide +kernel
theorem dX5_readNumber_115 : decode cX5_readNumber 115 = .ok (.aload_n 0, 1) := by decide +kernel
theorem dX5_readNumber_116 : decode cX5_readNumber 116 = .ok (.getfield 32, 3) := by decide +kernel
theorem dX5_readNumber_119 : decode cX5_readNumber 119 = .ok (.if_icmp .ne 13, 3) := by decide +kernel
theorem dX5_readNumber_122 : decode cX5_readNumber 122 = .ok (.aload_n 0, 1) := by decide +kernel
theorem dX5_readNumber_123 : decode cX5_readNumber 123 = .ok (.iconst 1, 1) := by decide +kernel
theorem dX5_readNumber_124 : decode cX5_readNumber 124 = .ok (.aload_n 0, 1) := by decide +kernel
theorem dX5_readNumber_125 : decode cX5_readNumber 125 = .ok (.getfield 25, 3) := by decide +kernel
theorem dX5_readNumber_128 : decode cX5_readNumber 128 = .ok (.invokevirtual 58, 3) := by decide +kernel
theorem dX5_readNumber_131 : decode cX5_readNumber 131 = .ok (.ireturn, 1) := by decide +kernel
theorem dX5_readNumber_132 : decode cX5_readNumber 132 = .ok (.aload_n 0, 1) := by decide +kernel
theorem dX5_readNumber_133 : decode cX5_readNumber 133 = .ok (.getfield 29, 3) := by decide +kernel
theorem dX5_readNumber_136 : decode cX5_readNumber 136 = .ok (.iload_n 1, 1) := by decide +kernel
theorem dX5_readNumber_137 : decode cX5_readNumber 137 = .ok (.if_icmp .lt 11, 3) := by decide +kernel
theorem dX5_readNumber_140 : decode cX5_readNumber 140 = .ok (.aload_n 0, 1) := by decide +kernel
theorem dX5_readNumber_141 : decode cX5_readNumber 141 = .ok (.getfield 29, 3) := by decide +kernel
theorem dX5_readNumber_144 : decode cX5_readNumber 144 = .ok (.iload_n 2, 1) := by decide +kernel
theorem dX5_readNumber_145 : decode cX5_readNumber 145 = .ok (.if_icmp .le 15, 3) := by decide +kernel
theorem dX5_readNumber_148 : decode cX5_readNumber 148 = .ok (.aload_n 0, 1) := by decide +kernel
theorem dX5_readNumber_149 : decode cX5_readNumber 149 = .ok (.iconst 2, 1) := by decide +kernel
theorem dX5_readNumber_150 : decode cX5_readNumber 150 = .ok (.aload_n 0, 1) := by decide +kernel
theorem dX5_readNumber_151 : decode cX5_readNumber 151 = .ok (.getfield 32, 3) := by decide +kernel
theorem dX5_readNumber_154 : decode cX5_readNumber 154 = .ok (.invokevirtual 58, 3) := by decide +kernel
theorem dX5_readNumber_157 : decode cX5_readNumber 157 = .ok (.ifCond .eq 7, 3) := by decide +kernel
theorem dX5_readNumber_160 : decode cX5_readNumber 160 = .ok (.iconst 1, 1) := by decide +kernel
theorem dX5_readNumber_161 : decode cX5_readNumber 161 = .ok (.goto 4, 3) := by decide +kernel
theorem dX5_readNumber_164 : decode cX5_readNumber 164 = .ok (.iconst 0, 1) := by decide +kernel
theorem dX5_readNumber_165 : decode cX5_readNumber 165 = .ok (.ireturn, 1) := by decide +kernel
def f_X5_readNumber_148 (N : Nat) (l0 : Nat) (h : zH) : Option (Int32 × zH) := (zgI h 5 (some l0) 4).bind fun x1 => (zck h 5 (some l0)).bind fun q1 => zb2 (f_X5_refuse N q1 (2 : Int32) x1 h) fun x2 h1 => if x2 = 0 then some ((0 : Int32), h1) else some ((1 : Int32), h1)
set_option maxHeartbeats 4000000 in
set_option maxRecDepth 100000 in
theorem s_X5_readNumber_148 {g : zG} (hg : g.2.1.map (fun q => q.2) = zty) {h0 : zH} (N : Nat) (l0 : Nat) (h : zH) (r : Int32) (h' : zH) (hf : f_X5_readNumber_148 N l0 h = some (r, h')) : zR g jX5_readNumber h0 148 [some (zr (some l0)), none, none] [] h (some (zi r)) h' := by
  unfold f_X5_readNumber_148 at hf
  refine zr_aload_n (v := .inl (some l0)) dX5_readNumber_148 rfl rfl ?_
  refine zr_iconst (v := (2 : Int32)) dX5_readNumber_149 (by decide) ?_
  refine zr_aload_n (v := .inl (some l0)) dX5_readNumber_150 rfl rfl ?_
  revert hf; refine zbi (fun x1 e_x1 hf => ?_)
  refine zq_getI kg_170 dX5_readNumber_151 e_x1 ?_
  revert hf; refine zbi (fun q1 e_q1 hf => ?_)
  revert hf; refine zbi2 (fun x2 h1 e_x2 hf => ?_)
  refine zq_callV (J' := jX5_refuse) (as := [zi (2 : Int32), zi x1]) (rest := []) (r1 := (some (zi x2))) (q := (RX5, TX5, 7)) kw_227 km_X5_refuse kt_172 dX5_readNumber_154 rfl (Nat.le_of_ble_eq_true rfl) rfl rfl e_q1 rfl (c_X5_refuse hg e_x2) ?_
  by_cases hc1 : x2 = 0
  · rw [if_pos hc1] at hf
    refine zr_ifeq_t (tgt := 164) dX5_readNumber_157 (by decide) hc1 ?_
    refine zr_iconst (v := (0 : Int32)) dX5_readNumber_164 (by decide) ?_
    cases hf
    exact zr_ret _ rfl dX5_readNumber_165
  · rw [if_neg hc1] at hf
    refine zr_ifeq_f 164 dX5_readNumber_157 (by decide) hc1 ?_
    refine zr_iconst (v := (1 : Int32)) dX5_readNumber_160 (by decide) ?_
    refine zr_goto (tgt := 165) dX5_readNumber_161 (by decide) ?_
    cases hf
    exact zr_ret _ rfl dX5_readNumber_165
def f_X5_readNumber_111 (N : Nat) (l0 : Nat) (l1 : Int32) (l2 : Int32) (h : zH) : Option (Int32 × zH) := (zgI h 5 (some l0) 2).bind fun x1 => (zgI h 5 (some l0) 4).bind fun x2 => if x1 = x2 then (zgI h 5 (some l0) 2).bind fun x5 => (zck h 5 (some l0)).bind fun q1 => zb2 (f_X5_refuse N q1 (1 : Int32) x5 h) fun x6 h1 => if x6 = 0 ∨ x6 = 1 then some (x6, h1) else none else (zgI h 5 (some l0) 3).bind fun x3 => if x3 < l1 then f_X5_readNumber_148 N l0 h else (zgI h 5 (some l0) 3).bind fun x4 => if x4 ≤ l2 then some ((1 : Int32), h) else f_X5_readNumber_148 N l0 h
set_option maxHeartbeats 4000000 in
set_option maxRecDepth 100000 in
theorem s_X5_readNumber_111 {g : zG} (hg : g.2.1.map (fun q => q.2) = zty) {h0 : zH} (N : Nat) (l0 : Nat) (l1 : Int32) (l2 : Int32) (h : zH) (r : Int32) (h' : zH) (hf : f_X5_readNumber_111 N l0 l1 l2 h = some (r, h')) : zR g jX5_readNumber h0 111 [some (zr (some l0)), some (zi l1), some (zi l2)] [] h (some (zi r)) h' := by
  unfold f_X5_readNumber_111 at hf
  refine zr_aload_n (v := .inl (some l0)) dX5_readNumber_111 rfl rfl ?_
  revert hf; refine zbi (fun x1 e_x1 hf => ?_)
  refine zq_getI kg_148 dX5_readNumber_112 e_x1 ?_
  refine zr_aload_n (v := .inl (some l0)) dX5_readNumber_115 rfl rfl ?_
  revert hf; refine zbi (fun x2 e_x2 hf => ?_)
  refine zq_getI kg_170 dX5_readNumber_116 e_x2 ?_
  by_cases hc1 : x1 = x2
  · rw [if_pos hc1] at hf
    refine zr_icne_f 132 dX5_readNumber_119 (by decide) hc1 ?_
    refine zr_aload_n (v := .inl (some l0)) dX5_readNumber_122 rfl rfl ?_
    refine zr_iconst (v := (1 : Int32)) dX5_readNumber_123 (by decide) ?_
    refine zr_aload_n (v := .inl (some l0)) dX5_readNumber_124 rfl rfl ?_
    revert hf; refine zbi (fun x5 e_x5 hf => ?_)
    refine zq_getI kg_148 dX5_readNumber_125 e_x5 ?_
    revert hf; refine zbi (fun q1 e_q1 hf => ?_)
    revert hf; refine zbi2 (fun x6 h1 e_x6 hf => ?_)
    refine zq_callV (J' := jX5_refuse) (as := [zi (1 : Int32), zi x5]) (rest := []) (r1 := (some (zi x6))) (q := (RX5, TX5, 7)) kw_227 km_X5_refuse kt_172 dX5_readNumber_128 rfl (Nat.le_of_ble_eq_true rfl) rfl rfl e_q1 rfl (c_X5_refuse hg e_x6) ?_
    by_cases hc4 : x6 = 0 ∨ x6 = 1
    · rw [if_pos hc4] at hf
      cases hf
      exact zr_ret _ (zok_b hc4) dX5_readNumber_131
    · rw [if_neg hc4] at hf
      cases hf
  · rw [if_neg hc1] at hf
    refine zr_icne_t (tgt := 132) dX5_readNumber_119 (by decide) hc1 ?_
    refine zr_aload_n (v := .inl (some l0)) dX5_readNumber_132 rfl rfl ?_
    revert hf; refine zbi (fun x3 e_x3 hf => ?_)
    refine zq_getI kg_173 dX5_readNumber_133 e_x3 ?_
    refine zr_iload_n (x := l1) dX5_readNumber_136 rfl rfl ?_
    by_cases hc2 : x3 < l1
    · rw [if_pos hc2] at hf
      refine zr_iclt_t (tgt := 148) dX5_readNumber_137 (by decide) hc2 ?_
      refine zr_forget 1 (L' := [some (zr (some l0)), none, some (zi l2)]) rfl ?_
      refine zr_forget 2 (L' := [some (zr (some l0)), none, none]) rfl ?_
      exact s_X5_readNumber_148 hg N l0 h r h' hf
    · rw [if_neg hc2] at hf
      refine zr_iclt_f 148 dX5_readNumber_137 (by decide) hc2 ?_
      refine zr_aload_n (v := .inl (some l0)) dX5_readNumber_140 rfl rfl ?_
      revert hf; refine zbi (fun x4 e_x4 hf => ?_)
      refine zq_getI kg_173 dX5_readNumber_141 e_x4 ?_
      refine zr_iload_n (x := l2) dX5_readNumber_144 rfl rfl ?_
      by_cases hc3 : x4 ≤ l2
      · rw [if_pos hc3] at hf
        refine zr_icle_t (tgt := 160) dX5_readNumber_145 (by decide) hc3 ?_
        refine zr_iconst (v := (1 : Int32)) dX5_readNumber_160 (by decide) ?_
        refine zr_goto (tgt := 165) dX5_readNumber_161 (by decide) ?_
        cases hf
        exact zr_ret _ rfl dX5_readNumber_165
      · rw [if_neg hc3] at hf
        refine zr_icle_f 160 dX5_readNumber_145 (by decide) hc3 ?_
        refine zr_forget 1 (L' := [some (zr (some l0)), none, some (zi l2)]) rfl ?_
        refine zr_forget 2 (L' := [some (zr (some l0)), none, none]) rfl ?_
        exact s_X5_readNumber_148 hg N l0 h r h' hf
def f_X5_readNumber_17 (N : Nat) : Nat → Nat → Int32 → Int32 → zH → Option (Int32 × zH)
  | 0, _, _, _, _ => none
  | n + 1, l0, l1, l2, h => (zgI h 5 (some l0) 2).bind fun x1 => (zgR h 5 (some l0) 0).bind fun x2 => (zgI h 10 x2 1).bind fun x3 => if x3 ≤ x1 then f_X5_readNumber_111 N l0 l1 l2 h else (zgR h 5 (some l0) 0).bind fun x4 => (zgI h 5 (some l0) 2).bind fun x5 => (zck h 10 x4).bind fun q1 => (f_X10_signAt N q1 x5 h).bind fun x6 => (f_X5_isDigit N x6 h).bind fun x7 => if x7 = 0 then f_X5_readNumber_111 N l0 l1 l2 h else (zgI h 5 (some l0) 2).bind fun x8 => (zgI h 5 (some l0) 4).bind fun x9 => if (x8 - x9) < (6 : Int32) then (zgI h 5 (some l0) 3).bind fun x10 => (zgR h 5 (some l0) 0).bind fun x11 => (zgI h 5 (some l0) 2).bind fun x12 => (zck h 10 x11).bind fun q2 => (f_X10_signAt N q2 x12 h).bind fun x13 => (zpu h 5 (some l0) 3 (zi ((x10 * (10 : Int32)) + (x13 - (48 : Int32))))).bind fun h1 => (zgI h1 5 (some l0) 2).bind fun x14 => (zpu h1 5 (some l0) 2 (zi (x14 + (1 : Int32)))).bind fun h2 => f_X5_readNumber_17 N n l0 l1 l2 h2 else (zgI h 5 (some l0) 2).bind fun x15 => (zck h 5 (some l0)).bind fun q3 => zb2 (f_X5_refuse N q3 (1 : Int32) x15 h) fun x16 h3 => if x16 = 0 ∨ x16 = 1 then some (x16, h3) else none
set_option maxHeartbeats 4000000 in
set_option maxRecDepth 100000 in
theorem s_X5_readNumber_17 {g : zG} (hg : g.2.1.map (fun q => q.2) = zty) {h0 : zH} (N : Nat) : ∀ (n : Nat) (l0 : Nat) (l1 : Int32) (l2 : Int32) (h : zH) (r : Int32) (h' : zH), f_X5_readNumber_17 N n l0 l1 l2 h = some (r, h') → zR g jX5_readNumber h0 17 [some (zr (some l0)), some (zi l1), some (zi l2)] [] h (some (zi r)) h' := by
  intro n
  induction n with
  | zero =>
    intro l0 l1 l2 h r h' hf
    cases hf
  | succ n ih =>
    intro l0 l1 l2 h r h' hf
    rw [f_X5_readNumber_17] at hf
    refine zr_aload_n (v := .inl (some l0)) dX5_readNumber_17 rfl rfl ?_
    revert hf; refine zbi (fun x1 e_x1 hf => ?_)
    refine zq_getI kg_148 dX5_readNumber_18 e_x1 ?_
    refine zr_aload_n (v := .inl (some l0)) dX5_readNumber_21 rfl rfl ?_
    revert hf; refine zbi (fun x2 e_x2 hf => ?_)
    refine zq_getR kg_149 dX5_readNumber_22 e_x2 ?_
    revert hf; refine zbi (fun x3 e_x3 hf => ?_)
    refine zq_getI kg_150 dX5_readNumber_25 e_x3 ?_
    by_cases hc1 : x3 ≤ x1
    · rw [if_pos hc1] at hf
      refine zr_icge_t (tgt := 111) dX5_readNumber_28 (by decide) hc1 ?_
      exact s_X5_readNumber_111 hg N l0 l1 l2 h r h' hf
    · rw [if_neg hc1] at hf
      refine zr_icge_f 111 dX5_readNumber_28 (by decide) hc1 ?_
      refine zr_aload_n (v := .inl (some l0)) dX5_readNumber_31 rfl rfl ?_
      revert hf; refine zbi (fun x4 e_x4 hf => ?_)
      refine zq_getR kg_149 dX5_readNumber_32 e_x4 ?_
      refine zr_aload_n (v := .inl (some l0)) dX5_readNumber_35 rfl rfl ?_
      revert hf; refine zbi (fun x5 e_x5 hf => ?_)
      refine zq_getI kg_148 dX5_readNumber_36 e_x5 ?_
      revert hf; refine zbi (fun q1 e_q1 hf => ?_)
      revert hf; refine zbi (fun x6 e_x6 hf => ?_)
      refine zq_callV (J' := jX10_signAt) (as := [zi x5]) (rest := []) (r1 := (some (zi x6))) (q := (RX10, TX10, 2)) kw_207 km_X10_signAt kt_174 dX5_readNumber_39 rfl (Nat.le_of_ble_eq_true rfl) rfl rfl e_q1 rfl (c_X10_signAt hg e_x6) ?_
      revert hf; refine zbi (fun x7 e_x7 hf => ?_)
      refine zq_callS (J' := jX5_isDigit) (as := [zi x6]) (rest := []) (r1 := (some (zi x7))) kw_224 km_X5_isDigit kt_175 dX5_readNumber_42 rfl (Nat.le_of_ble_eq_true rfl) rfl (c_X5_isDigit hg e_x7) ?_
      by_cases hc2 : x7 = 0
      · rw [if_pos hc2] at hf
        refine zr_ifeq_t (tgt := 111) dX5_readNumber_45 (by decide) hc2 ?_
        exact s_X5_readNumber_111 hg N l0 l1 l2 h r h' hf
      · rw [if_neg hc2] at hf
        refine zr_ifeq_f 111 dX5_readNumber_45 (by decide) hc2 ?_
        refine zr_aload_n (v := .inl (some l0)) dX5_readNumber_48 rfl rfl ?_
        revert hf; refine zbi (fun x8 e_x8 hf => ?_)
        refine zq_getI kg_148 dX5_readNumber_49 e_x8 ?_
        refine zr_aload_n (v := .inl (some l0)) dX5_readNumber_52 rfl rfl ?_
        revert hf; refine zbi (fun x9 e_x9 hf => ?_)
        refine zq_getI kg_170 dX5_readNumber_53 e_x9 ?_
        refine zr_isub dX5_readNumber_56 ?_
        refine zr_bipush (v := (6 : Int32)) dX5_readNumber_57 (by decide) ?_
        by_cases hc3 : (x8 - x9) < (6 : Int32)
        · rw [if_pos hc3] at hf
          refine zr_iclt_t (tgt := 72) dX5_readNumber_59 (by decide) hc3 ?_
          refine zr_aload_n (v := .inl (some l0)) dX5_readNumber_72 rfl rfl ?_
          refine zr_aload_n (v := .inl (some l0)) dX5_readNumber_73 rfl rfl ?_
          revert hf; refine zbi (fun x10 e_x10 hf => ?_)
          refine zq_getI kg_173 dX5_readNumber_74 e_x10 ?_
          refine zr_bipush (v := (10 : Int32)) dX5_readNumber_77 (by decide) ?_
          refine zr_imul dX5_readNumber_79 ?_
          refine zr_aload_n (v := .inl (some l0)) dX5_readNumber_80 rfl rfl ?_
          revert hf; refine zbi (fun x11 e_x11 hf => ?_)
          refine zq_getR kg_149 dX5_readNumber_81 e_x11 ?_
          refine zr_aload_n (v := .inl (some l0)) dX5_readNumber_84 rfl rfl ?_
          revert hf; refine zbi (fun x12 e_x12 hf => ?_)
          refine zq_getI kg_148 dX5_readNumber_85 e_x12 ?_
          revert hf; refine zbi (fun q2 e_q2 hf => ?_)
          revert hf; refine zbi (fun x13 e_x13 hf => ?_)
          refine zq_callV (J' := jX10_signAt) (as := [zi x12]) (rest := [zi (x10 * (10 : Int32)), zr (some l0)]) (r1 := (some (zi x13))) (q := (RX10, TX10, 2)) kw_207 km_X10_signAt kt_174 dX5_readNumber_88 rfl (Nat.le_of_ble_eq_true rfl) rfl rfl e_q2 rfl (c_X10_signAt hg e_x13) ?_
          refine zr_bipush (v := (48 : Int32)) dX5_readNumber_91 (by decide) ?_
          refine zr_isub dX5_readNumber_93 ?_
          refine zr_iadd dX5_readNumber_94 ?_
          revert hf; refine zbi (fun h1 e_h1 hf => ?_)
          refine zq_put (kp_176 _) dX5_readNumber_95 (zn_i _) e_h1 ?_
          refine zr_aload_n (v := .inl (some l0)) dX5_readNumber_98 rfl rfl ?_
          refine zr_dup dX5_readNumber_99 ?_
          revert hf; refine zbi (fun x14 e_x14 hf => ?_)
          refine zq_getI kg_148 dX5_readNumber_100 e_x14 ?_
          refine zr_iconst (v := (1 : Int32)) dX5_readNumber_103 (by decide) ?_
          refine zr_iadd dX5_readNumber_104 ?_
          revert hf; refine zbi (fun h2 e_h2 hf => ?_)
          refine zq_put (kp_155 _) dX5_readNumber_105 (zn_i _) e_h2 ?_
          refine zr_goto (tgt := 17) dX5_readNumber_108 (by decide) ?_
          exact ih l0 l1 l2 h2 r h' hf
        · rw [if_neg hc3] at hf
          refine zr_iclt_f 72 dX5_readNumber_59 (by decide) hc3 ?_
          refine zr_aload_n (v := .inl (some l0)) dX5_readNumber_62 rfl rfl ?_
          refine zr_iconst (v := (1 : Int32)) dX5_readNumber_63 (by decide) ?_
          refine zr_aload_n (v := .inl (some l0)) dX5_readNumber_64 rfl rfl ?_
          revert hf; refine zbi (fun x15 e_x15 hf => ?_)
          refine zq_getI kg_148 dX5_readNumber_65 e_x15 ?_
          revert hf; refine zbi (fun q3 e_q3 hf => ?_)
          revert hf; refine zbi2 (fun x16 h3 e_x16 hf => ?_)
          refine zq_callV (J' := jX5_refuse) (as := [zi (1 : Int32), zi x15]) (rest := []) (r1 := (some (zi x16))) (q := (RX5, TX5, 7)) kw_227 km_X5_refuse kt_172 dX5_readNumber_68 rfl (Nat.le_of_ble_eq_true rfl) rfl rfl e_q3 rfl (c_X5_refuse hg e_x16) ?_
          by_cases hc4 : x16 = 0 ∨ x16 = 1
          · rw [if_pos hc4] at hf
            cases hf
            exact zr_ret _ (zok_b hc4) dX5_readNumber_71
          · rw [if_neg hc4] at hf
            cases hf
def f_X5_readNumber (N : Nat) (l0 : Nat) (l1 : Int32) (l2 : Int32) (h : zH) : Option (Int32 × zH) := (zck h 5 (some l0)).bind fun q1 => (f_X5_skipBlanks N q1 h).bind fun h1 => (zgI h1 5 (some l0) 2).bind fun x1 => (zpu h1 5 (some l0) 4 (zi x1)).bind fun h2 => (zpu h2 5 (some l0) 3 (zi (0 : Int32))).bind fun h3 => f_X5_readNumber_17 N N l0 l1 l2 h3
set_option maxHeartbeats 4000000 in
set_option maxRecDepth 100000 in
theorem s_X5_readNumber {g : zG} (hg : g.2.1.map (fun q => q.2) = zty) {h0 : zH} (N : Nat) (l0 : Nat) (l1 : Int32) (l2 : Int32) (h : zH) (r : Int32) (h' : zH) (hf : f_X5_readNumber N l0 l1 l2 h = some (r, h')) : zR g jX5_readNumber h0 0 [some (zr (some l0)), some (zi l1), some (zi l2)] [] h (some (zi r)) h' := by
  unfold f_X5_readNumber at hf
  refine zr_aload_n (v := .inl (some l0)) dX5_readNumber_0 rfl rfl ?_
  revert hf; refine zbi (fun q1 e_q1 hf => ?_)
  revert hf; refine zbi (fun h1 e_h1 hf => ?_)
  refine zq_callV (J' := jX5_skipBlanks) (as := []) (rest := []) (r1 := none) (q := (RX5, TX5, 7)) kw_220 km_X5_skipBlanks kt_177 dX5_readNumber_1 rfl (Nat.le_of_ble_eq_true rfl) rfl rfl e_q1 rfl (c_X5_skipBlanks hg e_h1) ?_
  refine zr_aload_n (v := .inl (some l0)) dX5_readNumber_4 rfl rfl ?_
  refine zr_aload_n (v := .inl (some l0)) dX5_readNumber_5 rfl rfl ?_
  revert hf; refine zbi (fun x1 e_x1 hf => ?_)
  refine zq_getI kg_148 dX5_readNumber_6 e_x1 ?_
  revert hf; refine zbi (fun h2 e_h2 hf => ?_)
  refine zq_put (kp_178 _) dX5_readNumber_9 (zn_i _) e_h2 ?_
  refine zr_aload_n (v := .inl (some l0)) dX5_readNumber_12 rfl rfl ?_
  refine zr_iconst (v := (0 : Int32)) dX5_readNumber_13 (by decide) ?_
  revert hf; refine zbi (fun h3 e_h3 hf => ?_)
  refine zq_put (kp_176 _) dX5_readNumber_14 (zn_i _) e_h3 ?_
  exact s_X5_readNumber_17 hg N N l0 l1 l2 h3 r h' hf
theorem c_X5_readNumber {g : zG} (hg : g.2.1.map (fun q => q.2) = zty) {N : Nat} {l0 : Nat} {l1 : Int32} {l2 : Int32} {h : zH} {r : Int32} {h' : zH} (hf : f_X5_readNumber N l0 l1 l2 h = some (r, h')) : zCa g jX5_readNumber [zr (some l0), zi l1, zi l2] h (some (zi r)) h' :=
  zCa.of hg (by decide +kernel) (Nat.le_of_ble_eq_true rfl) (s_X5_readNumber hg N l0 l1 l2 h r h' hf)
