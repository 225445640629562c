theorem dX2_isAnyOfBay_0 : decode cX2_isAnyOfBay 0 = .ok (.iload_n 1, 1) := by decide +kernel
theorem dX2_isAnyOfBay_1 : decode cX2_isAnyOfBay 1 = .ok (.ifCond .lt 12, 3) := by decide +kernel
theorem dX2_isAnyOfBay_4 : decode cX2_isAnyOfBay 4 = .ok (.iload_n 1, 1) := by decide +kernel
theorem dX2_isAnyOfBay_5 : decode cX2_isAnyOfBay 5 = .ok (.aload_n 0, 1) := by decide +kernel
theorem dX2_isAnyOfBay_6 : decode cX2_isAnyOfBay 6 = .ok (.getfield 14, 3) := by decide +kernel
theorem dX2_isAnyOfBay_9 : decode cX2_isAnyOfBay 9 = .ok (.arraylength, 1) := by decide +kernel
theorem dX2_isAnyOfBay_10 : decode cX2_isAnyOfBay 10 = .ok (.if_icmp .lt 5, 3) := by decide +kernel
theorem dX2_isAnyOfBay_13 : decode cX2_isAnyOfBay 13 = .ok (.iconst 0, 1) := by decide +kernel
theorem dX2_isAnyOfBay_14 : decode cX2_isAnyOfBay 14 = .ok (.ireturn, 1) := by decide +kernel
theorem dX2_isAnyOfBay_15 : decode cX2_isAnyOfBay 15 = .ok (.iconst 0, 1) := by decide +kernel
theorem dX2_isAnyOfBay_16 : decode cX2_isAnyOfBay 16 = .ok (.istore_n 3, 1) := by decide +kernel
theorem dX2_isAnyOfBay_17 : decode cX2_isAnyOfBay 17 = .ok (.iload_n 3, 1) := by decide +kernel
theorem dX2_isAnyOfBay_18 : decode cX2_isAnyOfBay 18 = .ok (.aload_n 0, 1) := by decide +kernel
theorem dX2_isAnyOfBay_19 : decode cX2_isAnyOfBay 19 = .ok (.getfield 14, 3) := by decide +kernel
theorem dX2_isAnyOfBay_22 : decode cX2_isAnyOfBay 22 = .ok (.arraylength, 1) := by decide +kernel
theorem dX2_isAnyOfBay_23 : decode cX2_isAnyOfBay 23 = .ok (.if_icmp .ge 36, 3) := by decide +kernel
theorem dX2_isAnyOfBay_26 : decode cX2_isAnyOfBay 26 = .ok (.aload_n 0, 1) := by decide +kernel
theorem dX2_isAnyOfBay_27 : decode cX2_isAnyOfBay 27 = .ok (.getfield 14, 3) := by decide +kernel
theorem dX2_isAnyOfBay_30 : decode cX2_isAnyOfBay 30 = .ok (.iload_n 3, 1) := by decide +kernel
theorem dX2_isAnyOfBay_31 : decode cX2_isAnyOfBay 31 = .ok (.iaload, 1) := by decide +kernel
theorem dX2_isAnyOfBay_32 : decode cX2_isAnyOfBay 32 = .ok (.aload_n 0, 1) := by decide +kernel
theorem dX2_isAnyOfBay_33 : decode cX2_isAnyOfBay 33 = .ok (.getfield 14, 3) := by decide +kernel
theorem dX2_isAnyOfBay_36 : decode cX2_isAnyOfBay 36 = .ok (.iload_n 1, 1) := by decide +kernel
theorem dX2_isAnyOfBay_37 : decode cX2_isAnyOfBay 37 = .ok (.iaload, 1) := by decide +kernel
theorem dX2_isAnyOfBay_38 : decode cX2_isAnyOfBay 38 = .ok (.if_icmp .ne 15, 3) := by decide +kernel
theorem dX2_isAnyOfBay_41 : decode cX2_isAnyOfBay 41 = .ok (.aload_n 0, 1) := by decide +kernel
theorem dX2_isAnyOfBay_42 : decode cX2_isAnyOfBay 42 = .ok (.getfield 18, 3) := by decide +kernel
theorem dX2_isAnyOfBay_45 : decode cX2_isAnyOfBay 45 = .ok (.iload_n 3, 1) := by decide +kernel
theorem dX2_isAnyOfBay_46 : decode cX2_isAnyOfBay 46 = .ok (.iaload, 1) := by decide +kernel
theorem dX2_isAnyOfBay_47 : decode cX2_isAnyOfBay 47 = .ok (.iload_n 2, 1) := by decide +kernel
theorem dX2_isAnyOfBay_48 : decode cX2_isAnyOfBay 48 = .ok (.if_icmp .ne 5, 3) := by decide +kernel
theorem dX2_isAnyOfBay_51 : decode cX2_isAnyOfBay 51 = .ok (.iconst 1, 1) := by decide +kernel
theorem dX2_isAnyOfBay_52 : decode cX2_isAnyOfBay 52 = .ok (.ireturn, 1) := by decide +kernel
theorem dX2_isAnyOfBay_53 : decode cX2_isAnyOfBay 53 = .ok (.iinc 3 1, 3) := by decide +kernel
theorem dX2_isAnyOfBay_56 : decode cX2_isAnyOfBay 56 = .ok (.goto (-39), 3) := by decide +kernel
theorem dX2_isAnyOfBay_59 : decode cX2_isAnyOfBay 59 = .ok (.iconst 0, 1) := by decide +kernel
theorem dX2_isAnyOfBay_60 : decode cX2_isAnyOfBay 60 = .ok (.ireturn, 1) := by decide +kernel
def f_X2_isAnyOfBay_17 (N : Nat) : Nat → Nat → Int32 → Int32 → Int32 → zH → Option Int32
  | 0, _, _, _, _, _ => none
  | n + 1, l0, l1, l2, l3, h => (zgR h 2 (some l0) 0).bind fun x1 => (zlen h x1).bind fun x2 => if x2 ≤ l3 then some (0 : Int32) else (zgR h 2 (some l0) 0).bind fun x3 => (zld h 0 x3 l3).bind fun x4 => (zgR h 2 (some l0) 0).bind fun x5 => (zld h 0 x5 l1).bind fun x6 => if x4 = x6 then (zgR h 2 (some l0) 1).bind fun x7 => (zld h 0 x7 l3).bind fun x8 => if x8 = l2 then some (1 : Int32) else f_X2_isAnyOfBay_17 N n l0 l1 l2 (l3 + (1 : Int32)) h else f_X2_isAnyOfBay_17 N n l0 l1 l2 (l3 + (1 : Int32)) h
set_option maxHeartbeats 4000000 in
set_option maxRecDepth 100000 in
theorem s_X2_isAnyOfBay_17 {g : zG} (hg : g.2.1.map (fun q => q.2) = zty) {h0 : zH} (N : Nat) : ∀ (n : Nat) (l0 : Nat) (l1 : Int32) (l2 : Int32) (l3 : Int32) (h : zH) (r : Int32), f_X2_isAnyOfBay_17 N n l0 l1 l2 l3 h = some r → zR g jX2_isAnyOfBay h0 17 [some (zr (some l0)), some (zi l1), some (zi l2), some (zi l3)] [] h (some (zi r)) h := by
  intro n
  induction n with
  | zero =>
    intro l0 l1 l2 l3 h r hf
    cases hf
  | succ n ih =>
    intro l0 l1 l2 l3 h r hf
    rw [f_X2_isAnyOfBay_17] at hf
    refine zr_iload_n (x := l3) dX2_isAnyOfBay_17 rfl rfl ?_
    refine zr_aload_n (v := .inl (some l0)) dX2_isAnyOfBay_18 rfl rfl ?_
    revert hf; refine zbi (fun x1 e_x1 hf => ?_)
    refine zq_getR kg_42 dX2_isAnyOfBay_19 e_x1 ?_
    revert hf; refine zbi (fun x2 e_x2 hf => ?_)
    refine zq_alen dX2_isAnyOfBay_22 e_x2 ?_
    by_cases hc1 : x2 ≤ l3
    · rw [if_pos hc1] at hf
      refine zr_icge_t (tgt := 59) dX2_isAnyOfBay_23 (by decide) hc1 ?_
      refine zr_iconst (v := (0 : Int32)) dX2_isAnyOfBay_59 (by decide) ?_
      cases hf
      exact zr_ret _ rfl dX2_isAnyOfBay_60
    · rw [if_neg hc1] at hf
      refine zr_icge_f 59 dX2_isAnyOfBay_23 (by decide) hc1 ?_
      refine zr_aload_n (v := .inl (some l0)) dX2_isAnyOfBay_26 rfl rfl ?_
      revert hf; refine zbi (fun x3 e_x3 hf => ?_)
      refine zq_getR kg_42 dX2_isAnyOfBay_27 e_x3 ?_
      refine zr_iload_n (x := l3) dX2_isAnyOfBay_30 rfl rfl ?_
      revert hf; refine zbi (fun x4 e_x4 hf => ?_)
      refine zq_iald dX2_isAnyOfBay_31 e_x4 ?_
      refine zr_aload_n (v := .inl (some l0)) dX2_isAnyOfBay_32 rfl rfl ?_
      revert hf; refine zbi (fun x5 e_x5 hf => ?_)
      refine zq_getR kg_42 dX2_isAnyOfBay_33 e_x5 ?_
      refine zr_iload_n (x := l1) dX2_isAnyOfBay_36 rfl rfl ?_
      revert hf; refine zbi (fun x6 e_x6 hf => ?_)
      refine zq_iald dX2_isAnyOfBay_37 e_x6 ?_
      by_cases hc2 : x4 = x6
      · rw [if_pos hc2] at hf
        refine zr_icne_f 53 dX2_isAnyOfBay_38 (by decide) hc2 ?_
        refine zr_aload_n (v := .inl (some l0)) dX2_isAnyOfBay_41 rfl rfl ?_
        revert hf; refine zbi (fun x7 e_x7 hf => ?_)
        refine zq_getR kg_34 dX2_isAnyOfBay_42 e_x7 ?_
        refine zr_iload_n (x := l3) dX2_isAnyOfBay_45 rfl rfl ?_
        revert hf; refine zbi (fun x8 e_x8 hf => ?_)
        refine zq_iald dX2_isAnyOfBay_46 e_x8 ?_
        refine zr_iload_n (x := l2) dX2_isAnyOfBay_47 rfl rfl ?_
        by_cases hc3 : x8 = l2
        · rw [if_pos hc3] at hf
          refine zr_icne_f 53 dX2_isAnyOfBay_48 (by decide) hc3 ?_
          refine zr_iconst (v := (1 : Int32)) dX2_isAnyOfBay_51 (by decide) ?_
          cases hf
          exact zr_ret _ rfl dX2_isAnyOfBay_52
        · rw [if_neg hc3] at hf
          refine zr_icne_t (tgt := 53) dX2_isAnyOfBay_48 (by decide) hc3 ?_
          refine zq_iinc (x := l3) (y := (1 : Int32)) (L' := [some (zr (some l0)), some (zi l1), some (zi l2), some (zi (l3 + (1 : Int32)))]) dX2_isAnyOfBay_53 rfl (by decide) (by decide) rfl ?_
          refine zr_goto (tgt := 17) dX2_isAnyOfBay_56 (by decide) ?_
          exact ih l0 l1 l2 (l3 + (1 : Int32)) h r hf
      · rw [if_neg hc2] at hf
        refine zr_icne_t (tgt := 53) dX2_isAnyOfBay_38 (by decide) hc2 ?_
        refine zq_iinc (x := l3) (y := (1 : Int32)) (L' := [some (zr (some l0)), some (zi l1), some (zi l2), some (zi (l3 + (1 : Int32)))]) dX2_isAnyOfBay_53 rfl (by decide) (by decide) rfl ?_
        refine zr_goto (tgt := 17) dX2_isAnyOfBay_56 (by decide) ?_
        exact ih l0 l1 l2 (l3 + (1 : Int32)) h r hf
def f_X2_isAnyOfBay (N : Nat) (l0 : Nat) (l1 : Int32) (l2 : Int32) (h : zH) : Option Int32 := if l1 < 0 then some (0 : Int32) else (zgR h 2 (some l0) 0).bind fun x1 => (zlen h x1).bind fun x2 => if l1 < x2 then f_X2_isAnyOfBay_17 N N l0 l1 l2 (0 : Int32) h else some (0 : Int32)
set_option maxHeartbeats 4000000 in
set_option maxRecDepth 100000 in
theorem s_X2_isAnyOfBay {g : zG} (hg : g.2.1.map (fun q => q.2) = zty) {h0 : zH} (N : Nat) (l0 : Nat) (l1 : Int32) (l2 : Int32) (h : zH) (r : Int32) (hf : f_X2_isAnyOfBay N l0 l1 l2 h = some r) : zR g jX2_isAnyOfBay h0 0 [some (zr (some l0)), some (zi l1), some (zi l2), none] [] h (some (zi r)) h := by
  unfold f_X2_isAnyOfBay at hf
  refine zr_iload_n (x := l1) dX2_isAnyOfBay_0 rfl rfl ?_
  by_cases hc1 : l1 < 0
  · rw [if_pos hc1] at hf
    refine zr_iflt_t (tgt := 13) dX2_isAnyOfBay_1 (by decide) hc1 ?_
    refine zr_iconst (v := (0 : Int32)) dX2_isAnyOfBay_13 (by decide) ?_
    cases hf
    exact zr_ret _ rfl dX2_isAnyOfBay_14
  · rw [if_neg hc1] at hf
    refine zr_iflt_f 13 dX2_isAnyOfBay_1 (by decide) hc1 ?_
    refine zr_iload_n (x := l1) dX2_isAnyOfBay_4 rfl rfl ?_
    refine zr_aload_n (v := .inl (some l0)) dX2_isAnyOfBay_5 rfl rfl ?_
    revert hf; refine zbi (fun x1 e_x1 hf => ?_)
    refine zq_getR kg_42 dX2_isAnyOfBay_6 e_x1 ?_
    revert hf; refine zbi (fun x2 e_x2 hf => ?_)
    refine zq_alen dX2_isAnyOfBay_9 e_x2 ?_
    by_cases hc2 : l1 < x2
    · rw [if_pos hc2] at hf
      refine zr_iclt_t (tgt := 15) dX2_isAnyOfBay_10 (by decide) hc2 ?_
      refine zr_iconst (v := (0 : Int32)) dX2_isAnyOfBay_15 (by decide) ?_
      refine zq_istore_n (x := (0 : Int32)) (L' := [some (zr (some l0)), some (zi l1), some (zi l2), some (zi (0 : Int32))]) dX2_isAnyOfBay_16 rfl (by decide) rfl ?_
      exact s_X2_isAnyOfBay_17 hg N N l0 l1 l2 (0 : Int32) h r hf
    · rw [if_neg hc2] at hf
      refine zr_iclt_f 15 dX2_isAnyOfBay_10 (by decide) hc2 ?_
      refine zr_iconst (v := (0 : Int32)) dX2_isAnyOfBay_13 (by decide) ?_
      cases hf
      exact zr_ret _ rfl dX2_isAnyOfBay_14
theorem c_X2_isAnyOfBay {g : zG} (hg : g.2.1.map (fun q => q.2) = zty) {N : Nat} {l0 : Nat} {l1 : Int32} {l2 : Int32} {h : zH} {r : Int32} (hf : f_X2_isAnyOfBay N l0 l1 l2 h = some r) : zCa g jX2_isAnyOfBay [zr (some l0), zi l1, zi l2] h (some (zi r)) h :=
  zCa.of hg (by decide +kernel) (Nat.le_of_ble_eq_true rfl) (s_X2_isAnyOfBay hg N l0 l1 l2 h r hf)
theorem dX2_mayBecome_0 : decode cX2_mayBecome 0 = .ok (.aload_n 0, 1) := by decide +kernel
theorem dX2_mayBecome_1 : decode cX2_mayBecome 1 = .ok (.iload_n 1, 1) := by decide +kernel
theorem dX2_mayBecome_2 : decode cX2_mayBecome 2 = .ok (.invokevirtual 51, 3) := by decide +kernel
theorem dX2_mayBecome_5 : decode cX2_mayBecome 5 = .ok (.tableswitch 71 0 2 #[27, 61, 61], 27) := by decide +kernel
theorem dX2_mayBecome_32 : decode cX2_mayBecome 32 = .ok (.iload_n 2, 1) := by decide +kernel
theorem dX2_mayBecome_33 : decode cX2_mayBecome 33 = .ok (.iconst 1, 1) := by decide +kernel
theorem dX2_mayBecome_34 : decode cX2_mayBecome 34 = .ok (.if_icmp .ne 12, 3) := by decide +kernel
theorem dX2_mayBecome_37 : decode cX2_mayBecome 37 = .ok (.aload_n 0, 1) := by decide +kernel
theorem dX2_mayBecome_38 : decode cX2_mayBecome 38 = .ok (.iload_n 1, 1) := by decide +kernel
theorem dX2_mayBecome_39 : decode cX2_mayBecome 39 = .ok (.iconst 2, 1) := by decide +kernel
theorem dX2_mayBecome_40 : decode cX2_mayBecome 40 = .ok (.invokevirtual 54, 3) := by decide +kernel
theorem dX2_mayBecome_43 : decode cX2_mayBecome 43 = .ok (.ifCond .eq 17, 3) := by decide +kernel
theorem dX2_mayBecome_46 : decode cX2_mayBecome 46 = .ok (.iload_n 2, 1) := by decide +kernel
theorem dX2_mayBecome_47 : decode cX2_mayBecome 47 = .ok (.iconst 2, 1) := by decide +kernel
theorem dX2_mayBecome_48 : decode cX2_mayBecome 48 = .ok (.if_icmp .ne 16, 3) := by decide +kernel
theorem dX2_mayBecome_51 : decode cX2_mayBecome 51 = .ok (.aload_n 0, 1) := by decide +kernel
theorem dX2_mayBecome_52 : decode cX2_mayBecome 52 = .ok (.iload_n 1, 1) := by decide +kernel
theorem dX2_mayBecome_53 : decode cX2_mayBecome 53 = .ok (.iconst 1, 1) := by decide +kernel
theorem dX2_mayBecome_54 : decode cX2_mayBecome 54 = .ok (.invokevirtual 54, 3) := by decide +kernel
theorem dX2_mayBecome_57 : decode cX2_mayBecome 57 = .ok (.ifCond .ne 7, 3) := by decide +kernel
theorem dX2_mayBecome_60 : decode cX2_mayBecome 60 = .ok (.iconst 1, 1) := by decide +kernel
theorem dX2_mayBecome_61 : decode cX2_mayBecome 61 = .ok (.goto 4, 3) := by decide +kernel
theorem dX2_mayBecome_64 : decode cX2_mayBecome 64 = .ok (.iconst 0, 1) := by decide +kernel
theorem dX2_mayBecome_65 : decode cX2_mayBecome 65 = .ok (.ireturn, 1) := by decide +kernel
theorem dX2_mayBecome_66 : decode cX2_mayBecome 66 = .ok (.iload_n 2, 1) := by decide +kernel
theorem dX2_mayBecome_67 : decode cX2_mayBecome 67 = .ok (.ifCond .ne 7, 3) := by decide +kernel
theorem dX2_mayBecome_70 : decode cX2_mayBecome 70 = .ok (.iconst 1, 1) := by decide +kernel
theorem dX2_mayBecome_71 : decode cX2_mayBecome 71 = .ok (.goto 4, 3) := by decide +kernel
theorem dX2_mayBecome_74 : decode cX2_mayBecome 74 = .ok (.iconst 0, 1) := by decide +kernel
theorem dX2_mayBecome_75 : decode cX2_mayBecome 75 = .ok (.ireturn, 1) := by decide +kernel
theorem dX2_mayBecome_76 : decode cX2_mayBecome 76 = .ok (.iconst 0, 1) := by decide +kernel
theorem dX2_mayBecome_77 : decode cX2_mayBecome 77 = .ok (.ireturn, 1) := by decide +kernel
def f_X2_mayBecome_46 (N : Nat) (l0 : Nat) (l1 : Int32) (l2 : Int32) (h : zH) : Option Int32 := if l2 = (2 : Int32) then (zck h 2 (some l0)).bind fun q1 => (f_X2_isAnyOfBay N q1 l1 (1 : Int32) h).bind fun x1 => if x1 = 0 then some (1 : Int32) else some (0 : Int32) else some (0 : Int32)
set_option maxHeartbeats 4000000 in
set_option maxRecDepth 100000 in
theorem s_X2_mayBecome_46 {g : zG} (hg : g.2.1.map (fun q => q.2) = zty) {h0 : zH} (N : Nat) (l0 : Nat) (l1 : Int32) (l2 : Int32) (h : zH) (r : Int32) (hf : f_X2_mayBecome_46 N l0 l1 l2 h = some r) : zR g jX2_mayBecome h0 46 [some (zr (some l0)), some (zi l1), some (zi l2)] [] h (some (zi r)) h := by
  unfold f_X2_mayBecome_46 at hf
  refine zr_iload_n (x := l2) dX2_mayBecome_46 rfl rfl ?_
  refine zr_iconst (v := (2 : Int32)) dX2_mayBecome_47 (by decide) ?_
  by_cases hc1 : l2 = (2 : Int32)
  · rw [if_pos hc1] at hf
    refine zr_icne_f 64 dX2_mayBecome_48 (by decide) hc1 ?_
    refine zr_aload_n (v := .inl (some l0)) dX2_mayBecome_51 rfl rfl ?_
    refine zr_iload_n (x := l1) dX2_mayBecome_52 rfl rfl ?_
    refine zr_iconst (v := (1 : Int32)) dX2_mayBecome_53 (by decide) ?_
    revert hf; refine zbi (fun q1 e_q1 hf => ?_)
    revert hf; refine zbi (fun x1 e_x1 hf => ?_)
    refine zq_callV (J' := jX2_isAnyOfBay) (as := [zi l1, zi (1 : Int32)]) (rest := []) (r1 := (some (zi x1))) (q := (RX2, TX2, 3)) kw_86 km_X2_isAnyOfBay kt_53 dX2_mayBecome_54 rfl (Nat.le_of_ble_eq_true rfl) rfl rfl e_q1 rfl (c_X2_isAnyOfBay hg e_x1) ?_
    by_cases hc2 : x1 = 0
    · rw [if_pos hc2] at hf
      refine zr_ifne_f 64 dX2_mayBecome_57 (by decide) hc2 ?_
      refine zr_iconst (v := (1 : Int32)) dX2_mayBecome_60 (by decide) ?_
      refine zr_goto (tgt := 65) dX2_mayBecome_61 (by decide) ?_
      cases hf
      exact zr_ret _ rfl dX2_mayBecome_65
    · rw [if_neg hc2] at hf
      refine zr_ifne_t (tgt := 64) dX2_mayBecome_57 (by decide) hc2 ?_
      refine zr_iconst (v := (0 : Int32)) dX2_mayBecome_64 (by decide) ?_
      cases hf
      exact zr_ret _ rfl dX2_mayBecome_65
  · rw [if_neg hc1] at hf
    refine zr_icne_t (tgt := 64) dX2_mayBecome_48 (by decide) hc1 ?_
    refine zr_iconst (v := (0 : Int32)) dX2_mayBecome_64 (by decide) ?_
    cases hf
    exact zr_ret _ rfl dX2_mayBecome_65
def f_X2_mayBecome_66 (N : Nat) (l2 : Int32) (h : zH) : Option Int32 := if l2 = 0 then some (1 : Int32) else some (0 : Int32)
set_option maxHeartbeats 4000000 in
set_option maxRecDepth 100000 in
theorem s_X2_mayBecome_66 {g : zG} (hg : g.2.1.map (fun q => q.2) = zty) {h0 : zH} (N : Nat) (l2 : Int32) (h : zH) (r : Int32) (hf : f_X2_mayBecome_66 N l2 h = some r) : zR g jX2_mayBecome h0 66 [none, none, some (zi l2)] [] h (some (zi r)) h := by
  unfold f_X2_mayBecome_66 at hf
  refine zr_iload_n (x := l2) dX2_mayBecome_66 rfl rfl ?_
  by_cases hc1 : l2 = 0
  · rw [if_pos hc1] at hf
    refine zr_ifne_f 74 dX2_mayBecome_67 (by decide) hc1 ?_
    refine zr_iconst (v := (1 : Int32)) dX2_mayBecome_70 (by decide) ?_
    refine zr_goto (tgt := 75) dX2_mayBecome_71 (by decide) ?_
    cases hf
    exact zr_ret _ rfl dX2_mayBecome_75
  · rw [if_neg hc1] at hf
    refine zr_ifne_t (tgt := 74) dX2_mayBecome_67 (by decide) hc1 ?_
    refine zr_iconst (v := (0 : Int32)) dX2_mayBecome_74 (by decide) ?_
    cases hf
    exact zr_ret _ rfl dX2_mayBecome_75
def f_X2_mayBecome (N : Nat) (l0 : Nat) (l1 : Int32) (l2 : Int32) (h : zH) : Option Int32 := (zck h 2 (some l0)).bind fun q1 => (f_X2_stateOf N q1 l1 h).bind fun x1 => if x1 = (0 : Int32) then if l2 = (1 : Int32) then (zck h 2 (some l0)).bind fun q2 => (f_X2_isAnyOfBay N q2 l1 (2 : Int32) h).bind fun x2 => if x2 = 0 then some (1 : Int32) else f_X2_mayBecome_46 N l0 l1 l2 h else f_X2_mayBecome_46 N l0 l1 l2 h else if x1 = (1 : Int32) then f_X2_mayBecome_66 N l2 h else if x1 = (2 : Int32) then f_X2_mayBecome_66 N l2 h else some (0 : Int32)
set_option maxHeartbeats 4000000 in
set_option maxRecDepth 100000 in
theorem s_X2_mayBecome {g : zG} (hg : g.2.1.map (fun q => q.2) = zty) {h0 : zH} (N : Nat) (l0 : Nat) (l1 : Int32) (l2 : Int32) (h : zH) (r : Int32) (hf : f_X2_mayBecome N l0 l1 l2 h = some r) : zR g jX2_mayBecome h0 0 [some (zr (some l0)), some (zi l1), some (zi l2)] [] h (some (zi r)) h := by
  unfold f_X2_mayBecome at hf
  refine zr_aload_n (v := .inl (some l0)) dX2_mayBecome_0 rfl rfl ?_
  refine zr_iload_n (x := l1) dX2_mayBecome_1 rfl rfl ?_
  revert hf; refine zbi (fun q1 e_q1 hf => ?_)
  revert hf; refine zbi (fun x1 e_x1 hf => ?_)
  refine zq_callV (J' := jX2_stateOf) (as := [zi l1]) (rest := []) (r1 := (some (zi x1))) (q := (RX2, TX2, 3)) kw_90 km_X2_stateOf kt_55 dX2_mayBecome_2 rfl (Nat.le_of_ble_eq_true rfl) rfl rfl e_q1 rfl (c_X2_stateOf hg e_x1) ?_
  by_cases hc1 : x1 = (0 : Int32)
  · rw [if_pos hc1] at hf
    refine zr_tabIn (off := 27) (tgt := 32) dX2_mayBecome_5 (by rw [hc1]; decide) (by rw [hc1]; rfl) (by decide) ?_
    refine zr_iload_n (x := l2) dX2_mayBecome_32 rfl rfl ?_
    refine zr_iconst (v := (1 : Int32)) dX2_mayBecome_33 (by decide) ?_
    by_cases hc2 : l2 = (1 : Int32)
    · rw [if_pos hc2] at hf
      refine zr_icne_f 46 dX2_mayBecome_34 (by decide) hc2 ?_
      refine zr_aload_n (v := .inl (some l0)) dX2_mayBecome_37 rfl rfl ?_
      refine zr_iload_n (x := l1) dX2_mayBecome_38 rfl rfl ?_
      refine zr_iconst (v := (2 : Int32)) dX2_mayBecome_39 (by decide) ?_
      revert hf; refine zbi (fun q2 e_q2 hf => ?_)
      revert hf; refine zbi (fun x2 e_x2 hf => ?_)
      refine zq_callV (J' := jX2_isAnyOfBay) (as := [zi l1, zi (2 : Int32)]) (rest := []) (r1 := (some (zi x2))) (q := (RX2, TX2, 3)) kw_86 km_X2_isAnyOfBay kt_53 dX2_mayBecome_40 rfl (Nat.le_of_ble_eq_true rfl) rfl rfl e_q2 rfl (c_X2_isAnyOfBay hg e_x2) ?_
      by_cases hc3 : x2 = 0
      · rw [if_pos hc3] at hf
        refine zr_ifeq_t (tgt := 60) dX2_mayBecome_43 (by decide) hc3 ?_
        refine zr_iconst (v := (1 : Int32)) dX2_mayBecome_60 (by decide) ?_
        refine zr_goto (tgt := 65) dX2_mayBecome_61 (by decide) ?_
        cases hf
        exact zr_ret _ rfl dX2_mayBecome_65
      · rw [if_neg hc3] at hf
        refine zr_ifeq_f 60 dX2_mayBecome_43 (by decide) hc3 ?_
        exact s_X2_mayBecome_46 hg N l0 l1 l2 h r hf
    · rw [if_neg hc2] at hf
      refine zr_icne_t (tgt := 46) dX2_mayBecome_34 (by decide) hc2 ?_
      exact s_X2_mayBecome_46 hg N l0 l1 l2 h r hf
  · rw [if_neg hc1] at hf
    by_cases hc4 : x1 = (1 : Int32)
    · rw [if_pos hc4] at hf
      refine zr_tabIn (off := 61) (tgt := 66) dX2_mayBecome_5 (by rw [hc4]; decide) (by rw [hc4]; rfl) (by decide) ?_
      refine zr_forget 0 (L' := [none, some (zi l1), some (zi l2)]) rfl ?_
      refine zr_forget 1 (L' := [none, none, some (zi l2)]) rfl ?_
      exact s_X2_mayBecome_66 hg N l2 h r hf
    · rw [if_neg hc4] at hf
      by_cases hc5 : x1 = (2 : Int32)
      · rw [if_pos hc5] at hf
        refine zr_tabIn (off := 61) (tgt := 66) dX2_mayBecome_5 (by rw [hc5]; decide) (by rw [hc5]; rfl) (by decide) ?_
        refine zr_forget 0 (L' := [none, some (zi l1), some (zi l2)]) rfl ?_
        refine zr_forget 1 (L' := [none, none, some (zi l2)]) rfl ?_
        exact s_X2_mayBecome_66 hg N l2 h r hf
      · rw [if_neg hc5] at hf
        refine zr_tabOut (tgt := 76) dX2_mayBecome_5 (fun q => by have n0 := zne (n := 0) hc1 (by decide); have n1 := zne (n := 1) hc4 (by decide); have n2 := zne (n := 2) hc5 (by decide); omega) (by decide) ?_
        refine zr_iconst (v := (0 : Int32)) dX2_mayBecome_76 (by decide) ?_
        cases hf
        exact zr_ret _ rfl dX2_mayBecome_77
theorem c_X2_mayBecome {g : zG} (hg : g.2.1.map (fun q => q.2) = zty) {N : Nat} {l0 : Nat} {l1 : Int32} {l2 : Int32} {h : zH} {r : Int32} (hf : f_X2_mayBecome N l0 l1 l2 h = some r) : zCa g jX2_mayBecome [zr (some l0), zi l1, zi l2] h (some (zi r)) h :=
  zCa.of hg (by decide +kernel) (Nat.le_of_ble_eq_true rfl) (s_X2_mayBecome hg N l0 l1 l2 h r hf)
theorem dX2_withState_0 : decode cX2_withState 0 = .ok (.aload_n 0, 1) := by decide +kernel
theorem dX2_withState_1 : decode cX2_withState 1 = .ok (.getfield 18, 3) := by decide +kernel
theorem dX2_withState_4 : decode cX2_withState 4 = .ok (.invokevirtual 46, 3) := by decide +kernel
theorem dX2_withState_7 : decode cX2_withState 7 = .ok (.checkcast 47, 3) := by decide +kernel
theorem dX2_withState_10 : decode cX2_withState 10 = .ok (.astore_n 3, 1) := by decide +kernel
theorem dX2_withState_11 : decode cX2_withState 11 = .ok (.iload_n 1, 1) := by decide +kernel
theorem dX2_withState_12 : decode cX2_withState 12 = .ok (.ifCond .lt 13, 3) := by decide +kernel
theorem dX2_withState_15 : decode cX2_withState 15 = .ok (.iload_n 1, 1) := by decide +kernel
theorem dX2_withState_16 : decode cX2_withState 16 = .ok (.aload_n 3, 1) := by decide +kernel
theorem dX2_withState_17 : decode cX2_withState 17 = .ok (.arraylength, 1) := by decide +kernel
theorem dX2_withState_18 : decode cX2_withState 18 = .ok (.if_icmp .ge 7, 3) := by decide +kernel
theorem dX2_withState_21 : decode cX2_withState 21 = .ok (.aload_n 3, 1) := by decide +kernel
theorem dX2_withState_22 : decode cX2_withState 22 = .ok (.iload_n 1, 1) := by decide +kernel
theorem dX2_withState_23 : decode cX2_withState 23 = .ok (.iload_n 2, 1) := by decide +kernel
theorem dX2_withState_24 : decode cX2_withState 24 = .ok (.iastore, 1) := by decide +kernel
theorem dX2_withState_25 : decode cX2_withState 25 = .ok (.new 4, 3) := by decide +kernel
theorem dX2_withState_28 : decode cX2_withState 28 = .ok (.dup, 1) := by decide +kernel
theorem dX2_withState_29 : decode cX2_withState 29 = .ok (.aload_n 0, 1) := by decide +kernel
theorem dX2_withState_30 : decode cX2_withState 30 = .ok (.getfield 14, 3) := by decide +kernel
theorem dX2_withState_33 : decode cX2_withState 33 = .ok (.aload_n 3, 1) := by decide +kernel
theorem dX2_withState_34 : decode cX2_withState 34 = .ok (.aload_n 0, 1) := by decide +kernel
theorem dX2_withState_35 : decode cX2_withState 35 = .ok (.getfield 21, 3) := by decide +kernel
theorem dX2_withState_38 : decode cX2_withState 38 = .ok (.invokespecial 3, 3) := by decide +kernel
theorem dX2_withState_41 : decode cX2_withState 41 = .ok (.areturn, 1) := by decide +kernel
def f_X2_withState_25 (N : Nat) (l0 : Nat) (l3 : Option Nat) (h : zH) : Option ((Option Nat) × zH) := znw h (.inr (2, [zr none, zr none, zr none])) fun a1 h1 => (zgR h1 2 (some l0) 0).bind fun x1 => (zgR h1 2 (some l0) 2).bind fun x2 => (f_X2_init_ N a1 x1 l3 x2 h1).bind fun h2 => some ((some a1), h2)
set_option maxHeartbeats 4000000 in
set_option maxRecDepth 100000 in
theorem s_X2_withState_25 {g : zG} (hg : g.2.1.map (fun q => q.2) = zty) {h0 : zH} (N : Nat) (l0 : Nat) (l3 : Option Nat) (h : zH) (r : Option Nat) (h' : zH) (hf : f_X2_withState_25 N l0 l3 h = some (r, h')) : zR g jX2_withState h0 25 [some (zr (some l0)), none, none, some (zr l3)] [] h (some (zr r)) h' := by
  unfold f_X2_withState_25 at hf
  obtain ⟨a1, h1, e_a1, e_h1, hf⟩ := znw_spec hf
  refine zq_new kn_40 dX2_withState_25 e_a1 e_h1 ?_
  refine zr_dup dX2_withState_28 ?_
  refine zr_aload_n (v := .inl (some l0)) dX2_withState_29 rfl rfl ?_
  revert hf; refine zbi (fun x1 e_x1 hf => ?_)
  refine zq_getR kg_42 dX2_withState_30 e_x1 ?_
  refine zr_aload_n (v := .inl l3) dX2_withState_33 rfl rfl ?_
  refine zr_aload_n (v := .inl (some l0)) dX2_withState_34 rfl rfl ?_
  revert hf; refine zbi (fun x2 e_x2 hf => ?_)
  refine zq_getR kg_35 dX2_withState_35 e_x2 ?_
  revert hf; refine zbi (fun h2 e_h2 hf => ?_)
  refine zq_callI (J' := jX2_init_) (as := [zr x1, zr l3, zr x2]) (rest := [zr (some a1)]) (r1 := none) (a := a1) kw_62 km_X2_init_ kt_56 dX2_withState_38 rfl (Nat.le_of_ble_eq_true rfl) rfl (c_X2_init_ hg e_h2) ?_
  cases hf
  exact zr_ret _ (Or.inl ⟨_, rfl⟩) dX2_withState_41
def f_X2_withState (N : Nat) (l0 : Nat) (l1 : Int32) (l2 : Int32) (h : zH) : Option ((Option Nat) × zH) := (zgR h 2 (some l0) 1).bind fun x1 => zcl h 0 x1 fun a1 h1 => if l1 < 0 then f_X2_withState_25 N l0 (some a1) h1 else (zlen h1 (some a1)).bind fun x2 => if x2 ≤ l1 then f_X2_withState_25 N l0 (some a1) h1 else (zst h1 0 (some a1) l1 l2).bind fun h2 => f_X2_withState_25 N l0 (some a1) h2
set_option maxHeartbeats 4000000 in
set_option maxRecDepth 100000 in
theorem s_X2_withState {g : zG} (hg : g.2.1.map (fun q => q.2) = zty) {h0 : zH} (N : Nat) (l0 : Nat) (l1 : Int32) (l2 : Int32) (h : zH) (r : Option Nat) (h' : zH) (hf : f_X2_withState N l0 l1 l2 h = some (r, h')) : zR g jX2_withState h0 0 [some (zr (some l0)), some (zi l1), some (zi l2), none] [] h (some (zr r)) h' := by
  unfold f_X2_withState at hf
  refine zr_aload_n (v := .inl (some l0)) dX2_withState_0 rfl rfl ?_
  revert hf; refine zbi (fun x1 e_x1 hf => ?_)
  refine zq_getR kg_34 dX2_withState_1 e_x1 ?_
  obtain ⟨a1, h1, e_a1, hf⟩ := zcl_spec hf
  refine zq_clone (t := 0) kk_50 rfl (by decide +kernel) (Or.inl ⟨rfl, rfl⟩) ⟨Nat.le_of_ble_eq_true rfl, Nat.le_of_ble_eq_true rfl⟩ dX2_withState_4 e_a1 ?_
  refine zq_castA (t := 0) (ad := "[I") (x := none) kw_85 rfl (by decide +kernel) dX2_withState_7 (zcl_got e_a1) ?_
  refine zq_astore_n (v := .inl (some a1)) (L' := [some (zr (some l0)), some (zi l1), some (zi l2), some (zr (some a1))]) dX2_withState_10 rfl (by decide) rfl ?_
  refine zr_iload_n (x := l1) dX2_withState_11 rfl rfl ?_
  by_cases hc1 : l1 < 0
  · rw [if_pos hc1] at hf
    refine zr_iflt_t (tgt := 25) dX2_withState_12 (by decide) hc1 ?_
    refine zr_forget 1 (L' := [some (zr (some l0)), none, some (zi l2), some (zr (some a1))]) rfl ?_
    refine zr_forget 2 (L' := [some (zr (some l0)), none, none, some (zr (some a1))]) rfl ?_
    exact s_X2_withState_25 hg N l0 (some a1) h1 r h' hf
  · rw [if_neg hc1] at hf
    refine zr_iflt_f 25 dX2_withState_12 (by decide) hc1 ?_
    refine zr_iload_n (x := l1) dX2_withState_15 rfl rfl ?_
    refine zr_aload_n (v := .inl (some a1)) dX2_withState_16 rfl rfl ?_
    revert hf; refine zbi (fun x2 e_x2 hf => ?_)
    refine zq_alen dX2_withState_17 e_x2 ?_
    by_cases hc2 : x2 ≤ l1
    · rw [if_pos hc2] at hf
      refine zr_icge_t (tgt := 25) dX2_withState_18 (by decide) hc2 ?_
      refine zr_forget 1 (L' := [some (zr (some l0)), none, some (zi l2), some (zr (some a1))]) rfl ?_
      refine zr_forget 2 (L' := [some (zr (some l0)), none, none, some (zr (some a1))]) rfl ?_
      exact s_X2_withState_25 hg N l0 (some a1) h1 r h' hf
    · rw [if_neg hc2] at hf
      refine zr_icge_f 25 dX2_withState_18 (by decide) hc2 ?_
      refine zr_aload_n (v := .inl (some a1)) dX2_withState_21 rfl rfl ?_
      refine zr_iload_n (x := l1) dX2_withState_22 rfl rfl ?_
      refine zr_iload_n (x := l2) dX2_withState_23 rfl rfl ?_
      revert hf; refine zbi (fun h2 e_h2 hf => ?_)
      refine zq_iast dX2_withState_24 e_h2 ?_
      refine zr_forget 1 (L' := [some (zr (some l0)), none, some (zi l2), some (zr (some a1))]) rfl ?_
      refine zr_forget 2 (L' := [some (zr (some l0)), none, none, some (zr (some a1))]) rfl ?_
      exact s_X2_withState_25 hg N l0 (some a1) h2 r h' hf
theorem c_X2_withState {g : zG} (hg : g.2.1.map (fun q => q.2) = zty) {N : Nat} {l0 : Nat} {l1 : Int32} {l2 : Int32} {h : zH} {r : Option Nat} {h' : zH} (hf : f_X2_withState N l0 l1 l2 h = some (r, h')) : zCa g jX2_withState [zr (some l0), zi l1, zi l2] h (some (zr r)) h' :=
  zCa.of hg (by decide +kernel) (Nat.le_of_ble_eq_true rfl) (s_X2_withState hg N l0 l1 l2 h r h' hf)
theorem dX9_find_0 : decode cX9_find 0 = .ok (.iload_n 1, 1) := by decide +kernel
theorem dX9_find_1 : decode cX9_find 1 = .ok (.ifCond .lt 21, 3) := by decide +kernel
theorem dX9_find_4 : decode cX9_find 4 = .ok (.iload_n 1, 1) := by decide +kernel
theorem dX9_find_5 : decode cX9_find 5 = .ok (.aload_n 0, 1) := by decide +kernel
theorem dX9_find_6 : decode cX9_find 6 = .ok (.getfield 17, 3) := by decide +kernel
theorem dX9_find_9 : decode cX9_find 9 = .ok (.arraylength, 1) := by decide +kernel
theorem dX9_find_10 : decode cX9_find 10 = .ok (.if_icmp .ge 12, 3) := by decide +kernel
theorem dX9_find_13 : decode cX9_find 13 = .ok (.aload_n 0, 1) := by decide +kernel
theorem dX9_find_14 : decode cX9_find 14 = .ok (.getfield 17, 3) := by decide +kernel
theorem dX9_find_17 : decode cX9_find 17 = .ok (.iload_n 1, 1) := by decide +kernel
theorem dX9_find_18 : decode cX9_find 18 = .ok (.aaload, 1) := by decide +kernel
theorem dX9_find_19 : decode cX9_find 19 = .ok (.goto 4, 3) := by decide +kernel
theorem dX9_find_22 : decode cX9_find 22 = .ok (.aconst_null, 1) := by decide +kernel
theorem dX9_find_23 : decode cX9_find 23 = .ok (.areturn, 1) := by decide +kernel
def f_X9_find (N : Nat) (l0 : Nat) (l1 : Int32) (h : zH) : Option (Option Nat) := if l1 < 0 then some none else (zgR h 9 (some l0) 1).bind fun x1 => (zlen h x1).bind fun x2 => if x2 ≤ l1 then some none else (zgR h 9 (some l0) 1).bind fun x3 => (zldR h 4 x3 l1).bind fun x4 => some x4
set_option maxHeartbeats 4000000 in
set_option maxRecDepth 100000 in
theorem s_X9_find {g : zG} (hg : g.2.1.map (fun q => q.2) = zty) {h0 : zH} (N : Nat) (l0 : Nat) (l1 : Int32) (h : zH) (r : Option Nat) (hf : f_X9_find N l0 l1 h = some r) : zR g jX9_find h0 0 [some (zr (some l0)), some (zi l1)] [] h (some (zr r)) h := by
  unfold f_X9_find at hf
  refine zr_iload_n (x := l1) dX9_find_0 rfl rfl ?_
  by_cases hc1 : l1 < 0
  · rw [if_pos hc1] at hf
    refine zr_iflt_t (tgt := 22) dX9_find_1 (by decide) hc1 ?_
    refine zr_null dX9_find_22 ?_
    cases hf
    exact zr_ret _ (Or.inl ⟨_, rfl⟩) dX9_find_23
  · rw [if_neg hc1] at hf
    refine zr_iflt_f 22 dX9_find_1 (by decide) hc1 ?_
    refine zr_iload_n (x := l1) dX9_find_4 rfl rfl ?_
    refine zr_aload_n (v := .inl (some l0)) dX9_find_5 rfl rfl ?_
    revert hf; refine zbi (fun x1 e_x1 hf => ?_)
    refine zq_getR kg_57 dX9_find_6 e_x1 ?_
    revert hf; refine zbi (fun x2 e_x2 hf => ?_)
    refine zq_alen dX9_find_9 e_x2 ?_
    by_cases hc2 : x2 ≤ l1
    · rw [if_pos hc2] at hf
      refine zr_icge_t (tgt := 22) dX9_find_10 (by decide) hc2 ?_
      refine zr_null dX9_find_22 ?_
      cases hf
      exact zr_ret _ (Or.inl ⟨_, rfl⟩) dX9_find_23
    · rw [if_neg hc2] at hf
      refine zr_icge_f 22 dX9_find_10 (by decide) hc2 ?_
      refine zr_aload_n (v := .inl (some l0)) dX9_find_13 rfl rfl ?_
      revert hf; refine zbi (fun x3 e_x3 hf => ?_)
      refine zq_getR kg_57 dX9_find_14 e_x3 ?_
      refine zr_iload_n (x := l1) dX9_find_17 rfl rfl ?_
      revert hf; refine zbi (fun x4 e_x4 hf => ?_)
      refine zq_aald (t := 4) rfl dX9_find_18 e_x4 ?_
      refine zr_goto (tgt := 23) dX9_find_19 (by decide) ?_
      cases hf
      exact zr_ret _ (Or.inl ⟨_, rfl⟩) dX9_find_23
theorem c_X9_find {g : zG} (hg : g.2.1.map (fun q => q.2) = zty) {N : Nat} {l0 : Nat} {l1 : Int32} {h : zH} {r : Option Nat} (hf : f_X9_find N l0 l1 h = some r) : zCa g jX9_find [zr (some l0), zi l1] h (some (zr r)) h :=
  zCa.of hg (by decide +kernel) (Nat.le_of_ble_eq_true rfl) (s_X9_find hg N l0 l1 h r hf)
theorem dX3_init_0 : decode cX3_init 0 = .ok (.aload_n 0, 1) := by decide +kernel
theorem dX3_init_1 : decode cX3_init 1 = .ok (.invokespecial 3, 3) := by decide +kernel
theorem dX3_init_4 : decode cX3_init 4 = .ok (.aload_n 0, 1) := by decide +kernel
theorem dX3_init_5 : decode cX3_init 5 = .ok (.bipush 16, 2) := by decide +kernel
theorem dX3_init_7 : decode cX3_init 7 = .ok (.newarray .int, 2) := by decide +kernel
theorem dX3_init_9 : decode cX3_init 9 = .ok (.putfield 9, 3) := by decide +kernel
theorem dX3_init_12 : decode cX3_init 12 = .ok (.aload_n 0, 1) := by decide +kernel
theorem dX3_init_13 : decode cX3_init 13 = .ok (.bipush 16, 2) := by decide +kernel
theorem dX3_init_15 : decode cX3_init 15 = .ok (.newarray .int, 2) := by decide +kernel
theorem dX3_init_17 : decode cX3_init 17 = .ok (.putfield 15, 3) := by decide +kernel
theorem dX3_init_20 : decode cX3_init 20 = .ok (.aload_n 0, 1) := by decide +kernel
theorem dX3_init_21 : decode cX3_init 21 = .ok (.bipush 16, 2) := by decide +kernel
theorem dX3_init_23 : decode cX3_init 23 = .ok (.newarray .int, 2) := by decide +kernel
theorem dX3_init_25 : decode cX3_init 25 = .ok (.putfield 18, 3) := by decide +kernel
theorem dX3_init_28 : decode cX3_init 28 = .ok (.aload_n 0, 1) := by decide +kernel
theorem dX3_init_29 : decode cX3_init 29 = .ok (.iconst 0, 1) := by decide +kernel
theorem dX3_init_30 : decode cX3_init 30 = .ok (.putfield 21, 3) := by decide +kernel
theorem dX3_init_33 : decode cX3_init 33 = .ok (.aload_n 0, 1) := by decide +kernel
theorem dX3_init_34 : decode cX3_init 34 = .ok (.iconst 0, 1) := by decide +kernel
theorem dX3_init_35 : decode cX3_init 35 = .ok (.putfield 25, 3) := by decide +kernel
theorem dX3_init_38 : decode cX3_init 38 = .ok (.aload_n 0, 1) := by decide +kernel
theorem dX3_init_39 : decode cX3_init 39 = .ok (.iconst 0, 1) := by decide +kernel
theorem dX3_init_40 : decode cX3_init 40 = .ok (.iload_n 2, 1) := by decide +kernel
theorem dX3_init_41 : decode cX3_init 41 = .ok (.invokestatic 28, 3) := by decide +kernel
theorem dX3_init_44 : decode cX3_init 44 = .ok (.newarray .int, 2) := by decide +kernel
theorem dX3_init_46 : decode cX3_init 46 = .ok (.putfield 34, 3) := by decide +kernel
theorem dX3_init_49 : decode cX3_init 49 = .ok (.aload_n 0, 1) := by decide +kernel
theorem dX3_init_50 : decode cX3_init 50 = .ok (.iconst 0, 1) := by decide +kernel
theorem dX3_init_51 : decode cX3_init 51 = .ok (.iload_n 2, 1) := by decide +kernel
theorem dX3_init_52 : decode cX3_init 52 = .ok (.invokestatic 28, 3) := by decide +kernel
theorem dX3_init_55 : decode cX3_init 55 = .ok (.newarray .int, 2) := by decide +kernel
theorem dX3_init_57 : decode cX3_init 57 = .ok (.putfield 37, 3) := by decide +kernel
theorem dX3_init_60 : decode cX3_init 60 = .ok (.aload_n 0, 1) := by decide +kernel
theorem dX3_init_61 : decode cX3_init 61 = .ok (.getfield 34, 3) := by decide +kernel
theorem dX3_init_64 : decode cX3_init 64 = .ok (.iconst (-1), 1) := by decide +kernel
theorem dX3_init_65 : decode cX3_init 65 = .ok (.invokestatic 40, 3) := by decide +kernel
theorem dX3_init_68 : decode cX3_init 68 = .ok (.aload_n 0, 1) := by decide +kernel
theorem dX3_init_69 : decode cX3_init 69 = .ok (.getfield 37, 3) := by decide +kernel
theorem dX3_init_72 : decode cX3_init 72 = .ok (.iconst (-1), 1) := by decide +kernel
theorem dX3_init_73 : decode cX3_init 73 = .ok (.invokestatic 40, 3) := by decide +kernel
theorem dX3_init_76 : decode cX3_init 76 = .ok (.iconst 0, 1) := by decide +kernel
theorem dX3_init_77 : decode cX3_init 77 = .ok (.istore_n 3, 1) := by decide +kernel
theorem dX3_init_78 : decode cX3_init 78 = .ok (.iload_n 3, 1) := by decide +kernel
theorem dX3_init_79 : decode cX3_init 79 = .ok (.bipush 16, 2) := by decide +kernel
theorem dX3_init_81 : decode cX3_init 81 = .ok (.if_icmp .ge 55, 3) := by decide +kernel
theorem dX3_init_84 : decode cX3_init 84 = .ok (.aload_n 1, 1) := by decide +kernel
theorem dX3_init_85 : decode cX3_init 85 = .ok (.iload_n 3, 1) := by decide +kernel
theorem dX3_init_86 : decode cX3_init 86 = .ok (.invokevirtual 46, 3) := by decide +kernel
theorem dX3_init_89 : decode cX3_init 89 = .ok (.astore 4, 2) := by decide +kernel
theorem dX3_init_91 : decode cX3_init 91 = .ok (.aload 4, 2) := by decide +kernel
theorem dX3_init_93 : decode cX3_init 93 = .ok (.ifnull 37, 3) := by decide +kernel
theorem dX3_init_96 : decode cX3_init 96 = .ok (.aload_n 0, 1) := by decide +kernel
theorem dX3_init_97 : decode cX3_init 97 = .ok (.getfield 9, 3) := by decide +kernel
theorem dX3_init_100 : decode cX3_init 100 = .ok (.aload_n 0, 1) := by decide +kernel
theorem dX3_init_101 : decode cX3_init 101 = .ok (.getfield 21, 3) := by decide +kernel
theorem dX3_init_104 : decode cX3_init 104 = .ok (.iload_n 3, 1) := by decide +kernel
theorem dX3_init_105 : decode cX3_init 105 = .ok (.iastore, 1) := by decide +kernel
theorem dX3_init_106 : decode cX3_init 106 = .ok (.aload_n 0, 1) := by decide +kernel
theorem dX3_init_107 : decode cX3_init 107 = .ok (.getfield 15, 3) := by decide +kernel
theorem dX3_init_110 : decode cX3_init 110 = .ok (.aload_n 0, 1) := by decide +kernel
theorem dX3_init_111 : decode cX3_init 111 = .ok (.getfield 21, 3) := by decide +kernel
theorem dX3_init_114 : decode cX3_init 114 = .ok (.aload 4, 2) := by decide +kernel
theorem dX3_init_116 : decode cX3_init 116 = .ok (.getfield 52, 3) := by decide +kernel
theorem dX3_init_119 : decode cX3_init 119 = .ok (.iastore, 1) := by decide +kernel
theorem dX3_init_120 : decode cX3_init 120 = .ok (.aload_n 0, 1) := by decide +kernel
theorem dX3_init_121 : decode cX3_init 121 = .ok (.dup, 1) := by decide +kernel
theorem dX3_init_122 : decode cX3_init 122 = .ok (.getfield 21, 3) := by decide +kernel
theorem dX3_init_125 : decode cX3_init 125 = .ok (.iconst 1, 1) := by decide +kernel
theorem dX3_init_126 : decode cX3_init 126 = .ok (.iadd, 1) := by decide +kernel
theorem dX3_init_127 : decode cX3_init 127 = .ok (.putfield 21, 3) := by decide +kernel
theorem dX3_init_130 : decode cX3_init 130 = .ok (.iinc 3 1, 3) := by decide +kernel
theorem dX3_init_133 : decode cX3_init 133 = .ok (.goto (-55), 3) := by decide +kernel
theorem dX3_init_136 : decode cX3_init 136 = .ok (.return_, 1) := by decide +kernel
def f_X3_init_78 (N : Nat) : Nat → Nat → Option Nat → Int32 → zH → Option zH
  | 0, _, _, _, _ => none
  | n + 1, l0, l1, l3, h => if (16 : Int32) ≤ l3 then some h else (zck h 9 l1).bind fun q1 => (f_X9_find N q1 l3 h).bind fun x1 => if x1 = none then f_X3_init_78 N n l0 l1 (l3 + (1 : Int32)) h else (zgR h 3 (some l0) 0).bind fun x2 => (zgI h 3 (some l0) 3).bind fun x3 => (zst h 0 x2 x3 l3).bind fun h1 => (zgR h1 3 (some l0) 1).bind fun x4 => (zgI h1 3 (some l0) 3).bind fun x5 => (zgI h1 0 x1 0).bind fun x6 => (zst h1 0 x4 x5 x6).bind fun h2 => (zgI h2 3 (some l0) 3).bind fun x7 => (zpu h2 3 (some l0) 3 (zi (x7 + (1 : Int32)))).bind fun h3 => f_X3_init_78 N n l0 l1 (l3 + (1 : Int32)) h3
set_option maxHeartbeats 4000000 in
set_option maxRecDepth 100000 in
theorem s_X3_init_78 {g : zG} (hg : g.2.1.map (fun q => q.2) = zty) {h0 : zH} (N : Nat) : ∀ (n : Nat) (l0 : Nat) (l1 : Option Nat) (l3 : Int32) (h : zH) (h' : zH), f_X3_init_78 N n l0 l1 l3 h = some h' → zR g jX3_init h0 78 [some (zr (some l0)), some (zr l1), none, some (zi l3), none] [] h none h' := by
  intro n
  induction n with
  | zero =>
    intro l0 l1 l3 h h' hf
    cases hf
  | succ n ih =>
    intro l0 l1 l3 h h' hf
    rw [f_X3_init_78] at hf
    refine zr_iload_n (x := l3) dX3_init_78 rfl rfl ?_
    refine zr_bipush (v := (16 : Int32)) dX3_init_79 (by decide) ?_
    by_cases hc1 : (16 : Int32) ≤ l3
    · rw [if_pos hc1] at hf
      refine zr_icge_t (tgt := 136) dX3_init_81 (by decide) hc1 ?_
      cases hf
      exact zr_ret none trivial dX3_init_136
    · rw [if_neg hc1] at hf
      refine zr_icge_f 136 dX3_init_81 (by decide) hc1 ?_
      refine zr_aload_n (v := .inl l1) dX3_init_84 rfl rfl ?_
      refine zr_iload_n (x := l3) dX3_init_85 rfl rfl ?_
      revert hf; refine zbi (fun q1 e_q1 hf => ?_)
      revert hf; refine zbi (fun x1 e_x1 hf => ?_)
      refine zq_callV (J' := jX9_find) (as := [zi l3]) (rest := []) (r1 := (some (zr x1))) (q := (RX9, TX9, 5)) kw_95 km_X9_find kt_59 dX3_init_86 rfl (Nat.le_of_ble_eq_true rfl) rfl rfl e_q1 rfl (c_X9_find hg e_x1) ?_
      refine zq_astore (v := .inl x1) (L' := [some (zr (some l0)), some (zr l1), none, some (zi l3), some (zr x1)]) dX3_init_89 (by decide) rfl ?_
      refine zr_aload (v := .inl x1) dX3_init_91 rfl ?_
      by_cases hc2 : x1 = none
      · rw [if_pos hc2] at hf
        refine zr_ifnull_t (tgt := 130) dX3_init_93 (by decide) hc2 ?_
        refine zq_iinc (x := l3) (y := (1 : Int32)) (L' := [some (zr (some l0)), some (zr l1), none, some (zi (l3 + (1 : Int32))), some (zr x1)]) dX3_init_130 rfl (by decide) (by decide) rfl ?_
        refine zr_goto (tgt := 78) dX3_init_133 (by decide) ?_
        refine zr_forget 4 (L' := [some (zr (some l0)), some (zr l1), none, some (zi (l3 + (1 : Int32))), none]) rfl ?_
        exact ih l0 l1 (l3 + (1 : Int32)) h h' hf
      · rw [if_neg hc2] at hf
        refine zr_ifnull_f dX3_init_93 hc2 ?_
        refine zr_aload_n (v := .inl (some l0)) dX3_init_96 rfl rfl ?_
        revert hf; refine zbi (fun x2 e_x2 hf => ?_)
        refine zq_getR kg_60 dX3_init_97 e_x2 ?_
        refine zr_aload_n (v := .inl (some l0)) dX3_init_100 rfl rfl ?_
        revert hf; refine zbi (fun x3 e_x3 hf => ?_)
        refine zq_getI kg_61 dX3_init_101 e_x3 ?_
        refine zr_iload_n (x := l3) dX3_init_104 rfl rfl ?_
        revert hf; refine zbi (fun h1 e_h1 hf => ?_)
        refine zq_iast dX3_init_105 e_h1 ?_
        refine zr_aload_n (v := .inl (some l0)) dX3_init_106 rfl rfl ?_
        revert hf; refine zbi (fun x4 e_x4 hf => ?_)
        refine zq_getR kg_62 dX3_init_107 e_x4 ?_
        refine zr_aload_n (v := .inl (some l0)) dX3_init_110 rfl rfl ?_
        revert hf; refine zbi (fun x5 e_x5 hf => ?_)
        refine zq_getI kg_61 dX3_init_111 e_x5 ?_
        refine zr_aload (v := .inl x1) dX3_init_114 rfl ?_
        revert hf; refine zbi (fun x6 e_x6 hf => ?_)
        refine zq_getI kg_63 dX3_init_116 e_x6 ?_
        revert hf; refine zbi (fun h2 e_h2 hf => ?_)
        refine zq_iast dX3_init_119 e_h2 ?_
        refine zr_aload_n (v := .inl (some l0)) dX3_init_120 rfl rfl ?_
        refine zr_dup dX3_init_121 ?_
        revert hf; refine zbi (fun x7 e_x7 hf => ?_)
        refine zq_getI kg_61 dX3_init_122 e_x7 ?_
        refine zr_iconst (v := (1 : Int32)) dX3_init_125 (by decide) ?_
        refine zr_iadd dX3_init_126 ?_
        revert hf; refine zbi (fun h3 e_h3 hf => ?_)
        refine zq_put (kp_64 _) dX3_init_127 (zn_i _) e_h3 ?_
        refine zq_iinc (x := l3) (y := (1 : Int32)) (L' := [some (zr (some l0)), some (zr l1), none, some (zi (l3 + (1 : Int32))), some (zr x1)]) dX3_init_130 rfl (by decide) (by decide) rfl ?_
        refine zr_goto (tgt := 78) dX3_init_133 (by decide) ?_
        refine zr_forget 4 (L' := [some (zr (some l0)), some (zr l1), none, some (zi (l3 + (1 : Int32))), none]) rfl ?_
        exact ih l0 l1 (l3 + (1 : Int32)) h3 h' hf
def f_X3_init (N : Nat) (l0 : Nat) (l1 : Option Nat) (l2 : Int32) (h : zH) : Option zH := zna h 0 (16 : Int32) fun a1 h1 => (zpu h1 3 (some l0) 0 (zr (some a1))).bind fun h2 => zna h2 0 (16 : Int32) fun a2 h3 => (zpu h3 3 (some l0) 1 (zr (some a2))).bind fun h4 => zna h4 0 (16 : Int32) fun a3 h5 => (zpu h5 3 (some l0) 2 (zr (some a3))).bind fun h6 => (zpu h6 3 (some l0) 3 (zi (0 : Int32))).bind fun h7 => (zpu h7 3 (some l0) 6 (zi (0 : Int32))).bind fun h8 => zna h8 0 (if (0 : Int32) < l2 then l2 else (0 : Int32)) fun a4 h9 => (zpu h9 3 (some l0) 4 (zr (some a4))).bind fun h10 => zna h10 0 (if (0 : Int32) < l2 then l2 else (0 : Int32)) fun a5 h11 => (zpu h11 3 (some l0) 5 (zr (some a5))).bind fun h12 => (zgR h12 3 (some l0) 4).bind fun x1 => (f_J7_fill_53178 N x1 ((-1) : Int32) h12).bind fun h13 => (zgR h13 3 (some l0) 5).bind fun x2 => (f_J7_fill_53178 N x2 ((-1) : Int32) h13).bind fun h14 => f_X3_init_78 N N l0 l1 (0 : Int32) h14
set_option maxHeartbeats 4000000 in
set_option maxRecDepth 100000 in
theorem s_X3_init {g : zG} (hg : g.2.1.map (fun q => q.2) = zty) {h0 : zH} (N : Nat) (l0 : Nat) (l1 : Option Nat) (l2 : Int32) (h : zH) (h' : zH) (hf : f_X3_init N l0 l1 l2 h = some h') : zR g jX3_init h0 0 [some (zr (some l0)), some (zr l1), some (zi l2), none, none] [] h none h' := by
  unfold f_X3_init at hf
  refine zr_aload_n (v := .inl (some l0)) dX3_init_0 rfl rfl ?_
  refine zr_objInit kw_104 kw_1 kw_2 ⟨Nat.le_of_ble_eq_true rfl, Nat.le_of_ble_eq_true rfl⟩ dX3_init_1 ?_
  refine zr_aload_n (v := .inl (some l0)) dX3_init_4 rfl rfl ?_
  refine zr_bipush (v := (16 : Int32)) dX3_init_5 (by decide) ?_
  obtain ⟨a1, h1, e_a1, hf⟩ := zna_spec hf
  refine zq_newa (atype := .int) (t := 0) kw_14 rfl (fun _ _ => rfl) (by decide) dX3_init_7 e_a1 ?_
  revert hf; refine zbi (fun h2 e_h2 hf => ?_)
  refine zq_put kp_65 dX3_init_9 (zn_a _ _) e_h2 ?_
  refine zr_aload_n (v := .inl (some l0)) dX3_init_12 rfl rfl ?_
  refine zr_bipush (v := (16 : Int32)) dX3_init_13 (by decide) ?_
  obtain ⟨a2, h3, e_a2, hf⟩ := zna_spec hf
  refine zq_newa (atype := .int) (t := 0) kw_14 rfl (fun _ _ => rfl) (by decide) dX3_init_15 e_a2 ?_
  revert hf; refine zbi (fun h4 e_h4 hf => ?_)
  refine zq_put kp_66 dX3_init_17 (zn_a _ _) e_h4 ?_
  refine zr_aload_n (v := .inl (some l0)) dX3_init_20 rfl rfl ?_
  refine zr_bipush (v := (16 : Int32)) dX3_init_21 (by decide) ?_
  obtain ⟨a3, h5, e_a3, hf⟩ := zna_spec hf
  refine zq_newa (atype := .int) (t := 0) kw_14 rfl (fun _ _ => rfl) (by decide) dX3_init_23 e_a3 ?_
  revert hf; refine zbi (fun h6 e_h6 hf => ?_)
  refine zq_put kp_67 dX3_init_25 (zn_a _ _) e_h6 ?_
  refine zr_aload_n (v := .inl (some l0)) dX3_init_28 rfl rfl ?_
  refine zr_iconst (v := (0 : Int32)) dX3_init_29 (by decide) ?_
  revert hf; refine zbi (fun h7 e_h7 hf => ?_)
  refine zq_put (kp_64 _) dX3_init_30 (zn_i _) e_h7 ?_
  refine zr_aload_n (v := .inl (some l0)) dX3_init_33 rfl rfl ?_
  refine zr_iconst (v := (0 : Int32)) dX3_init_34 (by decide) ?_
  revert hf; refine zbi (fun h8 e_h8 hf => ?_)
  refine zq_put (kp_68 _) dX3_init_35 (zn_i _) e_h8 ?_
  refine zr_aload_n (v := .inl (some l0)) dX3_init_38 rfl rfl ?_
  refine zr_iconst (v := (0 : Int32)) dX3_init_39 (by decide) ?_
  refine zr_iload_n (x := l2) dX3_init_40 rfl rfl ?_
  refine zr_mmax kw_107 kw_108 kw_25 kw_109 ⟨Nat.le_of_ble_eq_true rfl, Nat.le_of_ble_eq_true rfl⟩ dX3_init_41 ?_
  obtain ⟨a4, h9, e_a4, hf⟩ := zna_spec hf
  refine zq_newa (atype := .int) (t := 0) kw_14 rfl (fun _ _ => rfl) (by decide) dX3_init_44 e_a4 ?_
  revert hf; refine zbi (fun h10 e_h10 hf => ?_)
  refine zq_put kp_69 dX3_init_46 (zn_a _ _) e_h10 ?_
  refine zr_aload_n (v := .inl (some l0)) dX3_init_49 rfl rfl ?_
  refine zr_iconst (v := (0 : Int32)) dX3_init_50 (by decide) ?_
  refine zr_iload_n (x := l2) dX3_init_51 rfl rfl ?_
  refine zr_mmax kw_107 kw_108 kw_25 kw_109 ⟨Nat.le_of_ble_eq_true rfl, Nat.le_of_ble_eq_true rfl⟩ dX3_init_52 ?_
  obtain ⟨a5, h11, e_a5, hf⟩ := zna_spec hf
  refine zq_newa (atype := .int) (t := 0) kw_14 rfl (fun _ _ => rfl) (by decide) dX3_init_55 e_a5 ?_
  revert hf; refine zbi (fun h12 e_h12 hf => ?_)
  refine zq_put kp_70 dX3_init_57 (zn_a _ _) e_h12 ?_
  refine zr_aload_n (v := .inl (some l0)) dX3_init_60 rfl rfl ?_
  revert hf; refine zbi (fun x1 e_x1 hf => ?_)
  refine zq_getR kg_71 dX3_init_61 e_x1 ?_
  refine zr_iconst (v := ((-1) : Int32)) dX3_init_64 (by decide) ?_
  revert hf; refine zbi (fun h13 e_h13 hf => ?_)
  refine zq_callS (J' := jJ7_fill_53178) (as := [zr x1, zi ((-1) : Int32)]) (rest := []) (r1 := none) kw_112 km_J7_fill_53178 kt_72 dX3_init_65 rfl (Nat.le_of_ble_eq_true rfl) rfl (c_J7_fill_53178 hg e_h13) ?_
  refine zr_aload_n (v := .inl (some l0)) dX3_init_68 rfl rfl ?_
  revert hf; refine zbi (fun x2 e_x2 hf => ?_)
  refine zq_getR kg_73 dX3_init_69 e_x2 ?_
  refine zr_iconst (v := ((-1) : Int32)) dX3_init_72 (by decide) ?_
  revert hf; refine zbi (fun h14 e_h14 hf => ?_)
  refine zq_callS (J' := jJ7_fill_53178) (as := [zr x2, zi ((-1) : Int32)]) (rest := []) (r1 := none) kw_112 km_J7_fill_53178 kt_72 dX3_init_73 rfl (Nat.le_of_ble_eq_true rfl) rfl (c_J7_fill_53178 hg e_h14) ?_
  refine zr_iconst (v := (0 : Int32)) dX3_init_76 (by decide) ?_
  refine zq_istore_n (x := (0 : Int32)) (L' := [some (zr (some l0)), some (zr l1), some (zi l2), some (zi (0 : Int32)), none]) dX3_init_77 rfl (by decide) rfl ?_
  refine zr_forget 2 (L' := [some (zr (some l0)), some (zr l1), none, some (zi (0 : Int32)), none]) rfl ?_
  exact s_X3_init_78 hg N N l0 l1 (0 : Int32) h14 h' hf
theorem c_X3_init {g : zG} (hg : g.2.1.map (fun q => q.2) = zty) {N : Nat} {l0 : Nat} {l1 : Option Nat} {l2 : Int32} {h : zH} {h' : zH} (hf : f_X3_init N l0 l1 l2 h = some h') : zCa g jX3_init [zr (some l0), zr l1, zi l2] h none h' :=
  zCa.of hg (by decide +kernel) (Nat.le_of_ble_eq_true rfl) (s_X3_init hg N l0 l1 l2 h h' hf)
theorem dX3_clubOn_0 : decode cX3_clubOn 0 = .ok (.iload_n 1, 1) := by decide +kernel
theorem dX3_clubOn_1 : decode cX3_clubOn 1 = .ok (.ifCond .lt 21, 3) := by decide +kernel
theorem dX3_clubOn_4 : decode cX3_clubOn 4 = .ok (.iload_n 1, 1) := by decide +kernel
theorem dX3_clubOn_5 : decode cX3_clubOn 5 = .ok (.aload_n 0, 1) := by decide +kernel
theorem dX3_clubOn_6 : decode cX3_clubOn 6 = .ok (.getfield 37, 3) := by decide +kernel
theorem dX3_clubOn_9 : decode cX3_clubOn 9 = .ok (.arraylength, 1) := by decide +kernel
theorem dX3_clubOn_10 : decode cX3_clubOn 10 = .ok (.if_icmp .ge 12, 3) := by decide +kernel
theorem dX3_clubOn_13 : decode cX3_clubOn 13 = .ok (.aload_n 0, 1) := by decide +kernel
theorem dX3_clubOn_14 : decode cX3_clubOn 14 = .ok (.getfield 37, 3) := by decide +kernel
theorem dX3_clubOn_17 : decode cX3_clubOn 17 = .ok (.iload_n 1, 1) := by decide +kernel
theorem dX3_clubOn_18 : decode cX3_clubOn 18 = .ok (.iaload, 1) := by decide +kernel
theorem dX3_clubOn_19 : decode cX3_clubOn 19 = .ok (.goto 4, 3) := by decide +kernel
theorem dX3_clubOn_22 : decode cX3_clubOn 22 = .ok (.iconst (-1), 1) := by decide +kernel
theorem dX3_clubOn_23 : decode cX3_clubOn 23 = .ok (.ireturn, 1) := by decide +kernel
def f_X3_clubOn (N : Nat) (l0 : Nat) (l1 : Int32) (h : zH) : Option Int32 := if l1 < 0 then some ((-1) : Int32) else (zgR h 3 (some l0) 5).bind fun x1 => (zlen h x1).bind fun x2 => if x2 ≤ l1 then some ((-1) : Int32) else (zgR h 3 (some l0) 5).bind fun x3 => (zld h 0 x3 l1).bind fun x4 => some x4
set_option maxHeartbeats 4000000 in
set_option maxRecDepth 100000 in
theorem s_X3_clubOn {g : zG} (hg : g.2.1.map (fun q => q.2) = zty) {h0 : zH} (N : Nat) (l0 : Nat) (l1 : Int32) (h : zH) (r : Int32) (hf : f_X3_clubOn N l0 l1 h = some r) : zR g jX3_clubOn h0 0 [some (zr (some l0)), some (zi l1)] [] h (some (zi r)) h := by
  unfold f_X3_clubOn at hf
  refine zr_iload_n (x := l1) dX3_clubOn_0 rfl rfl ?_
  by_cases hc1 : l1 < 0
  · rw [if_pos hc1] at hf
    refine zr_iflt_t (tgt := 22) dX3_clubOn_1 (by decide) hc1 ?_
    refine zr_iconst (v := ((-1) : Int32)) dX3_clubOn_22 (by decide) ?_
    cases hf
    exact zr_ret _ rfl dX3_clubOn_23
  · rw [if_neg hc1] at hf
    refine zr_iflt_f 22 dX3_clubOn_1 (by decide) hc1 ?_
    refine zr_iload_n (x := l1) dX3_clubOn_4 rfl rfl ?_
    refine zr_aload_n (v := .inl (some l0)) dX3_clubOn_5 rfl rfl ?_
    revert hf; refine zbi (fun x1 e_x1 hf => ?_)
    refine zq_getR kg_73 dX3_clubOn_6 e_x1 ?_
    revert hf; refine zbi (fun x2 e_x2 hf => ?_)
    refine zq_alen dX3_clubOn_9 e_x2 ?_
    by_cases hc2 : x2 ≤ l1
    · rw [if_pos hc2] at hf
      refine zr_icge_t (tgt := 22) dX3_clubOn_10 (by decide) hc2 ?_
      refine zr_iconst (v := ((-1) : Int32)) dX3_clubOn_22 (by decide) ?_
      cases hf
      exact zr_ret _ rfl dX3_clubOn_23
    · rw [if_neg hc2] at hf
      refine zr_icge_f 22 dX3_clubOn_10 (by decide) hc2 ?_
      refine zr_aload_n (v := .inl (some l0)) dX3_clubOn_13 rfl rfl ?_
      revert hf; refine zbi (fun x3 e_x3 hf => ?_)
      refine zq_getR kg_73 dX3_clubOn_14 e_x3 ?_
      refine zr_iload_n (x := l1) dX3_clubOn_17 rfl rfl ?_
      revert hf; refine zbi (fun x4 e_x4 hf => ?_)
      refine zq_iald dX3_clubOn_18 e_x4 ?_
      refine zr_goto (tgt := 23) dX3_clubOn_19 (by decide) ?_
      cases hf
      exact zr_ret _ rfl dX3_clubOn_23
theorem c_X3_clubOn {g : zG} (hg : g.2.1.map (fun q => q.2) = zty) {N : Nat} {l0 : Nat} {l1 : Int32} {h : zH} {r : Int32} (hf : f_X3_clubOn N l0 l1 h = some r) : zCa g jX3_clubOn [zr (some l0), zi l1] h (some (zi r)) h :=
  zCa.of hg (by decide +kernel) (Nat.le_of_ble_eq_true rfl) (s_X3_clubOn hg N l0 l1 h r hf)
theorem dX3_isParted_0 : decode cX3_isParted 0 = .ok (.aload_n 0, 1) := by decide +kernel
theorem dX3_isParted_1 : decode cX3_isParted 1 = .ok (.iload_n 2, 1) := by decide +kernel
theorem dX3_isParted_2 : decode cX3_isParted 2 = .ok (.iconst 1, 1) := by decide +kernel
theorem dX3_isParted_3 : decode cX3_isParted 3 = .ok (.ixor, 1) := by decide +kernel
theorem dX3_isParted_4 : decode cX3_isParted 4 = .ok (.invokevirtual 73, 3) := by decide +kernel
theorem dX3_isParted_7 : decode cX3_isParted 7 = .ok (.iload_n 1, 1) := by decide +kernel
theorem dX3_isParted_8 : decode cX3_isParted 8 = .ok (.if_icmp .eq 29, 3) := by decide +kernel
theorem dX3_isParted_11 : decode cX3_isParted 11 = .ok (.aload_n 0, 1) := by decide +kernel
theorem dX3_isParted_12 : decode cX3_isParted 12 = .ok (.iload_n 2, 1) := by decide +kernel
theorem dX3_isParted_13 : decode cX3_isParted 13 = .ok (.iconst 2, 1) := by decide +kernel
theorem dX3_isParted_14 : decode cX3_isParted 14 = .ok (.isub, 1) := by decide +kernel
theorem dX3_isParted_15 : decode cX3_isParted 15 = .ok (.invokevirtual 73, 3) := by decide +kernel
theorem dX3_isParted_18 : decode cX3_isParted 18 = .ok (.iload_n 1, 1) := by decide +kernel
theorem dX3_isParted_19 : decode cX3_isParted 19 = .ok (.if_icmp .eq 18, 3) := by decide +kernel
theorem dX3_isParted_22 : decode cX3_isParted 22 = .ok (.aload_n 0, 1) := by decide +kernel
theorem dX3_isParted_23 : decode cX3_isParted 23 = .ok (.iload_n 2, 1) := by decide +kernel
theorem dX3_isParted_24 : decode cX3_isParted 24 = .ok (.iconst 2, 1) := by decide +kernel
theorem dX3_isParted_25 : decode cX3_isParted 25 = .ok (.iadd, 1) := by decide +kernel
theorem dX3_isParted_26 : decode cX3_isParted 26 = .ok (.invokevirtual 73, 3) := by decide +kernel
theorem dX3_isParted_29 : decode cX3_isParted 29 = .ok (.iload_n 1, 1) := by decide +kernel
theorem dX3_isParted_30 : decode cX3_isParted 30 = .ok (.if_icmp .eq 7, 3) := by decide +kernel
theorem dX3_isParted_33 : decode cX3_isParted 33 = .ok (.iconst 1, 1) := by decide +kernel
theorem dX3_isParted_34 : decode cX3_isParted 34 = .ok (.goto 4, 3) := by decide +kernel
theorem dX3_isParted_37 : decode cX3_isParted 37 = .ok (.iconst 0, 1) := by decide +kernel
theorem dX3_isParted_38 : decode cX3_isParted 38 = .ok (.ireturn, 1) := by decide +kernel
def f_X3_isParted (N : Nat) (l0 : Nat) (l1 : Int32) (l2 : Int32) (h : zH) : Option Int32 := (zck h 3 (some l0)).bind fun q1 => (f_X3_clubOn N q1 (l2 ^^^ (1 : Int32)) h).bind fun x1 => if x1 = l1 then some (0 : Int32) else (zck h 3 (some l0)).bind fun q2 => (f_X3_clubOn N q2 (l2 - (2 : Int32)) h).bind fun x2 => if x2 = l1 then some (0 : Int32) else (zck h 3 (some l0)).bind fun q3 => (f_X3_clubOn N q3 (l2 + (2 : Int32)) h).bind fun x3 => if x3 = l1 then some (0 : Int32) else some (1 : Int32)
set_option maxHeartbeats 4000000 in
set_option maxRecDepth 100000 in
theorem s_X3_isParted {g : zG} (hg : g.2.1.map (fun q => q.2) = zty) {h0 : zH} (N : Nat) (l0 : Nat) (l1 : Int32) (l2 : Int32) (h : zH) (r : Int32) (hf : f_X3_isParted N l0 l1 l2 h = some r) : zR g jX3_isParted h0 0 [some (zr (some l0)), some (zi l1), some (zi l2)] [] h (some (zi r)) h := by
  unfold f_X3_isParted at hf
  refine zr_aload_n (v := .inl (some l0)) dX3_isParted_0 rfl rfl ?_
  refine zr_iload_n (x := l2) dX3_isParted_1 rfl rfl ?_
  refine zr_iconst (v := (1 : Int32)) dX3_isParted_2 (by decide) ?_
  refine zr_ixor dX3_isParted_3 ?_
  revert hf; refine zbi (fun q1 e_q1 hf => ?_)
  revert hf; refine zbi (fun x1 e_x1 hf => ?_)
  refine zq_callV (J' := jX3_clubOn) (as := [zi (l2 ^^^ (1 : Int32))]) (rest := []) (r1 := (some (zi x1))) (q := (RX3, TX3, 7)) kw_113 km_X3_clubOn kt_75 dX3_isParted_4 rfl (Nat.le_of_ble_eq_true rfl) rfl rfl e_q1 rfl (c_X3_clubOn hg e_x1) ?_
  refine zr_iload_n (x := l1) dX3_isParted_7 rfl rfl ?_
  by_cases hc1 : x1 = l1
  · rw [if_pos hc1] at hf
    refine zr_iceq_t (tgt := 37) dX3_isParted_8 (by decide) hc1 ?_
    refine zr_iconst (v := (0 : Int32)) dX3_isParted_37 (by decide) ?_
    cases hf
    exact zr_ret _ rfl dX3_isParted_38
  · rw [if_neg hc1] at hf
    refine zr_iceq_f 37 dX3_isParted_8 (by decide) hc1 ?_
    refine zr_aload_n (v := .inl (some l0)) dX3_isParted_11 rfl rfl ?_
    refine zr_iload_n (x := l2) dX3_isParted_12 rfl rfl ?_
    refine zr_iconst (v := (2 : Int32)) dX3_isParted_13 (by decide) ?_
    refine zr_isub dX3_isParted_14 ?_
    revert hf; refine zbi (fun q2 e_q2 hf => ?_)
    revert hf; refine zbi (fun x2 e_x2 hf => ?_)
    refine zq_callV (J' := jX3_clubOn) (as := [zi (l2 - (2 : Int32))]) (rest := []) (r1 := (some (zi x2))) (q := (RX3, TX3, 7)) kw_113 km_X3_clubOn kt_75 dX3_isParted_15 rfl (Nat.le_of_ble_eq_true rfl) rfl rfl e_q2 rfl (c_X3_clubOn hg e_x2) ?_
    refine zr_iload_n (x := l1) dX3_isParted_18 rfl rfl ?_
    by_cases hc2 : x2 = l1
    · rw [if_pos hc2] at hf
      refine zr_iceq_t (tgt := 37) dX3_isParted_19 (by decide) hc2 ?_
      refine zr_iconst (v := (0 : Int32)) dX3_isParted_37 (by decide) ?_
      cases hf
      exact zr_ret _ rfl dX3_isParted_38
    · rw [if_neg hc2] at hf
      refine zr_iceq_f 37 dX3_isParted_19 (by decide) hc2 ?_
      refine zr_aload_n (v := .inl (some l0)) dX3_isParted_22 rfl rfl ?_
      refine zr_iload_n (x := l2) dX3_isParted_23 rfl rfl ?_
      refine zr_iconst (v := (2 : Int32)) dX3_isParted_24 (by decide) ?_
      refine zr_iadd dX3_isParted_25 ?_
      revert hf; refine zbi (fun q3 e_q3 hf => ?_)
      revert hf; refine zbi (fun x3 e_x3 hf => ?_)
      refine zq_callV (J' := jX3_clubOn) (as := [zi (l2 + (2 : Int32))]) (rest := []) (r1 := (some (zi x3))) (q := (RX3, TX3, 7)) kw_113 km_X3_clubOn kt_75 dX3_isParted_26 rfl (Nat.le_of_ble_eq_true rfl) rfl rfl e_q3 rfl (c_X3_clubOn hg e_x3) ?_
      refine zr_iload_n (x := l1) dX3_isParted_29 rfl rfl ?_
      by_cases hc3 : x3 = l1
      · rw [if_pos hc3] at hf
        refine zr_iceq_t (tgt := 37) dX3_isParted_30 (by decide) hc3 ?_
        refine zr_iconst (v := (0 : Int32)) dX3_isParted_37 (by decide) ?_
        cases hf
        exact zr_ret _ rfl dX3_isParted_38
      · rw [if_neg hc3] at hf
        refine zr_iceq_f 37 dX3_isParted_30 (by decide) hc3 ?_
        refine zr_iconst (v := (1 : Int32)) dX3_isParted_33 (by decide) ?_
        refine zr_goto (tgt := 38) dX3_isParted_34 (by decide) ?_
        cases hf
        exact zr_ret _ rfl dX3_isParted_38
theorem c_X3_isParted {g : zG} (hg : g.2.1.map (fun q => q.2) = zty) {N : Nat} {l0 : Nat} {l1 : Int32} {l2 : Int32} {h : zH} {r : Int32} (hf : f_X3_isParted N l0 l1 l2 h = some r) : zCa g jX3_isParted [zr (some l0), zi l1, zi l2] h (some (zi r)) h :=
  zCa.of hg (by decide +kernel) (Nat.le_of_ble_eq_true rfl) (s_X3_isParted hg N l0 l1 l2 h r hf)
theorem dX3_nextPlace_0 : decode cX3_nextPlace 0 = .ok (.iload_n 2, 1) := by decide +kernel
theorem dX3_nextPlace_1 : decode cX3_nextPlace 1 = .ok (.istore_n 3, 1) := by decide +kernel
theorem dX3_nextPlace_2 : decode cX3_nextPlace 2 = .ok (.iload_n 3, 1) := by decide +kernel
theorem dX3_nextPlace_3 : decode cX3_nextPlace 3 = .ok (.aload_n 0, 1) := by decide +kernel
theorem dX3_nextPlace_4 : decode cX3_nextPlace 4 = .ok (.getfield 34, 3) := by decide +kernel
theorem dX3_nextPlace_7 : decode cX3_nextPlace 7 = .ok (.arraylength, 1) := by decide +kernel
theorem dX3_nextPlace_8 : decode cX3_nextPlace 8 = .ok (.if_icmp .ge 50, 3) := by decide +kernel
theorem dX3_nextPlace_11 : decode cX3_nextPlace 11 = .ok (.aload_n 0, 1) := by decide +kernel
theorem dX3_nextPlace_12 : decode cX3_nextPlace 12 = .ok (.getfield 34, 3) := by decide +kernel
theorem dX3_nextPlace_15 : decode cX3_nextPlace 15 = .ok (.iload_n 3, 1) := by decide +kernel
theorem dX3_nextPlace_16 : decode cX3_nextPlace 16 = .ok (.iaload, 1) := by decide +kernel
theorem dX3_nextPlace_17 : decode cX3_nextPlace 17 = .ok (.iconst (-1), 1) := by decide +kernel
theorem dX3_nextPlace_18 : decode cX3_nextPlace 18 = .ok (.if_icmp .ne 34, 3) := by decide +kernel
theorem dX3_nextPlace_21 : decode cX3_nextPlace 21 = .ok (.aload_n 0, 1) := by decide +kernel
theorem dX3_nextPlace_22 : decode cX3_nextPlace 22 = .ok (.dup, 1) := by decide +kernel
theorem dX3_nextPlace_23 : decode cX3_nextPlace 23 = .ok (.getfield 25, 3) := by decide +kernel
theorem dX3_nextPlace_26 : decode cX3_nextPlace 26 = .ok (.iconst 1, 1) := by decide +kernel
theorem dX3_nextPlace_27 : decode cX3_nextPlace 27 = .ok (.iadd, 1) := by decide +kernel
theorem dX3_nextPlace_28 : decode cX3_nextPlace 28 = .ok (.putfield 25, 3) := by decide +kernel
theorem dX3_nextPlace_31 : decode cX3_nextPlace 31 = .ok (.aload_n 0, 1) := by decide +kernel
theorem dX3_nextPlace_32 : decode cX3_nextPlace 32 = .ok (.getfield 25, 3) := by decide +kernel
theorem dX3_nextPlace_35 : decode cX3_nextPlace 35 = .ok (.sipush 20000, 3) := by decide +kernel
theorem dX3_nextPlace_38 : decode cX3_nextPlace 38 = .ok (.if_icmp .gt 12, 3) := by decide +kernel
theorem dX3_nextPlace_41 : decode cX3_nextPlace 41 = .ok (.aload_n 0, 1) := by decide +kernel
theorem dX3_nextPlace_42 : decode cX3_nextPlace 42 = .ok (.iload_n 1, 1) := by decide +kernel
theorem dX3_nextPlace_43 : decode cX3_nextPlace 43 = .ok (.iload_n 3, 1) := by decide +kernel
theorem dX3_nextPlace_44 : decode cX3_nextPlace 44 = .ok (.invokevirtual 69, 3) := by decide +kernel
theorem dX3_nextPlace_47 : decode cX3_nextPlace 47 = .ok (.ifCond .eq 5, 3) := by decide +kernel
theorem dX3_nextPlace_50 : decode cX3_nextPlace 50 = .ok (.iload_n 3, 1) := by decide +kernel
theorem dX3_nextPlace_51 : decode cX3_nextPlace 51 = .ok (.ireturn, 1) := by decide +kernel
theorem dX3_nextPlace_52 : decode cX3_nextPlace 52 = .ok (.iinc 3 1, 3) := by decide +kernel
theorem dX3_nextPlace_55 : decode cX3_nextPlace 55 = .ok (.goto (-53), 3) := by decide +kernel
theorem dX3_nextPlace_58 : decode cX3_nextPlace 58 = .ok (.aload_n 0, 1) := by decide +kernel
theorem dX3_nextPlace_59 : decode cX3_nextPlace 59 = .ok (.getfield 34, 3) := by decide +kernel
theorem dX3_nextPlace_62 : decode cX3_nextPlace 62 = .ok (.arraylength, 1) := by decide +kernel
theorem dX3_nextPlace_63 : decode cX3_nextPlace 63 = .ok (.ireturn, 1) := by decide +kernel
def f_X3_nextPlace_2 (N : Nat) : Nat → Nat → Int32 → Int32 → zH → Option (Int32 × zH)
  | 0, _, _, _, _ => none
  | n + 1, l0, l1, l3, h => (zgR h 3 (some l0) 4).bind fun x1 => (zlen h x1).bind fun x2 => if x2 ≤ l3 then (zgR h 3 (some l0) 4).bind fun x3 => (zlen h x3).bind fun x4 => some (x4, h) else (zgR h 3 (some l0) 4).bind fun x5 => (zld h 0 x5 l3).bind fun x6 => if x6 = ((-1) : Int32) then (zgI h 3 (some l0) 6).bind fun x7 => (zpu h 3 (some l0) 6 (zi (x7 + (1 : Int32)))).bind fun h1 => (zgI h1 3 (some l0) 6).bind fun x8 => if (20000 : Int32) < x8 then some (l3, h1) else (zck h1 3 (some l0)).bind fun q1 => (f_X3_isParted N q1 l1 l3 h1).bind fun x9 => if x9 = 0 then f_X3_nextPlace_2 N n l0 l1 (l3 + (1 : Int32)) h1 else some (l3, h1) else f_X3_nextPlace_2 N n l0 l1 (l3 + (1 : Int32)) h
set_option maxHeartbeats 4000000 in
set_option maxRecDepth 100000 in
theorem s_X3_nextPlace_2 {g : zG} (hg : g.2.1.map (fun q => q.2) = zty) {h0 : zH} (N : Nat) : ∀ (n : Nat) (l0 : Nat) (l1 : Int32) (l3 : Int32) (h : zH) (r : Int32) (h' : zH), f_X3_nextPlace_2 N n l0 l1 l3 h = some (r, h') → zR g jX3_nextPlace h0 2 [some (zr (some l0)), some (zi l1), none, some (zi l3)] [] h (some (zi r)) h' := by
  intro n
  induction n with
  | zero =>
    intro l0 l1 l3 h r h' hf
    cases hf
  | succ n ih =>
    intro l0 l1 l3 h r h' hf
    rw [f_X3_nextPlace_2] at hf
    refine zr_iload_n (x := l3) dX3_nextPlace_2 rfl rfl ?_
    refine zr_aload_n (v := .inl (some l0)) dX3_nextPlace_3 rfl rfl ?_
    revert hf; refine zbi (fun x1 e_x1 hf => ?_)
    refine zq_getR kg_71 dX3_nextPlace_4 e_x1 ?_
    revert hf; refine zbi (fun x2 e_x2 hf => ?_)
    refine zq_alen dX3_nextPlace_7 e_x2 ?_
    by_cases hc1 : x2 ≤ l3
    · rw [if_pos hc1] at hf
      refine zr_icge_t (tgt := 58) dX3_nextPlace_8 (by decide) hc1 ?_
      refine zr_aload_n (v := .inl (some l0)) dX3_nextPlace_58 rfl rfl ?_
      revert hf; refine zbi (fun x3 e_x3 hf => ?_)
      refine zq_getR kg_71 dX3_nextPlace_59 e_x3 ?_
      revert hf; refine zbi (fun x4 e_x4 hf => ?_)
      refine zq_alen dX3_nextPlace_62 e_x4 ?_
      cases hf
      exact zr_ret _ rfl dX3_nextPlace_63
    · rw [if_neg hc1] at hf
      refine zr_icge_f 58 dX3_nextPlace_8 (by decide) hc1 ?_
      refine zr_aload_n (v := .inl (some l0)) dX3_nextPlace_11 rfl rfl ?_
      revert hf; refine zbi (fun x5 e_x5 hf => ?_)
      refine zq_getR kg_71 dX3_nextPlace_12 e_x5 ?_
      refine zr_iload_n (x := l3) dX3_nextPlace_15 rfl rfl ?_
      revert hf; refine zbi (fun x6 e_x6 hf => ?_)
      refine zq_iald dX3_nextPlace_16 e_x6 ?_
      refine zr_iconst (v := ((-1) : Int32)) dX3_nextPlace_17 (by decide) ?_
      by_cases hc2 : x6 = ((-1) : Int32)
      · rw [if_pos hc2] at hf
        refine zr_icne_f 52 dX3_nextPlace_18 (by decide) hc2 ?_
        refine zr_aload_n (v := .inl (some l0)) dX3_nextPlace_21 rfl rfl ?_
        refine zr_dup dX3_nextPlace_22 ?_
        revert hf; refine zbi (fun x7 e_x7 hf => ?_)
        refine zq_getI kg_76 dX3_nextPlace_23 e_x7 ?_
        refine zr_iconst (v := (1 : Int32)) dX3_nextPlace_26 (by decide) ?_
        refine zr_iadd dX3_nextPlace_27 ?_
        revert hf; refine zbi (fun h1 e_h1 hf => ?_)
        refine zq_put (kp_77 _) dX3_nextPlace_28 (zn_i _) e_h1 ?_
        refine zr_aload_n (v := .inl (some l0)) dX3_nextPlace_31 rfl rfl ?_
        revert hf; refine zbi (fun x8 e_x8 hf => ?_)
        refine zq_getI kg_76 dX3_nextPlace_32 e_x8 ?_
        refine zr_sipush (v := (20000 : Int32)) dX3_nextPlace_35 (by decide) ?_
        by_cases hc3 : (20000 : Int32) < x8
        · rw [if_pos hc3] at hf
          refine zr_icgt_t (tgt := 50) dX3_nextPlace_38 (by decide) hc3 ?_
          refine zr_iload_n (x := l3) dX3_nextPlace_50 rfl rfl ?_
          cases hf
          exact zr_ret _ rfl dX3_nextPlace_51
        · rw [if_neg hc3] at hf
          refine zr_icgt_f 50 dX3_nextPlace_38 (by decide) hc3 ?_
          refine zr_aload_n (v := .inl (some l0)) dX3_nextPlace_41 rfl rfl ?_
          refine zr_iload_n (x := l1) dX3_nextPlace_42 rfl rfl ?_
          refine zr_iload_n (x := l3) dX3_nextPlace_43 rfl rfl ?_
          revert hf; refine zbi (fun q1 e_q1 hf => ?_)
          revert hf; refine zbi (fun x9 e_x9 hf => ?_)
          refine zq_callV (J' := jX3_isParted) (as := [zi l1, zi l3]) (rest := []) (r1 := (some (zi x9))) (q := (RX3, TX3, 7)) kw_118 km_X3_isParted kt_79 dX3_nextPlace_44 rfl (Nat.le_of_ble_eq_true rfl) rfl rfl e_q1 rfl (c_X3_isParted hg e_x9) ?_
          by_cases hc4 : x9 = 0
          · rw [if_pos hc4] at hf
            refine zr_ifeq_t (tgt := 52) dX3_nextPlace_47 (by decide) hc4 ?_
            refine zq_iinc (x := l3) (y := (1 : Int32)) (L' := [some (zr (some l0)), some (zi l1), none, some (zi (l3 + (1 : Int32)))]) dX3_nextPlace_52 rfl (by decide) (by decide) rfl ?_
            refine zr_goto (tgt := 2) dX3_nextPlace_55 (by decide) ?_
            exact ih l0 l1 (l3 + (1 : Int32)) h1 r h' hf
          · rw [if_neg hc4] at hf
            refine zr_ifeq_f 52 dX3_nextPlace_47 (by decide) hc4 ?_
            refine zr_iload_n (x := l3) dX3_nextPlace_50 rfl rfl ?_
            cases hf
            exact zr_ret _ rfl dX3_nextPlace_51
      · rw [if_neg hc2] at hf
        refine zr_icne_t (tgt := 52) dX3_nextPlace_18 (by decide) hc2 ?_
        refine zq_iinc (x := l3) (y := (1 : Int32)) (L' := [some (zr (some l0)), some (zi l1), none, some (zi (l3 + (1 : Int32)))]) dX3_nextPlace_52 rfl (by decide) (by decide) rfl ?_
        refine zr_goto (tgt := 2) dX3_nextPlace_55 (by decide) ?_
        exact ih l0 l1 (l3 + (1 : Int32)) h r h' hf
def f_X3_nextPlace (N : Nat) (l0 : Nat) (l1 : Int32) (l2 : Int32) (h : zH) : Option (Int32 × zH) := f_X3_nextPlace_2 N N l0 l1 l2 h
set_option maxHeartbeats 4000000 in
set_option maxRecDepth 100000 in
theorem s_X3_nextPlace {g : zG} (hg : g.2.1.map (fun q => q.2) = zty) {h0 : zH} (N : Nat) (l0 : Nat) (l1 : Int32) (l2 : Int32) (h : zH) (r : Int32) (h' : zH) (hf : f_X3_nextPlace N l0 l1 l2 h = some (r, h')) : zR g jX3_nextPlace h0 0 [some (zr (some l0)), some (zi l1), some (zi l2), none] [] h (some (zi r)) h' := by
  unfold f_X3_nextPlace at hf
  refine zr_iload_n (x := l2) dX3_nextPlace_0 rfl rfl ?_
  refine zq_istore_n (x := l2) (L' := [some (zr (some l0)), some (zi l1), some (zi l2), some (zi l2)]) dX3_nextPlace_1 rfl (by decide) rfl ?_
  refine zr_forget 2 (L' := [some (zr (some l0)), some (zi l1), none, some (zi l2)]) rfl ?_
  exact s_X3_nextPlace_2 hg N N l0 l1 l2 h r h' hf
theorem c_X3_nextPlace {g : zG} (hg : g.2.1.map (fun q => q.2) = zty) {N : Nat} {l0 : Nat} {l1 : Int32} {l2 : Int32} {h : zH} {r : Int32} {h' : zH} (hf : f_X3_nextPlace N l0 l1 l2 h = some (r, h')) : zCa g jX3_nextPlace [zr (some l0), zi l1, zi l2] h (some (zi r)) h' :=
  zCa.of hg (by decide +kernel) (Nat.le_of_ble_eq_true rfl) (s_X3_nextPlace hg N l0 l1 l2 h r h' hf)
theorem dX3_put_0 : decode cX3_put 0 = .ok (.aload_n 0, 1) := by decide +kernel
theorem dX3_put_1 : decode cX3_put 1 = .ok (.getfield 18, 3) := by decide +kernel
theorem dX3_put_4 : decode cX3_put 4 = .ok (.iload_n 1, 1) := by decide +kernel
theorem dX3_put_5 : decode cX3_put 5 = .ok (.iload_n 2, 1) := by decide +kernel
theorem dX3_put_6 : decode cX3_put 6 = .ok (.iastore, 1) := by decide +kernel
theorem dX3_put_7 : decode cX3_put 7 = .ok (.aload_n 0, 1) := by decide +kernel
theorem dX3_put_8 : decode cX3_put 8 = .ok (.getfield 34, 3) := by decide +kernel
theorem dX3_put_11 : decode cX3_put 11 = .ok (.iload_n 2, 1) := by decide +kernel
theorem dX3_put_12 : decode cX3_put 12 = .ok (.aload_n 0, 1) := by decide +kernel
theorem dX3_put_13 : decode cX3_put 13 = .ok (.getfield 9, 3) := by decide +kernel
theorem dX3_put_16 : decode cX3_put 16 = .ok (.iload_n 1, 1) := by decide +kernel
theorem dX3_put_17 : decode cX3_put 17 = .ok (.iaload, 1) := by decide +kernel
theorem dX3_put_18 : decode cX3_put 18 = .ok (.iastore, 1) := by decide +kernel
theorem dX3_put_19 : decode cX3_put 19 = .ok (.aload_n 0, 1) := by decide +kernel
theorem dX3_put_20 : decode cX3_put 20 = .ok (.getfield 37, 3) := by decide +kernel
theorem dX3_put_23 : decode cX3_put 23 = .ok (.iload_n 2, 1) := by decide +kernel
theorem dX3_put_24 : decode cX3_put 24 = .ok (.aload_n 0, 1) := by decide +kernel
theorem dX3_put_25 : decode cX3_put 25 = .ok (.getfield 15, 3) := by decide +kernel
theorem dX3_put_28 : decode cX3_put 28 = .ok (.iload_n 1, 1) := by decide +kernel
theorem dX3_put_29 : decode cX3_put 29 = .ok (.iaload, 1) := by decide +kernel
theorem dX3_put_30 : decode cX3_put 30 = .ok (.iastore, 1) := by decide +kernel
theorem dX3_put_31 : decode cX3_put 31 = .ok (.return_, 1) := by decide +kernel
def f_X3_put (N : Nat) (l0 : Nat) (l1 : Int32) (l2 : Int32) (h : zH) : Option zH := (zgR h 3 (some l0) 2).bind fun x1 => (zst h 0 x1 l1 l2).bind fun h1 => (zgR h1 3 (some l0) 4).bind fun x2 => (zgR h1 3 (some l0) 0).bind fun x3 => (zld h1 0 x3 l1).bind fun x4 => (zst h1 0 x2 l2 x4).bind fun h2 => (zgR h2 3 (some l0) 5).bind fun x5 => (zgR h2 3 (some l0) 1).bind fun x6 => (zld h2 0 x6 l1).bind fun x7 => (zst h2 0 x5 l2 x7).bind fun h3 => some h3
set_option maxHeartbeats 4000000 in
set_option maxRecDepth 100000 in
theorem s_X3_put {g : zG} (hg : g.2.1.map (fun q => q.2) = zty) {h0 : zH} (N : Nat) (l0 : Nat) (l1 : Int32) (l2 : Int32) (h : zH) (h' : zH) (hf : f_X3_put N l0 l1 l2 h = some h') : zR g jX3_put h0 0 [some (zr (some l0)), some (zi l1), some (zi l2)] [] h none h' := by
  unfold f_X3_put at hf
  refine zr_aload_n (v := .inl (some l0)) dX3_put_0 rfl rfl ?_
  revert hf; refine zbi (fun x1 e_x1 hf => ?_)
  refine zq_getR kg_80 dX3_put_1 e_x1 ?_
  refine zr_iload_n (x := l1) dX3_put_4 rfl rfl ?_
  refine zr_iload_n (x := l2) dX3_put_5 rfl rfl ?_
  revert hf; refine zbi (fun h1 e_h1 hf => ?_)
  refine zq_iast dX3_put_6 e_h1 ?_
  refine zr_aload_n (v := .inl (some l0)) dX3_put_7 rfl rfl ?_
  revert hf; refine zbi (fun x2 e_x2 hf => ?_)
  refine zq_getR kg_71 dX3_put_8 e_x2 ?_
  refine zr_iload_n (x := l2) dX3_put_11 rfl rfl ?_
  refine zr_aload_n (v := .inl (some l0)) dX3_put_12 rfl rfl ?_
  revert hf; refine zbi (fun x3 e_x3 hf => ?_)
  refine zq_getR kg_60 dX3_put_13 e_x3 ?_
  refine zr_iload_n (x := l1) dX3_put_16 rfl rfl ?_
  revert hf; refine zbi (fun x4 e_x4 hf => ?_)
  refine zq_iald dX3_put_17 e_x4 ?_
  revert hf; refine zbi (fun h2 e_h2 hf => ?_)
  refine zq_iast dX3_put_18 e_h2 ?_
  refine zr_aload_n (v := .inl (some l0)) dX3_put_19 rfl rfl ?_
  revert hf; refine zbi (fun x5 e_x5 hf => ?_)
  refine zq_getR kg_73 dX3_put_20 e_x5 ?_
  refine zr_iload_n (x := l2) dX3_put_23 rfl rfl ?_
  refine zr_aload_n (v := .inl (some l0)) dX3_put_24 rfl rfl ?_
  revert hf; refine zbi (fun x6 e_x6 hf => ?_)
  refine zq_getR kg_62 dX3_put_25 e_x6 ?_
  refine zr_iload_n (x := l1) dX3_put_28 rfl rfl ?_
  revert hf; refine zbi (fun x7 e_x7 hf => ?_)
  refine zq_iald dX3_put_29 e_x7 ?_
  revert hf; refine zbi (fun h3 e_h3 hf => ?_)
  refine zq_iast dX3_put_30 e_h3 ?_
  cases hf
  exact zr_ret none trivial dX3_put_31
theorem c_X3_put {g : zG} (hg : g.2.1.map (fun q => q.2) = zty) {N : Nat} {l0 : Nat} {l1 : Int32} {l2 : Int32} {h : zH} {h' : zH} (hf : f_X3_put N l0 l1 l2 h = some h') : zCa g jX3_put [zr (some l0), zi l1, zi l2] h none h' :=
  zCa.of hg (by decide +kernel) (Nat.le_of_ble_eq_true rfl) (s_X3_put hg N l0 l1 l2 h h' hf)
theorem dX3_lift_0 : decode cX3_lift 0 = .ok (.aload_n 0, 1) := by decide +kernel
theorem dX3_lift_1 : decode cX3_lift 1 = .ok (.getfield 34, 3) := by decide +kernel
theorem dX3_lift_4 : decode cX3_lift 4 = .ok (.iload_n 1, 1) := by decide +kernel
theorem dX3_lift_5 : decode cX3_lift 5 = .ok (.iconst (-1), 1) := by decide +kernel
theorem dX3_lift_6 : decode cX3_lift 6 = .ok (.iastore, 1) := by decide +kernel
theorem dX3_lift_7 : decode cX3_lift 7 = .ok (.aload_n 0, 1) := by decide +kernel
theorem dX3_lift_8 : decode cX3_lift 8 = .ok (.getfield 37, 3) := by decide +kernel
theorem dX3_lift_11 : decode cX3_lift 11 = .ok (.iload_n 1, 1) := by decide +kernel
theorem dX3_lift_12 : decode cX3_lift 12 = .ok (.iconst (-1), 1) := by decide +kernel
theorem dX3_lift_13 : decode cX3_lift 13 = .ok (.iastore, 1) := by decide +kernel
theorem dX3_lift_14 : decode cX3_lift 14 = .ok (.return_, 1) := by decide +kernel
def f_X3_lift (N : Nat) (l0 : Nat) (l1 : Int32) (h : zH) : Option zH := (zgR h 3 (some l0) 4).bind fun x1 => (zst h 0 x1 l1 ((-1) : Int32)).bind fun h1 => (zgR h1 3 (some l0) 5).bind fun x2 => (zst h1 0 x2 l1 ((-1) : Int32)).bind fun h2 => some h2
set_option maxHeartbeats 4000000 in
set_option maxRecDepth 100000 in
theorem s_X3_lift {g : zG} (hg : g.2.1.map (fun q => q.2) = zty) {h0 : zH} (N : Nat) (l0 : Nat) (l1 : Int32) (h : zH) (h' : zH) (hf : f_X3_lift N l0 l1 h = some h') : zR g jX3_lift h0 0 [some (zr (some l0)), some (zi l1)] [] h none h' := by
  unfold f_X3_lift at hf
  refine zr_aload_n (v := .inl (some l0)) dX3_lift_0 rfl rfl ?_
  revert hf; refine zbi (fun x1 e_x1 hf => ?_)
  refine zq_getR kg_71 dX3_lift_1 e_x1 ?_
  refine zr_iload_n (x := l1) dX3_lift_4 rfl rfl ?_
  refine zr_iconst (v := ((-1) : Int32)) dX3_lift_5 (by decide) ?_
  revert hf; refine zbi (fun h1 e_h1 hf => ?_)
  refine zq_iast dX3_lift_6 e_h1 ?_
  refine zr_aload_n (v := .inl (some l0)) dX3_lift_7 rfl rfl ?_
  revert hf; refine zbi (fun x2 e_x2 hf => ?_)
  refine zq_getR kg_73 dX3_lift_8 e_x2 ?_
  refine zr_iload_n (x := l1) dX3_lift_11 rfl rfl ?_
  refine zr_iconst (v := ((-1) : Int32)) dX3_lift_12 (by decide) ?_
  revert hf; refine zbi (fun h2 e_h2 hf => ?_)
  refine zq_iast dX3_lift_13 e_h2 ?_
  cases hf
  exact zr_ret none trivial dX3_lift_14
theorem c_X3_lift {g : zG} (hg : g.2.1.map (fun q => q.2) = zty) {N : Nat} {l0 : Nat} {l1 : Int32} {h : zH} {h' : zH} (hf : f_X3_lift N l0 l1 h = some h') : zCa g jX3_lift [zr (some l0), zi l1] h none h' :=
  zCa.of hg (by decide +kernel) (Nat.le_of_ble_eq_true rfl) (s_X3_lift hg N l0 l1 h h' hf)
theorem dX3_search_0 : decode cX3_search 0 = .ok (.iconst 0, 1) := by decide +kernel
theorem dX3_search_1 : decode cX3_search 1 = .ok (.istore_n 1, 1) := by decide +kernel
theorem dX3_search_2 : decode cX3_search 2 = .ok (.iconst 0, 1) := by decide +kernel
theorem dX3_search_3 : decode cX3_search 3 = .ok (.istore_n 2, 1) := by decide +kernel
theorem dX3_search_4 : decode cX3_search 4 = .ok (.iconst 0, 1) := by decide +kernel
theorem dX3_search_5 : decode cX3_search 5 = .ok (.istore_n 3, 1) := by decide +kernel
theorem dX3_search_6 : decode cX3_search 6 = .ok (.iload_n 3, 1) := by decide +kernel
theorem dX3_search_7 : decode cX3_search 7 = .ok (.ldc 57, 2) := by decide +kernel
theorem dX3_search_9 : decode cX3_search 9 = .ok (.if_icmp .ge 96, 3) := by decide +kernel
theorem dX3_search_12 : decode cX3_search 12 = .ok (.iload_n 1, 1) := by decide +kernel
theorem dX3_search_13 : decode cX3_search 13 = .ok (.aload_n 0, 1) := by decide +kernel
theorem dX3_search_14 : decode cX3_search 14 = .ok (.getfield 21, 3) := by decide +kernel
theorem dX3_search_17 : decode cX3_search 17 = .ok (.if_icmp .ge 88, 3) := by decide +kernel
theorem dX3_search_20 : decode cX3_search 20 = .ok (.aload_n 0, 1) := by decide +kernel
theorem dX3_search_21 : decode cX3_search 21 = .ok (.aload_n 0, 1) := by decide +kernel
theorem dX3_search_22 : decode cX3_search 22 = .ok (.getfield 15, 3) := by decide +kernel
theorem dX3_search_25 : decode cX3_search 25 = .ok (.iload_n 1, 1) := by decide +kernel
theorem dX3_search_26 : decode cX3_search 26 = .ok (.iaload, 1) := by decide +kernel
theorem dX3_search_27 : decode cX3_search 27 = .ok (.iload_n 2, 1) := by decide +kernel
theorem dX3_search_28 : decode cX3_search 28 = .ok (.invokevirtual 58, 3) := by decide +kernel
theorem dX3_search_31 : decode cX3_search 31 = .ok (.istore 4, 2) := by decide +kernel
theorem dX3_search_33 : decode cX3_search 33 = .ok (.aload_n 0, 1) := by decide +kernel
theorem dX3_search_34 : decode cX3_search 34 = .ok (.getfield 25, 3) := by decide +kernel
theorem dX3_search_37 : decode cX3_search 37 = .ok (.sipush 20000, 3) := by decide +kernel
theorem dX3_search_40 : decode cX3_search 40 = .ok (.if_icmp .le 6, 3) := by decide +kernel
theorem dX3_search_43 : decode cX3_search 43 = .ok (.bipush (-2), 2) := by decide +kernel
theorem dX3_search_45 : decode cX3_search 45 = .ok (.ireturn, 1) := by decide +kernel
theorem dX3_search_46 : decode cX3_search 46 = .ok (.iload 4, 2) := by decide +kernel
theorem dX3_search_48 : decode cX3_search 48 = .ok (.aload_n 0, 1) := by decide +kernel
theorem dX3_search_49 : decode cX3_search 49 = .ok (.getfield 34, 3) := by decide +kernel
theorem dX3_search_52 : decode cX3_search 52 = .ok (.arraylength, 1) := by decide +kernel
theorem dX3_search_53 : decode cX3_search 53 = .ok (.if_icmp .ge 18, 3) := by decide +kernel
theorem dX3_search_56 : decode cX3_search 56 = .ok (.aload_n 0, 1) := by decide +kernel
theorem dX3_search_57 : decode cX3_search 57 = .ok (.iload_n 1, 1) := by decide +kernel
theorem dX3_search_58 : decode cX3_search 58 = .ok (.iload 4, 2) := by decide +kernel
theorem dX3_search_60 : decode cX3_search 60 = .ok (.invokevirtual 61, 3) := by decide +kernel
theorem dX3_search_63 : decode cX3_search 63 = .ok (.iinc 1 1, 3) := by decide +kernel
theorem dX3_search_66 : decode cX3_search 66 = .ok (.iconst 0, 1) := by decide +kernel
theorem dX3_search_67 : decode cX3_search 67 = .ok (.istore_n 2, 1) := by decide +kernel
theorem dX3_search_68 : decode cX3_search 68 = .ok (.goto 31, 3) := by decide +kernel
theorem dX3_search_71 : decode cX3_search 71 = .ok (.iload_n 1, 1) := by decide +kernel
theorem dX3_search_72 : decode cX3_search 72 = .ok (.ifCond .ne 5, 3) := by decide +kernel
theorem dX3_search_75 : decode cX3_search 75 = .ok (.iconst (-1), 1) := by decide +kernel
theorem dX3_search_76 : decode cX3_search 76 = .ok (.ireturn, 1) := by decide +kernel
theorem dX3_search_77 : decode cX3_search 77 = .ok (.iinc 1 (-1), 3) := by decide +kernel
theorem dX3_search_80 : decode cX3_search 80 = .ok (.aload_n 0, 1) := by decide +kernel
theorem dX3_search_81 : decode cX3_search 81 = .ok (.getfield 18, 3) := by decide +kernel
theorem dX3_search_84 : decode cX3_search 84 = .ok (.iload_n 1, 1) := by decide +kernel
theorem dX3_search_85 : decode cX3_search 85 = .ok (.iaload, 1) := by decide +kernel
theorem dX3_search_86 : decode cX3_search 86 = .ok (.iconst 1, 1) := by decide +kernel
theorem dX3_search_87 : decode cX3_search 87 = .ok (.iadd, 1) := by decide +kernel
theorem dX3_search_88 : decode cX3_search 88 = .ok (.istore_n 2, 1) := by decide +kernel
theorem dX3_search_89 : decode cX3_search 89 = .ok (.aload_n 0, 1) := by decide +kernel
theorem dX3_search_90 : decode cX3_search 90 = .ok (.aload_n 0, 1) := by decide +kernel
theorem dX3_search_91 : decode cX3_search 91 = .ok (.getfield 18, 3) := by decide +kernel
theorem dX3_search_94 : decode cX3_search 94 = .ok (.iload_n 1, 1) := by decide +kernel
theorem dX3_search_95 : decode cX3_search 95 = .ok (.iaload, 1) := by decide +kernel
theorem dX3_search_96 : decode cX3_search 96 = .ok (.invokevirtual 65, 3) := by decide +kernel
theorem dX3_search_99 : decode cX3_search 99 = .ok (.iinc 3 1, 3) := by decide +kernel
theorem dX3_search_102 : decode cX3_search 102 = .ok (.goto (-96), 3) := by decide +kernel
theorem dX3_search_105 : decode cX3_search 105 = .ok (.iload_n 1, 1) := by decide +kernel
theorem dX3_search_106 : decode cX3_search 106 = .ok (.aload_n 0, 1) := by decide +kernel
theorem dX3_search_107 : decode cX3_search 107 = .ok (.getfield 21, 3) := by decide +kernel
theorem dX3_search_110 : decode cX3_search 110 = .ok (.if_icmp .ge 8, 3) := by decide +kernel
theorem dX3_search_113 : decode cX3_search 113 = .ok (.bipush (-2), 2) := by decide +kernel
theorem dX3_search_115 : decode cX3_search 115 = .ok (.goto 7, 3) := by decide +kernel
theorem dX3_search_118 : decode cX3_search 118 = .ok (.aload_n 0, 1) := by decide +kernel
theorem dX3_search_119 : decode cX3_search 119 = .ok (.getfield 21, 3) := by decide +kernel
theorem dX3_search_122 : decode cX3_search 122 = .ok (.ireturn, 1) := by decide +kernel
def f_X3_search_105 (N : Nat) (l0 : Nat) (l1 : Int32) (h : zH) : Option (Int32 × zH) := (zgI h 3 (some l0) 3).bind fun x1 => if x1 ≤ l1 then (zgI h 3 (some l0) 3).bind fun x2 => some (x2, h) else some (((-2) : Int32), h)
set_option maxHeartbeats 4000000 in
set_option maxRecDepth 100000 in
theorem s_X3_search_105 {g : zG} (hg : g.2.1.map (fun q => q.2) = zty) {h0 : zH} (N : Nat) (l0 : Nat) (l1 : Int32) (h : zH) (r : Int32) (h' : zH) (hf : f_X3_search_105 N l0 l1 h = some (r, h')) : zR g jX3_search h0 105 [some (zr (some l0)), some (zi l1), none, none, none] [] h (some (zi r)) h' := by
  unfold f_X3_search_105 at hf
  refine zr_iload_n (x := l1) dX3_search_105 rfl rfl ?_
  refine zr_aload_n (v := .inl (some l0)) dX3_search_106 rfl rfl ?_
  revert hf; refine zbi (fun x1 e_x1 hf => ?_)
  refine zq_getI kg_61 dX3_search_107 e_x1 ?_
  by_cases hc1 : x1 ≤ l1
  · rw [if_pos hc1] at hf
    refine zr_icge_t (tgt := 118) dX3_search_110 (by decide) hc1 ?_
    refine zr_aload_n (v := .inl (some l0)) dX3_search_118 rfl rfl ?_
    revert hf; refine zbi (fun x2 e_x2 hf => ?_)
    refine zq_getI kg_61 dX3_search_119 e_x2 ?_
    cases hf
    exact zr_ret _ rfl dX3_search_122
  · rw [if_neg hc1] at hf
    refine zr_icge_f 118 dX3_search_110 (by decide) hc1 ?_
    refine zr_bipush (v := ((-2) : Int32)) dX3_search_113 (by decide) ?_
    refine zr_goto (tgt := 122) dX3_search_115 (by decide) ?_
    cases hf
    exact zr_ret _ rfl dX3_search_122
def f_X3_search_6 (N : Nat) : Nat → Nat → Int32 → Int32 → Int32 → zH → Option (Int32 × zH)
  | 0, _, _, _, _, _ => none
  | n + 1, l0, l1, l2, l3, h => if (1000000 : Int32) ≤ l3 then f_X3_search_105 N l0 l1 h else (zgI h 3 (some l0) 3).bind fun x1 => if x1 ≤ l1 then f_X3_search_105 N l0 l1 h else (zgR h 3 (some l0) 1).bind fun x2 => (zld h 0 x2 l1).bind fun x3 => (zck h 3 (some l0)).bind fun q1 => zb2 (f_X3_nextPlace N q1 x3 l2 h) fun x4 h1 => (zgI h1 3 (some l0) 6).bind fun x5 => if x5 ≤ (20000 : Int32) then (zgR h1 3 (some l0) 4).bind fun x6 => (zlen h1 x6).bind fun x7 => if x7 ≤ x4 then if l1 = 0 then some (((-1) : Int32), h1) else (zgR h1 3 (some l0) 2).bind fun x8 => (zld h1 0 x8 (l1 + ((-1) : Int32))).bind fun x9 => (zgR h1 3 (some l0) 2).bind fun x10 => (zld h1 0 x10 (l1 + ((-1) : Int32))).bind fun x11 => (zck h1 3 (some l0)).bind fun q2 => (f_X3_lift N q2 x11 h1).bind fun h2 => f_X3_search_6 N n l0 (l1 + ((-1) : Int32)) (x9 + (1 : Int32)) (l3 + (1 : Int32)) h2 else (zck h1 3 (some l0)).bind fun q3 => (f_X3_put N q3 l1 x4 h1).bind fun h3 => f_X3_search_6 N n l0 (l1 + (1 : Int32)) (0 : Int32) (l3 + (1 : Int32)) h3 else some (((-2) : Int32), h1)
set_option maxHeartbeats 4000000 in
set_option maxRecDepth 100000 in
theorem s_X3_search_6 {g : zG} (hg : g.2.1.map (fun q => q.2) = zty) {h0 : zH} (N : Nat) : ∀ (n : Nat) (l0 : Nat) (l1 : Int32) (l2 : Int32) (l3 : Int32) (h : zH) (r : Int32) (h' : zH), f_X3_search_6 N n l0 l1 l2 l3 h = some (r, h') → zR g jX3_search h0 6 [some (zr (some l0)), some (zi l1), some (zi l2), some (zi l3), none] [] h (some (zi r)) h' := by
  intro n
  induction n with
  | zero =>
    intro l0 l1 l2 l3 h r h' hf
    cases hf
  | succ n ih =>
    intro l0 l1 l2 l3 h r h' hf
    rw [f_X3_search_6] at hf
    refine zr_iload_n (x := l3) dX3_search_6 rfl rfl ?_
    refine zr_ldc (v := (1000000 : Int32)) kw_122 dX3_search_7 ?_
    by_cases hc1 : (1000000 : Int32) ≤ l3
    · rw [if_pos hc1] at hf
      refine zr_icge_t (tgt := 105) dX3_search_9 (by decide) hc1 ?_
      refine zr_forget 2 (L' := [some (zr (some l0)), some (zi l1), none, some (zi l3), none]) rfl ?_
      refine zr_forget 3 (L' := [some (zr (some l0)), some (zi l1), none, none, none]) rfl ?_
      exact s_X3_search_105 hg N l0 l1 h r h' hf
    · rw [if_neg hc1] at hf
      refine zr_icge_f 105 dX3_search_9 (by decide) hc1 ?_
      refine zr_iload_n (x := l1) dX3_search_12 rfl rfl ?_
      refine zr_aload_n (v := .inl (some l0)) dX3_search_13 rfl rfl ?_
      revert hf; refine zbi (fun x1 e_x1 hf => ?_)
      refine zq_getI kg_61 dX3_search_14 e_x1 ?_
      by_cases hc2 : x1 ≤ l1
      · rw [if_pos hc2] at hf
        refine zr_icge_t (tgt := 105) dX3_search_17 (by decide) hc2 ?_
        refine zr_forget 2 (L' := [some (zr (some l0)), some (zi l1), none, some (zi l3), none]) rfl ?_
        refine zr_forget 3 (L' := [some (zr (some l0)), some (zi l1), none, none, none]) rfl ?_
        exact s_X3_search_105 hg N l0 l1 h r h' hf
      · rw [if_neg hc2] at hf
        refine zr_icge_f 105 dX3_search_17 (by decide) hc2 ?_
        refine zr_aload_n (v := .inl (some l0)) dX3_search_20 rfl rfl ?_
        refine zr_aload_n (v := .inl (some l0)) dX3_search_21 rfl rfl ?_
        revert hf; refine zbi (fun x2 e_x2 hf => ?_)
        refine zq_getR kg_62 dX3_search_22 e_x2 ?_
        refine zr_iload_n (x := l1) dX3_search_25 rfl rfl ?_
        revert hf; refine zbi (fun x3 e_x3 hf => ?_)
        refine zq_iald dX3_search_26 e_x3 ?_
        refine zr_iload_n (x := l2) dX3_search_27 rfl rfl ?_
        revert hf; refine zbi (fun q1 e_q1 hf => ?_)
        revert hf; refine zbi2 (fun x4 h1 e_x4 hf => ?_)
        refine zq_callV (J' := jX3_nextPlace) (as := [zi x3, zi l2]) (rest := []) (r1 := (some (zi x4))) (q := (RX3, TX3, 7)) kw_123 km_X3_nextPlace kt_82 dX3_search_28 rfl (Nat.le_of_ble_eq_true rfl) rfl rfl e_q1 rfl (c_X3_nextPlace hg e_x4) ?_
        refine zq_istore (x := x4) (L' := [some (zr (some l0)), some (zi l1), some (zi l2), some (zi l3), some (zi x4)]) dX3_search_31 (by decide) rfl ?_
        refine zr_aload_n (v := .inl (some l0)) dX3_search_33 rfl rfl ?_
        revert hf; refine zbi (fun x5 e_x5 hf => ?_)
        refine zq_getI kg_76 dX3_search_34 e_x5 ?_
        refine zr_sipush (v := (20000 : Int32)) dX3_search_37 (by decide) ?_
        by_cases hc3 : x5 ≤ (20000 : Int32)
        · rw [if_pos hc3] at hf
          refine zr_icle_t (tgt := 46) dX3_search_40 (by decide) hc3 ?_
          refine zr_iload (x := x4) dX3_search_46 rfl ?_
          refine zr_aload_n (v := .inl (some l0)) dX3_search_48 rfl rfl ?_
          revert hf; refine zbi (fun x6 e_x6 hf => ?_)
          refine zq_getR kg_71 dX3_search_49 e_x6 ?_
          revert hf; refine zbi (fun x7 e_x7 hf => ?_)
          refine zq_alen dX3_search_52 e_x7 ?_
          by_cases hc4 : x7 ≤ x4
          · rw [if_pos hc4] at hf
            refine zr_icge_t (tgt := 71) dX3_search_53 (by decide) hc4 ?_
            refine zr_iload_n (x := l1) dX3_search_71 rfl rfl ?_
            by_cases hc5 : l1 = 0
            · rw [if_pos hc5] at hf
              refine zr_ifne_f 77 dX3_search_72 (by decide) hc5 ?_
              refine zr_iconst (v := ((-1) : Int32)) dX3_search_75 (by decide) ?_
              cases hf
              exact zr_ret _ rfl dX3_search_76
            · rw [if_neg hc5] at hf
              refine zr_ifne_t (tgt := 77) dX3_search_72 (by decide) hc5 ?_
              refine zq_iinc (x := l1) (y := ((-1) : Int32)) (L' := [some (zr (some l0)), some (zi (l1 + ((-1) : Int32))), some (zi l2), some (zi l3), some (zi x4)]) dX3_search_77 rfl (by decide) (by decide) rfl ?_
              refine zr_aload_n (v := .inl (some l0)) dX3_search_80 rfl rfl ?_
              revert hf; refine zbi (fun x8 e_x8 hf => ?_)
              refine zq_getR kg_80 dX3_search_81 e_x8 ?_
              refine zr_iload_n (x := (l1 + ((-1) : Int32))) dX3_search_84 rfl rfl ?_
              revert hf; refine zbi (fun x9 e_x9 hf => ?_)
              refine zq_iald dX3_search_85 e_x9 ?_
              refine zr_iconst (v := (1 : Int32)) dX3_search_86 (by decide) ?_
              refine zr_iadd dX3_search_87 ?_
              refine zq_istore_n (x := (x9 + (1 : Int32))) (L' := [some (zr (some l0)), some (zi (l1 + ((-1) : Int32))), some (zi (x9 + (1 : Int32))), some (zi l3), some (zi x4)]) dX3_search_88 rfl (by decide) rfl ?_
              refine zr_aload_n (v := .inl (some l0)) dX3_search_89 rfl rfl ?_
              refine zr_aload_n (v := .inl (some l0)) dX3_search_90 rfl rfl ?_
              revert hf; refine zbi (fun x10 e_x10 hf => ?_)
              refine zq_getR kg_80 dX3_search_91 e_x10 ?_
              refine zr_iload_n (x := (l1 + ((-1) : Int32))) dX3_search_94 rfl rfl ?_
              revert hf; refine zbi (fun x11 e_x11 hf => ?_)
              refine zq_iald dX3_search_95 e_x11 ?_
              revert hf; refine zbi (fun q2 e_q2 hf => ?_)
              revert hf; refine zbi (fun h2 e_h2 hf => ?_)
              refine zq_callV (J' := jX3_lift) (as := [zi x11]) (rest := []) (r1 := none) (q := (RX3, TX3, 7)) kw_127 km_X3_lift kt_84 dX3_search_96 rfl (Nat.le_of_ble_eq_true rfl) rfl rfl e_q2 rfl (c_X3_lift hg e_h2) ?_
              refine zq_iinc (x := l3) (y := (1 : Int32)) (L' := [some (zr (some l0)), some (zi (l1 + ((-1) : Int32))), some (zi (x9 + (1 : Int32))), some (zi (l3 + (1 : Int32))), some (zi x4)]) dX3_search_99 rfl (by decide) (by decide) rfl ?_
              refine zr_goto (tgt := 6) dX3_search_102 (by decide) ?_
              refine zr_forget 4 (L' := [some (zr (some l0)), some (zi (l1 + ((-1) : Int32))), some (zi (x9 + (1 : Int32))), some (zi (l3 + (1 : Int32))), none]) rfl ?_
              exact ih l0 (l1 + ((-1) : Int32)) (x9 + (1 : Int32)) (l3 + (1 : Int32)) h2 r h' hf
          · rw [if_neg hc4] at hf
            refine zr_icge_f 71 dX3_search_53 (by decide) hc4 ?_
            refine zr_aload_n (v := .inl (some l0)) dX3_search_56 rfl rfl ?_
            refine zr_iload_n (x := l1) dX3_search_57 rfl rfl ?_
            refine zr_iload (x := x4) dX3_search_58 rfl ?_
            revert hf; refine zbi (fun q3 e_q3 hf => ?_)
            revert hf; refine zbi (fun h3 e_h3 hf => ?_)
            refine zq_callV (J' := jX3_put) (as := [zi l1, zi x4]) (rest := []) (r1 := none) (q := (RX3, TX3, 7)) kw_131 km_X3_put kt_86 dX3_search_60 rfl (Nat.le_of_ble_eq_true rfl) rfl rfl e_q3 rfl (c_X3_put hg e_h3) ?_
            refine zq_iinc (x := l1) (y := (1 : Int32)) (L' := [some (zr (some l0)), some (zi (l1 + (1 : Int32))), some (zi l2), some (zi l3), some (zi x4)]) dX3_search_63 rfl (by decide) (by decide) rfl ?_
            refine zr_iconst (v := (0 : Int32)) dX3_search_66 (by decide) ?_
            refine zq_istore_n (x := (0 : Int32)) (L' := [some (zr (some l0)), some (zi (l1 + (1 : Int32))), some (zi (0 : Int32)), some (zi l3), some (zi x4)]) dX3_search_67 rfl (by decide) rfl ?_
            refine zr_goto (tgt := 99) dX3_search_68 (by decide) ?_
            refine zq_iinc (x := l3) (y := (1 : Int32)) (L' := [some (zr (some l0)), some (zi (l1 + (1 : Int32))), some (zi (0 : Int32)), some (zi (l3 + (1 : Int32))), some (zi x4)]) dX3_search_99 rfl (by decide) (by decide) rfl ?_
            refine zr_goto (tgt := 6) dX3_search_102 (by decide) ?_
            refine zr_forget 4 (L' := [some (zr (some l0)), some (zi (l1 + (1 : Int32))), some (zi (0 : Int32)), some (zi (l3 + (1 : Int32))), none]) rfl ?_
            exact ih l0 (l1 + (1 : Int32)) (0 : Int32) (l3 + (1 : Int32)) h3 r h' hf
        · rw [if_neg hc3] at hf
          refine zr_icle_f 46 dX3_search_40 (by decide) hc3 ?_
          refine zr_bipush (v := ((-2) : Int32)) dX3_search_43 (by decide) ?_
          cases hf
          exact zr_ret _ rfl dX3_search_45
def f_X3_search (N : Nat) (l0 : Nat) (h : zH) : Option (Int32 × zH) := f_X3_search_6 N N l0 (0 : Int32) (0 : Int32) (0 : Int32) h
set_option maxHeartbeats 4000000 in
set_option maxRecDepth 100000 in
theorem s_X3_search {g : zG} (hg : g.2.1.map (fun q => q.2) = zty) {h0 : zH} (N : Nat) (l0 : Nat) (h : zH) (r : Int32) (h' : zH) (hf : f_X3_search N l0 h = some (r, h')) : zR g jX3_search h0 0 [some (zr (some l0)), none, none, none, none] [] h (some (zi r)) h' := by
  unfold f_X3_search at hf
  refine zr_iconst (v := (0 : Int32)) dX3_search_0 (by decide) ?_
  refine zq_istore_n (x := (0 : Int32)) (L' := [some (zr (some l0)), some (zi (0 : Int32)), none, none, none]) dX3_search_1 rfl (by decide) rfl ?_
  refine zr_iconst (v := (0 : Int32)) dX3_search_2 (by decide) ?_
  refine zq_istore_n (x := (0 : Int32)) (L' := [some (zr (some l0)), some (zi (0 : Int32)), some (zi (0 : Int32)), none, none]) dX3_search_3 rfl (by decide) rfl ?_
  refine zr_iconst (v := (0 : Int32)) dX3_search_4 (by decide) ?_
  refine zq_istore_n (x := (0 : Int32)) (L' := [some (zr (some l0)), some (zi (0 : Int32)), some (zi (0 : Int32)), some (zi (0 : Int32)), none]) dX3_search_5 rfl (by decide) rfl ?_
  exact s_X3_search_6 hg N N l0 (0 : Int32) (0 : Int32) (0 : Int32) h r h' hf
theorem c_X3_search {g : zG} (hg : g.2.1.map (fun q => q.2) = zty) {N : Nat} {l0 : Nat} {h : zH} {r : Int32} {h' : zH} (hf : f_X3_search N l0 h = some (r, h')) : zCa g jX3_search [zr (some l0)] h (some (zi r)) h' :=
  zCa.of hg (by decide +kernel) (Nat.le_of_ble_eq_true rfl) (s_X3_search hg N l0 h r h' hf)
theorem dX4_init_0 : decode cX4_init 0 = .ok (.aload_n 0, 1) := by decide +kernel
theorem dX4_init_1 : decode cX4_init 1 = .ok (.invokespecial 3, 3) := by decide +kernel
theorem dX4_init_4 : decode cX4_init 4 = .ok (.aload_n 0, 1) := by decide +kernel
theorem dX4_init_5 : decode cX4_init 5 = .ok (.bipush 6, 2) := by decide +kernel
theorem dX4_init_7 : decode cX4_init 7 = .ok (.newarray .int, 2) := by decide +kernel
theorem dX4_init_9 : decode cX4_init 9 = .ok (.putfield 11, 3) := by decide +kernel
theorem dX4_init_12 : decode cX4_init 12 = .ok (.aload_n 0, 1) := by decide +kernel
theorem dX4_init_13 : decode cX4_init 13 = .ok (.bipush 6, 2) := by decide +kernel
theorem dX4_init_15 : decode cX4_init 15 = .ok (.newarray .int, 2) := by decide +kernel
theorem dX4_init_17 : decode cX4_init 17 = .ok (.putfield 15, 3) := by decide +kernel
theorem dX4_init_20 : decode cX4_init 20 = .ok (.aload_n 0, 1) := by decide +kernel
theorem dX4_init_21 : decode cX4_init 21 = .ok (.bipush 6, 2) := by decide +kernel
theorem dX4_init_23 : decode cX4_init 23 = .ok (.newarray .int, 2) := by decide +kernel
theorem dX4_init_25 : decode cX4_init 25 = .ok (.putfield 18, 3) := by decide +kernel
theorem dX4_init_28 : decode cX4_init 28 = .ok (.aload_n 0, 1) := by decide +kernel
theorem dX4_init_29 : decode cX4_init 29 = .ok (.iconst 0, 1) := by decide +kernel
theorem dX4_init_30 : decode cX4_init 30 = .ok (.putfield 21, 3) := by decide +kernel
theorem dX4_init_33 : decode cX4_init 33 = .ok (.aload_n 0, 1) := by decide +kernel
theorem dX4_init_34 : decode cX4_init 34 = .ok (.bipush 6, 2) := by decide +kernel
theorem dX4_init_36 : decode cX4_init 36 = .ok (.newarray .int, 2) := by decide +kernel
theorem dX4_init_38 : decode cX4_init 38 = .ok (.putfield 25, 3) := by decide +kernel
theorem dX4_init_41 : decode cX4_init 41 = .ok (.return_, 1) := by decide +kernel
def f_X4_init (N : Nat) (l0 : Nat) (h : zH) : Option zH := zna h 0 (6 : Int32) fun a1 h1 => (zpu h1 4 (some l0) 0 (zr (some a1))).bind fun h2 => zna h2 0 (6 : Int32) fun a2 h3 => (zpu h3 4 (some l0) 1 (zr (some a2))).bind fun h4 => zna h4 0 (6 : Int32) fun a3 h5 => (zpu h5 4 (some l0) 2 (zr (some a3))).bind fun h6 => (zpu h6 4 (some l0) 3 (zi (0 : Int32))).bind fun h7 => zna h7 0 (6 : Int32) fun a4 h8 => (zpu h8 4 (some l0) 4 (zr (some a4))).bind fun h9 => some h9
set_option maxHeartbeats 4000000 in
set_option maxRecDepth 100000 in
theorem s_X4_init {g : zG} (hg : g.2.1.map (fun q => q.2) = zty) {h0 : zH} (N : Nat) (l0 : Nat) (h : zH) (h' : zH) (hf : f_X4_init N l0 h = some h') : zR g jX4_init h0 0 [some (zr (some l0))] [] h none h' := by
  unfold f_X4_init at hf
  refine zr_aload_n (v := .inl (some l0)) dX4_init_0 rfl rfl ?_
  refine zr_objInit kw_135 kw_1 kw_2 ⟨Nat.le_of_ble_eq_true rfl, Nat.le_of_ble_eq_true rfl⟩ dX4_init_1 ?_
  refine zr_aload_n (v := .inl (some l0)) dX4_init_4 rfl rfl ?_
  refine zr_bipush (v := (6 : Int32)) dX4_init_5 (by decide) ?_
  obtain ⟨a1, h1, e_a1, hf⟩ := zna_spec hf
  refine zq_newa (atype := .int) (t := 0) kw_14 rfl (fun _ _ => rfl) (by decide) dX4_init_7 e_a1 ?_
  revert hf; refine zbi (fun h2 e_h2 hf => ?_)
  refine zq_put kp_87 dX4_init_9 (zn_a _ _) e_h2 ?_
  refine zr_aload_n (v := .inl (some l0)) dX4_init_12 rfl rfl ?_
  refine zr_bipush (v := (6 : Int32)) dX4_init_13 (by decide) ?_
  obtain ⟨a2, h3, e_a2, hf⟩ := zna_spec hf
  refine zq_newa (atype := .int) (t := 0) kw_14 rfl (fun _ _ => rfl) (by decide) dX4_init_15 e_a2 ?_
  revert hf; refine zbi (fun h4 e_h4 hf => ?_)
  refine zq_put kp_88 dX4_init_17 (zn_a _ _) e_h4 ?_
  refine zr_aload_n (v := .inl (some l0)) dX4_init_20 rfl rfl ?_
  refine zr_bipush (v := (6 : Int32)) dX4_init_21 (by decide) ?_
  obtain ⟨a3, h5, e_a3, hf⟩ := zna_spec hf
  refine zq_newa (atype := .int) (t := 0) kw_14 rfl (fun _ _ => rfl) (by decide) dX4_init_23 e_a3 ?_
  revert hf; refine zbi (fun h6 e_h6 hf => ?_)
  refine zq_put kp_89 dX4_init_25 (zn_a _ _) e_h6 ?_
  refine zr_aload_n (v := .inl (some l0)) dX4_init_28 rfl rfl ?_
  refine zr_iconst (v := (0 : Int32)) dX4_init_29 (by decide) ?_
  revert hf; refine zbi (fun h7 e_h7 hf => ?_)
  refine zq_put (kp_90 _) dX4_init_30 (zn_i _) e_h7 ?_
  refine zr_aload_n (v := .inl (some l0)) dX4_init_33 rfl rfl ?_
  refine zr_bipush (v := (6 : Int32)) dX4_init_34 (by decide) ?_
  obtain ⟨a4, h8, e_a4, hf⟩ := zna_spec hf
  refine zq_newa (atype := .int) (t := 0) kw_14 rfl (fun _ _ => rfl) (by decide) dX4_init_36 e_a4 ?_
  revert hf; refine zbi (fun h9 e_h9 hf => ?_)
  refine zq_put kp_91 dX4_init_38 (zn_a _ _) e_h9 ?_
  cases hf
  exact zr_ret none trivial dX4_init_41
theorem c_X4_init {g : zG} (hg : g.2.1.map (fun q => q.2) = zty) {N : Nat} {l0 : Nat} {h : zH} {h' : zH} (hf : f_X4_init N l0 h = some h') : zCa g jX4_init [zr (some l0)] h none h' :=
  zCa.of hg (by decide +kernel) (Nat.le_of_ble_eq_true rfl) (s_X4_init hg N l0 h h' hf)
theorem dX11_isOnField_0 : decode cX11_isOnField 0 = .ok (.iload_n 0, 1) := by decide +kernel
theorem dX11_isOnField_1 : decode cX11_isOnField 1 = .ok (.sipush (-20000), 3) := by decide +kernel
theorem dX11_isOnField_4 : decode cX11_isOnField 4 = .ok (.if_icmp .lt 28, 3) := by decide +kernel
theorem dX11_isOnField_7 : decode cX11_isOnField 7 = .ok (.iload_n 0, 1) := by decide +kernel
theorem dX11_isOnField_8 : decode cX11_isOnField 8 = .ok (.sipush 20000, 3) := by decide +kernel
theorem dX11_isOnField_11 : decode cX11_isOnField 11 = .ok (.if_icmp .gt 21, 3) := by decide +kernel
theorem dX11_isOnField_14 : decode cX11_isOnField 14 = .ok (.iload_n 1, 1) := by decide +kernel
theorem dX11_isOnField_15 : decode cX11_isOnField 15 = .ok (.sipush (-20000), 3) := by decide +kernel
theorem dX11_isOnField_18 : decode cX11_isOnField 18 = .ok (.if_icmp .lt 14, 3) := by decide +kernel
theorem dX11_isOnField_21 : decode cX11_isOnField 21 = .ok (.iload_n 1, 1) := by decide +kernel
theorem dX11_isOnField_22 : decode cX11_isOnField 22 = .ok (.sipush 20000, 3) := by decide +kernel
theorem dX11_isOnField_25 : decode cX11_isOnField 25 = .ok (.if_icmp .gt 7, 3) := by decide +kernel
theorem dX11_isOnField_28 : decode cX11_isOnField 28 = .ok (.iconst 1, 1) := by decide +kernel
theorem dX11_isOnField_29 : decode cX11_isOnField 29 = .ok (.goto 4, 3) := by decide +kernel
theorem dX11_isOnField_32 : decode cX11_isOnField 32 = .ok (.iconst 0, 1) := by decide +kernel
theorem dX11_isOnField_33 : decode cX11_isOnField 33 = .ok (.ireturn, 1) := by decide +kernel
def f_X11_isOnField (N : Nat) (l0 : Int32) (l1 : Int32) (h : zH) : Option Int32 := if l0 < ((-20000) : Int32) then some (0 : Int32) else if (20000 : Int32) < l0 then some (0 : Int32) else if l1 < ((-20000) : Int32) then some (0 : Int32) else if (20000 : Int32) < l1 then some (0 : Int32) else some (1 : Int32)
set_option maxHeartbeats 4000000 in
set_option maxRecDepth 100000 in
theorem s_X11_isOnField {g : zG} (hg : g.2.1.map (fun q => q.2) = zty) {h0 : zH} (N : Nat) (l0 : Int32) (l1 : Int32) (h : zH) (r : Int32) (hf : f_X11_isOnField N l0 l1 h = some r) : zR g jX11_isOnField h0 0 [some (zi l0), some (zi l1)] [] h (some (zi r)) h := by
  unfold f_X11_isOnField at hf
  refine zr_iload_n (x := l0) dX11_isOnField_0 rfl rfl ?_
  refine zr_sipush (v := ((-20000) : Int32)) dX11_isOnField_1 (by decide) ?_
  by_cases hc1 : l0 < ((-20000) : Int32)
  · rw [if_pos hc1] at hf
    refine zr_iclt_t (tgt := 32) dX11_isOnField_4 (by decide) hc1 ?_
    refine zr_iconst (v := (0 : Int32)) dX11_isOnField_32 (by decide) ?_
    cases hf
    exact zr_ret _ rfl dX11_isOnField_33
  · rw [if_neg hc1] at hf
    refine zr_iclt_f 32 dX11_isOnField_4 (by decide) hc1 ?_
    refine zr_iload_n (x := l0) dX11_isOnField_7 rfl rfl ?_
    refine zr_sipush (v := (20000 : Int32)) dX11_isOnField_8 (by decide) ?_
    by_cases hc2 : (20000 : Int32) < l0
    · rw [if_pos hc2] at hf
      refine zr_icgt_t (tgt := 32) dX11_isOnField_11 (by decide) hc2 ?_
      refine zr_iconst (v := (0 : Int32)) dX11_isOnField_32 (by decide) ?_
      cases hf
      exact zr_ret _ rfl dX11_isOnField_33
    · rw [if_neg hc2] at hf
      refine zr_icgt_f 32 dX11_isOnField_11 (by decide) hc2 ?_
      refine zr_iload_n (x := l1) dX11_isOnField_14 rfl rfl ?_
      refine zr_sipush (v := ((-20000) : Int32)) dX11_isOnField_15 (by decide) ?_
      by_cases hc3 : l1 < ((-20000) : Int32)
      · rw [if_pos hc3] at hf
        refine zr_iclt_t (tgt := 32) dX11_isOnField_18 (by decide) hc3 ?_
        refine zr_iconst (v := (0 : Int32)) dX11_isOnField_32 (by decide) ?_
        cases hf
        exact zr_ret _ rfl dX11_isOnField_33
      · rw [if_neg hc3] at hf
        refine zr_iclt_f 32 dX11_isOnField_18 (by decide) hc3 ?_
        refine zr_iload_n (x := l1) dX11_isOnField_21 rfl rfl ?_
        refine zr_sipush (v := (20000 : Int32)) dX11_isOnField_22 (by decide) ?_
        by_cases hc4 : (20000 : Int32) < l1
        · rw [if_pos hc4] at hf
          refine zr_icgt_t (tgt := 32) dX11_isOnField_25 (by decide) hc4 ?_
          refine zr_iconst (v := (0 : Int32)) dX11_isOnField_32 (by decide) ?_
          cases hf
          exact zr_ret _ rfl dX11_isOnField_33
        · rw [if_neg hc4] at hf
          refine zr_icgt_f 32 dX11_isOnField_25 (by decide) hc4 ?_
          refine zr_iconst (v := (1 : Int32)) dX11_isOnField_28 (by decide) ?_
          refine zr_goto (tgt := 33) dX11_isOnField_29 (by decide) ?_
          cases hf
          exact zr_ret _ rfl dX11_isOnField_33
theorem c_X11_isOnField {g : zG} (hg : g.2.1.map (fun q => q.2) = zty) {N : Nat} {l0 : Int32} {l1 : Int32} {h : zH} {r : Int32} (hf : f_X11_isOnField N l0 l1 h = some r) : zCa g jX11_isOnField [zi l0, zi l1] h (some (zi r)) h :=
  zCa.of hg (by decide +kernel) (Nat.le_of_ble_eq_true rfl) (s_X11_isOnField hg N l0 l1 h r hf)
theorem dX4_canBe_0 : decode cX4_canBe 0 = .ok (.iload_n 0, 1) := by decide +kernel
theorem dX4_canBe_1 : decode cX4_canBe 1 = .ok (.tableswitch 59 0 4 #[35, 41, 41, 41, 43], 35) := by decide +kernel
theorem dX4_canBe_36 : decode cX4_canBe 36 = .ok (.iload_n 1, 1) := by decide +kernel
theorem dX4_canBe_37 : decode cX4_canBe 37 = .ok (.iload_n 2, 1) := by decide +kernel
theorem dX4_canBe_38 : decode cX4_canBe 38 = .ok (.invokestatic 32, 3) := by decide +kernel
theorem dX4_canBe_41 : decode cX4_canBe 41 = .ok (.ireturn, 1) := by decide +kernel
theorem dX4_canBe_42 : decode cX4_canBe 42 = .ok (.iconst 1, 1) := by decide +kernel
theorem dX4_canBe_43 : decode cX4_canBe 43 = .ok (.ireturn, 1) := by decide +kernel
theorem dX4_canBe_44 : decode cX4_canBe 44 = .ok (.iload_n 1, 1) := by decide +kernel
theorem dX4_canBe_45 : decode cX4_canBe 45 = .ok (.ifCond .lt 13, 3) := by decide +kernel
theorem dX4_canBe_48 : decode cX4_canBe 48 = .ok (.iload_n 1, 1) := by decide +kernel
theorem dX4_canBe_49 : decode cX4_canBe 49 = .ok (.bipush 6, 2) := by decide +kernel
theorem dX4_canBe_51 : decode cX4_canBe 51 = .ok (.if_icmp .ge 7, 3) := by decide +kernel
theorem dX4_canBe_54 : decode cX4_canBe 54 = .ok (.iconst 1, 1) := by decide +kernel
theorem dX4_canBe_55 : decode cX4_canBe 55 = .ok (.goto 4, 3) := by decide +kernel
theorem dX4_canBe_58 : decode cX4_canBe 58 = .ok (.iconst 0, 1) := by decide +kernel
theorem dX4_canBe_59 : decode cX4_canBe 59 = .ok (.ireturn, 1) := by decide +kernel
theorem dX4_canBe_60 : decode cX4_canBe 60 = .ok (.iconst 0, 1) := by decide +kernel
theorem dX4_canBe_61 : decode cX4_canBe 61 = .ok (.ireturn, 1) := by decide +kernel
def f_X4_canBe (N : Nat) (l0 : Int32) (l1 : Int32) (l2 : Int32) (h : zH) : Option Int32 := if l0 = (0 : Int32) then (f_X11_isOnField N l1 l2 h).bind fun x1 => if x1 = 0 ∨ x1 = 1 then some x1 else none else if l0 = (1 : Int32) then some (1 : Int32) else if l0 = (2 : Int32) then some (1 : Int32) else if l0 = (3 : Int32) then some (1 : Int32) else if l0 = (4 : Int32) then if l1 < 0 then some (0 : Int32) else if (6 : Int32) ≤ l1 then some (0 : Int32) else some (1 : Int32) else some (0 : Int32)
set_option maxHeartbeats 4000000 in
set_option maxRecDepth 100000 in
theorem s_X4_canBe {g : zG} (hg : g.2.1.map (fun q => q.2) = zty) {h0 : zH} (N : Nat) (l0 : Int32) (l1 : Int32) (l2 : Int32) (h : zH) (r : Int32) (hf : f_X4_canBe N l0 l1 l2 h = some r) : zR g jX4_canBe h0 0 [some (zi l0), some (zi l1), some (zi l2)] [] h (some (zi r)) h := by
  unfold f_X4_canBe at hf
  refine zr_iload_n (x := l0) dX4_canBe_0 rfl rfl ?_
  by_cases hc1 : l0 = (0 : Int32)
  · rw [if_pos hc1] at hf
    refine zr_tabIn (off := 35) (tgt := 36) dX4_canBe_1 (by rw [hc1]; decide) (by rw [hc1]; rfl) (by decide) ?_
    refine zr_iload_n (x := l1) dX4_canBe_36 rfl rfl ?_
    refine zr_iload_n (x := l2) dX4_canBe_37 rfl rfl ?_
    revert hf; refine zbi (fun x1 e_x1 hf => ?_)
    refine zq_callSN (J' := jX11_isOnField) (as := [zi l1, zi l2]) (rest := []) (r1 := (some (zi x1))) kw_141 km_X11_isOnField kt_93 dX4_canBe_38 rfl (Nat.le_of_ble_eq_true rfl) rfl (c_X11_isOnField hg e_x1) ?_
    by_cases hc2 : x1 = 0 ∨ x1 = 1
    · rw [if_pos hc2] at hf
      cases hf
      exact zr_ret _ (zok_b hc2) dX4_canBe_41
    · rw [if_neg hc2] at hf
      cases hf
  · rw [if_neg hc1] at hf
    by_cases hc3 : l0 = (1 : Int32)
    · rw [if_pos hc3] at hf
      refine zr_tabIn (off := 41) (tgt := 42) dX4_canBe_1 (by rw [hc3]; decide) (by rw [hc3]; rfl) (by decide) ?_
      refine zr_iconst (v := (1 : Int32)) dX4_canBe_42 (by decide) ?_
      cases hf
      exact zr_ret _ rfl dX4_canBe_43
    · rw [if_neg hc3] at hf
      by_cases hc4 : l0 = (2 : Int32)
      · rw [if_pos hc4] at hf
        refine zr_tabIn (off := 41) (tgt := 42) dX4_canBe_1 (by rw [hc4]; decide) (by rw [hc4]; rfl) (by decide) ?_
        refine zr_iconst (v := (1 : Int32)) dX4_canBe_42 (by decide) ?_
        cases hf
        exact zr_ret _ rfl dX4_canBe_43
      · rw [if_neg hc4] at hf
        by_cases hc5 : l0 = (3 : Int32)
        · rw [if_pos hc5] at hf
          refine zr_tabIn (off := 41) (tgt := 42) dX4_canBe_1 (by rw [hc5]; decide) (by rw [hc5]; rfl) (by decide) ?_
          refine zr_iconst (v := (1 : Int32)) dX4_canBe_42 (by decide) ?_
          cases hf
          exact zr_ret _ rfl dX4_canBe_43
        · rw [if_neg hc5] at hf
          by_cases hc6 : l0 = (4 : Int32)
          · rw [if_pos hc6] at hf
            refine zr_tabIn (off := 43) (tgt := 44) dX4_canBe_1 (by rw [hc6]; decide) (by rw [hc6]; rfl) (by decide) ?_
            refine zr_iload_n (x := l1) dX4_canBe_44 rfl rfl ?_
            by_cases hc7 : l1 < 0
            · rw [if_pos hc7] at hf
              refine zr_iflt_t (tgt := 58) dX4_canBe_45 (by decide) hc7 ?_
              refine zr_iconst (v := (0 : Int32)) dX4_canBe_58 (by decide) ?_
              cases hf
              exact zr_ret _ rfl dX4_canBe_59
            · rw [if_neg hc7] at hf
              refine zr_iflt_f 58 dX4_canBe_45 (by decide) hc7 ?_
              refine zr_iload_n (x := l1) dX4_canBe_48 rfl rfl ?_
              refine zr_bipush (v := (6 : Int32)) dX4_canBe_49 (by decide) ?_
              by_cases hc8 : (6 : Int32) ≤ l1
              · rw [if_pos hc8] at hf
                refine zr_icge_t (tgt := 58) dX4_canBe_51 (by decide) hc8 ?_
                refine zr_iconst (v := (0 : Int32)) dX4_canBe_58 (by decide) ?_
                cases hf
                exact zr_ret _ rfl dX4_canBe_59
              · rw [if_neg hc8] at hf
                refine zr_icge_f 58 dX4_canBe_51 (by decide) hc8 ?_
                refine zr_iconst (v := (1 : Int32)) dX4_canBe_54 (by decide) ?_
                refine zr_goto (tgt := 59) dX4_canBe_55 (by decide) ?_
                cases hf
                exact zr_ret _ rfl dX4_canBe_59
          · rw [if_neg hc6] at hf
            refine zr_tabOut (tgt := 60) dX4_canBe_1 (fun q => by have n0 := zne (n := 0) hc1 (by decide); have n1 := zne (n := 1) hc3 (by decide); have n2 := zne (n := 2) hc4 (by decide); have n3 := zne (n := 3) hc5 (by decide); have n4 := zne (n := 4) hc6 (by decide); omega) (by decide) ?_
            refine zr_iconst (v := (0 : Int32)) dX4_canBe_60 (by decide) ?_
            cases hf
            exact zr_ret _ rfl dX4_canBe_61
theorem c_X4_canBe {g : zG} (hg : g.2.1.map (fun q => q.2) = zty) {N : Nat} {l0 : Int32} {l1 : Int32} {l2 : Int32} {h : zH} {r : Int32} (hf : f_X4_canBe N l0 l1 l2 h = some r) : zCa g jX4_canBe [zi l0, zi l1, zi l2] h (some (zi r)) h :=
  zCa.of hg (by decide +kernel) (Nat.le_of_ble_eq_true rfl) (s_X4_canBe hg N l0 l1 l2 h r hf)
theorem dX4_add_0 : decode cX4_add 0 = .ok (.aload_n 0, 1) := by decide +kernel
theorem dX4_add_1 : decode cX4_add 1 = .ok (.getfield 21, 3) := by decide +kernel
theorem dX4_add_4 : decode cX4_add 4 = .ok (.bipush 6, 2) := by decide +kernel
theorem dX4_add_6 : decode cX4_add 6 = .ok (.if_icmp .ge 12, 3) := by decide +kernel
theorem dX4_add_9 : decode cX4_add 9 = .ok (.iload_n 1, 1) := by decide +kernel
theorem dX4_add_10 : decode cX4_add 10 = .ok (.iload_n 2, 1) := by decide +kernel
theorem dX4_add_11 : decode cX4_add 11 = .ok (.iload_n 3, 1) := by decide +kernel
theorem dX4_add_12 : decode cX4_add 12 = .ok (.invokestatic 28, 3) := by decide +kernel
theorem dX4_add_15 : decode cX4_add 15 = .ok (.ifCond .ne 5, 3) := by decide +kernel
theorem dX4_add_18 : decode cX4_add 18 = .ok (.iconst 0, 1) := by decide +kernel
theorem dX4_add_19 : decode cX4_add 19 = .ok (.ireturn, 1) := by decide +kernel
theorem dX4_add_20 : decode cX4_add 20 = .ok (.aload_n 0, 1) := by decide +kernel
theorem dX4_add_21 : decode cX4_add 21 = .ok (.getfield 11, 3) := by decide +kernel
theorem dX4_add_24 : decode cX4_add 24 = .ok (.aload_n 0, 1) := by decide +kernel
theorem dX4_add_25 : decode cX4_add 25 = .ok (.getfield 21, 3) := by decide +kernel
theorem dX4_add_28 : decode cX4_add 28 = .ok (.iload_n 1, 1) := by decide +kernel
theorem dX4_add_29 : decode cX4_add 29 = .ok (.iastore, 1) := by decide +kernel
theorem dX4_add_30 : decode cX4_add 30 = .ok (.aload_n 0, 1) := by decide +kernel
theorem dX4_add_31 : decode cX4_add 31 = .ok (.getfield 15, 3) := by decide +kernel
theorem dX4_add_34 : decode cX4_add 34 = .ok (.aload_n 0, 1) := by decide +kernel
theorem dX4_add_35 : decode cX4_add 35 = .ok (.getfield 21, 3) := by decide +kernel
theorem dX4_add_38 : decode cX4_add 38 = .ok (.iload_n 2, 1) := by decide +kernel
theorem dX4_add_39 : decode cX4_add 39 = .ok (.iastore, 1) := by decide +kernel
theorem dX4_add_40 : decode cX4_add 40 = .ok (.aload_n 0, 1) := by decide +kernel
theorem dX4_add_41 : decode cX4_add 41 = .ok (.getfield 18, 3) := by decide +kernel
theorem dX4_add_44 : decode cX4_add 44 = .ok (.aload_n 0, 1) := by decide +kernel
theorem dX4_add_45 : decode cX4_add 45 = .ok (.getfield 21, 3) := by decide +kernel
theorem dX4_add_48 : decode cX4_add 48 = .ok (.iload_n 3, 1) := by decide +kernel
theorem dX4_add_49 : decode cX4_add 49 = .ok (.iastore, 1) := by decide +kernel
theorem dX4_add_50 : decode cX4_add 50 = .ok (.aload_n 0, 1) := by decide +kernel
theorem dX4_add_51 : decode cX4_add 51 = .ok (.dup, 1) := by decide +kernel
theorem dX4_add_52 : decode cX4_add 52 = .ok (.getfield 21, 3) := by decide +kernel
theorem dX4_add_55 : decode cX4_add 55 = .ok (.iconst 1, 1) := by decide +kernel
theorem dX4_add_56 : decode cX4_add 56 = .ok (.iadd, 1) := by decide +kernel
theorem dX4_add_57 : decode cX4_add 57 = .ok (.putfield 21, 3) := by decide +kernel
theorem dX4_add_60 : decode cX4_add 60 = .ok (.iconst 1, 1) := by decide +kernel
theorem dX4_add_61 : decode cX4_add 61 = .ok (.ireturn, 1) := by decide +kernel
def f_X4_add (N : Nat) (l0 : Nat) (l1 : Int32) (l2 : Int32) (l3 : Int32) (h : zH) : Option (Int32 × zH) := (zgI h 4 (some l0) 3).bind fun x1 => if (6 : Int32) ≤ x1 then some ((0 : Int32), h) else (f_X4_canBe N l1 l2 l3 h).bind fun x2 => if x2 = 0 then some ((0 : Int32), h) else (zgR h 4 (some l0) 0).bind fun x3 => (zgI h 4 (some l0) 3).bind fun x4 => (zst h 0 x3 x4 l1).bind fun h1 => (zgR h1 4 (some l0) 1).bind fun x5 => (zgI h1 4 (some l0) 3).bind fun x6 => (zst h1 0 x5 x6 l2).bind fun h2 => (zgR h2 4 (some l0) 2).bind fun x7 => (zgI h2 4 (some l0) 3).bind fun x8 => (zst h2 0 x7 x8 l3).bind fun h3 => (zgI h3 4 (some l0) 3).bind fun x9 => (zpu h3 4 (some l0) 3 (zi (x9 + (1 : Int32)))).bind fun h4 => some ((1 : Int32), h4)
set_option maxHeartbeats 4000000 in
set_option maxRecDepth 100000 in
theorem s_X4_add {g : zG} (hg : g.2.1.map (fun q => q.2) = zty) {h0 : zH} (N : Nat) (l0 : Nat) (l1 : Int32) (l2 : Int32) (l3 : Int32) (h : zH) (r : Int32) (h' : zH) (hf : f_X4_add N l0 l1 l2 l3 h = some (r, h')) : zR g jX4_add h0 0 [some (zr (some l0)), some (zi l1), some (zi l2), some (zi l3)] [] h (some (zi r)) h' := by
  unfold f_X4_add at hf
  refine zr_aload_n (v := .inl (some l0)) dX4_add_0 rfl rfl ?_
  revert hf; refine zbi (fun x1 e_x1 hf => ?_)
  refine zq_getI kg_94 dX4_add_1 e_x1 ?_
  refine zr_bipush (v := (6 : Int32)) dX4_add_4 (by decide) ?_
  by_cases hc1 : (6 : Int32) ≤ x1
  · rw [if_pos hc1] at hf
    refine zr_icge_t (tgt := 18) dX4_add_6 (by decide) hc1 ?_
    refine zr_iconst (v := (0 : Int32)) dX4_add_18 (by decide) ?_
    cases hf
    exact zr_ret _ rfl dX4_add_19
  · rw [if_neg hc1] at hf
    refine zr_icge_f 18 dX4_add_6 (by decide) hc1 ?_
    refine zr_iload_n (x := l1) dX4_add_9 rfl rfl ?_
    refine zr_iload_n (x := l2) dX4_add_10 rfl rfl ?_
    refine zr_iload_n (x := l3) dX4_add_11 rfl rfl ?_
    revert hf; refine zbi (fun x2 e_x2 hf => ?_)
    refine zq_callS (J' := jX4_canBe) (as := [zi l1, zi l2, zi l3]) (rest := []) (r1 := (some (zi x2))) kw_145 km_X4_canBe kt_96 dX4_add_12 rfl (Nat.le_of_ble_eq_true rfl) rfl (c_X4_canBe hg e_x2) ?_
    by_cases hc2 : x2 = 0
    · rw [if_pos hc2] at hf
      refine zr_ifne_f 20 dX4_add_15 (by decide) hc2 ?_
      refine zr_iconst (v := (0 : Int32)) dX4_add_18 (by decide) ?_
      cases hf
      exact zr_ret _ rfl dX4_add_19
    · rw [if_neg hc2] at hf
      refine zr_ifne_t (tgt := 20) dX4_add_15 (by decide) hc2 ?_
      refine zr_aload_n (v := .inl (some l0)) dX4_add_20 rfl rfl ?_
      revert hf; refine zbi (fun x3 e_x3 hf => ?_)
      refine zq_getR kg_97 dX4_add_21 e_x3 ?_
      refine zr_aload_n (v := .inl (some l0)) dX4_add_24 rfl rfl ?_
      revert hf; refine zbi (fun x4 e_x4 hf => ?_)
      refine zq_getI kg_94 dX4_add_25 e_x4 ?_
      refine zr_iload_n (x := l1) dX4_add_28 rfl rfl ?_
      revert hf; refine zbi (fun h1 e_h1 hf => ?_)
      refine zq_iast dX4_add_29 e_h1 ?_
      refine zr_aload_n (v := .inl (some l0)) dX4_add_30 rfl rfl ?_
      revert hf; refine zbi (fun x5 e_x5 hf => ?_)
      refine zq_getR kg_98 dX4_add_31 e_x5 ?_
      refine zr_aload_n (v := .inl (some l0)) dX4_add_34 rfl rfl ?_
      revert hf; refine zbi (fun x6 e_x6 hf => ?_)
      refine zq_getI kg_94 dX4_add_35 e_x6 ?_
      refine zr_iload_n (x := l2) dX4_add_38 rfl rfl ?_
      revert hf; refine zbi (fun h2 e_h2 hf => ?_)
      refine zq_iast dX4_add_39 e_h2 ?_
      refine zr_aload_n (v := .inl (some l0)) dX4_add_40 rfl rfl ?_
      revert hf; refine zbi (fun x7 e_x7 hf => ?_)
      refine zq_getR kg_99 dX4_add_41 e_x7 ?_
      refine zr_aload_n (v := .inl (some l0)) dX4_add_44 rfl rfl ?_
      revert hf; refine zbi (fun x8 e_x8 hf => ?_)
      refine zq_getI kg_94 dX4_add_45 e_x8 ?_
      refine zr_iload_n (x := l3) dX4_add_48 rfl rfl ?_
      revert hf; refine zbi (fun h3 e_h3 hf => ?_)
      refine zq_iast dX4_add_49 e_h3 ?_
      refine zr_aload_n (v := .inl (some l0)) dX4_add_50 rfl rfl ?_
      refine zr_dup dX4_add_51 ?_
      revert hf; refine zbi (fun x9 e_x9 hf => ?_)
      refine zq_getI kg_94 dX4_add_52 e_x9 ?_
      refine zr_iconst (v := (1 : Int32)) dX4_add_55 (by decide) ?_
      refine zr_iadd dX4_add_56 ?_
      revert hf; refine zbi (fun h4 e_h4 hf => ?_)
      refine zq_put (kp_100 _) dX4_add_57 (zn_i _) e_h4 ?_
      refine zr_iconst (v := (1 : Int32)) dX4_add_60 (by decide) ?_
      cases hf
      exact zr_ret _ rfl dX4_add_61
theorem c_X4_add {g : zG} (hg : g.2.1.map (fun q => q.2) = zty) {N : Nat} {l0 : Nat} {l1 : Int32} {l2 : Int32} {l3 : Int32} {h : zH} {r : Int32} {h' : zH} (hf : f_X4_add N l0 l1 l2 l3 h = some (r, h')) : zCa g jX4_add [zr (some l0), zi l1, zi l2, zi l3] h (some (zi r)) h' :=
  zCa.of hg (by decide +kernel) (Nat.le_of_ble_eq_true rfl) (s_X4_add hg N l0 l1 l2 l3 h r h' hf)
theorem dX4_empty_0 : decode cX4_empty 0 = .ok (.aload_n 0, 1) := by decide +kernel
theorem dX4_empty_1 : decode cX4_empty 1 = .ok (.getfield 21, 3) := by decide +kernel
theorem dX4_empty_4 : decode cX4_empty 4 = .ok (.istore_n 1, 1) := by decide +kernel
theorem dX4_empty_5 : decode cX4_empty 5 = .ok (.aload_n 0, 1) := by decide +kernel
theorem dX4_empty_6 : decode cX4_empty 6 = .ok (.iconst 0, 1) := by decide +kernel
theorem dX4_empty_7 : decode cX4_empty 7 = .ok (.putfield 21, 3) := by decide +kernel
theorem dX4_empty_10 : decode cX4_empty 10 = .ok (.iload_n 1, 1) := by decide +kernel
theorem dX4_empty_11 : decode cX4_empty 11 = .ok (.ireturn, 1) := by decide +kernel
def f_X4_empty (N : Nat) (l0 : Nat) (h : zH) : Option (Int32 × zH) := (zgI h 4 (some l0) 3).bind fun x1 => (zpu h 4 (some l0) 3 (zi (0 : Int32))).bind fun h1 => some (x1, h1)
set_option maxHeartbeats 4000000 in
set_option maxRecDepth 100000 in
theorem s_X4_empty {g : zG} (hg : g.2.1.map (fun q => q.2) = zty) {h0 : zH} (N : Nat) (l0 : Nat) (h : zH) (r : Int32) (h' : zH) (hf : f_X4_empty N l0 h = some (r, h')) : zR g jX4_empty h0 0 [some (zr (some l0)), none] [] h (some (zi r)) h' := by
  unfold f_X4_empty at hf
  refine zr_aload_n (v := .inl (some l0)) dX4_empty_0 rfl rfl ?_
  revert hf; refine zbi (fun x1 e_x1 hf => ?_)
  refine zq_getI kg_94 dX4_empty_1 e_x1 ?_
  refine zq_istore_n (x := x1) (L' := [some (zr (some l0)), some (zi x1)]) dX4_empty_4 rfl (by decide) rfl ?_
  refine zr_aload_n (v := .inl (some l0)) dX4_empty_5 rfl rfl ?_
  refine zr_iconst (v := (0 : Int32)) dX4_empty_6 (by decide) ?_
  revert hf; refine zbi (fun h1 e_h1 hf => ?_)
  refine zq_put (kp_100 _) dX4_empty_7 (zn_i _) e_h1 ?_
  refine zr_iload_n (x := x1) dX4_empty_10 rfl rfl ?_
  cases hf
  exact zr_ret _ rfl dX4_empty_11
theorem c_X4_empty {g : zG} (hg : g.2.1.map (fun q => q.2) = zty) {N : Nat} {l0 : Nat} {h : zH} {r : Int32} {h' : zH} (hf : f_X4_empty N l0 h = some (r, h')) : zCa g jX4_empty [zr (some l0)] h (some (zi r)) h' :=
  zCa.of hg (by decide +kernel) (Nat.le_of_ble_eq_true rfl) (s_X4_empty hg N l0 h r h' hf)
theorem dX6_isSet_0 : decode cX6_isSet 0 = .ok (.iload_n 1, 1) := by decide +kernel
theorem dX6_isSet_1 : decode cX6_isSet 1 = .ok (.ifCond .lt 26, 3) := by decide +kernel
theorem dX6_isSet_4 : decode cX6_isSet 4 = .ok (.iload_n 1, 1) := by decide +kernel
theorem dX6_isSet_5 : decode cX6_isSet 5 = .ok (.aload_n 0, 1) := by decide +kernel
theorem dX6_isSet_6 : decode cX6_isSet 6 = .ok (.getfield 43, 3) := by decide +kernel
theorem dX6_isSet_9 : decode cX6_isSet 9 = .ok (.arraylength, 1) := by decide +kernel
theorem dX6_isSet_10 : decode cX6_isSet 10 = .ok (.if_icmp .ge 17, 3) := by decide +kernel
theorem dX6_isSet_13 : decode cX6_isSet 13 = .ok (.aload_n 0, 1) := by decide +kernel
theorem dX6_isSet_14 : decode cX6_isSet 14 = .ok (.getfield 43, 3) := by decide +kernel
theorem dX6_isSet_17 : decode cX6_isSet 17 = .ok (.iload_n 1, 1) := by decide +kernel
theorem dX6_isSet_18 : decode cX6_isSet 18 = .ok (.iaload, 1) := by decide +kernel
theorem dX6_isSet_19 : decode cX6_isSet 19 = .ok (.iconst (-1), 1) := by decide +kernel
theorem dX6_isSet_20 : decode cX6_isSet 20 = .ok (.if_icmp .eq 7, 3) := by decide +kernel
theorem dX6_isSet_23 : decode cX6_isSet 23 = .ok (.iconst 1, 1) := by decide +kernel
theorem dX6_isSet_24 : decode cX6_isSet 24 = .ok (.goto 4, 3) := by decide +kernel
theorem dX6_isSet_27 : decode cX6_isSet 27 = .ok (.iconst 0, 1) := by decide +kernel
theorem dX6_isSet_28 : decode cX6_isSet 28 = .ok (.ireturn, 1) := by decide +kernel
def f_X6_isSet (N : Nat) (l0 : Nat) (l1 : Int32) (h : zH) : Option Int32 := if l1 < 0 then some (0 : Int32) else (zgR h 6 (some l0) 10).bind fun x1 => (zlen h x1).bind fun x2 => if x2 ≤ l1 then some (0 : Int32) else (zgR h 6 (some l0) 10).bind fun x3 => (zld h 0 x3 l1).bind fun x4 => if x4 = ((-1) : Int32) then some (0 : Int32) else some (1 : Int32)
set_option maxHeartbeats 4000000 in
set_option maxRecDepth 100000 in
theorem s_X6_isSet {g : zG} (hg : g.2.1.map (fun q => q.2) = zty) {h0 : zH} (N : Nat) (l0 : Nat) (l1 : Int32) (h : zH) (r : Int32) (hf : f_X6_isSet N l0 l1 h = some r) : zR g jX6_isSet h0 0 [some (zr (some l0)), some (zi l1)] [] h (some (zi r)) h := by
  unfold f_X6_isSet at hf
  refine zr_iload_n (x := l1) dX6_isSet_0 rfl rfl ?_
  by_cases hc1 : l1 < 0
  · rw [if_pos hc1] at hf
    refine zr_iflt_t (tgt := 27) dX6_isSet_1 (by decide) hc1 ?_
    refine zr_iconst (v := (0 : Int32)) dX6_isSet_27 (by decide) ?_
    cases hf
    exact zr_ret _ rfl dX6_isSet_28
  · rw [if_neg hc1] at hf
    refine zr_iflt_f 27 dX6_isSet_1 (by decide) hc1 ?_
    refine zr_iload_n (x := l1) dX6_isSet_4 rfl rfl ?_
    refine zr_aload_n (v := .inl (some l0)) dX6_isSet_5 rfl rfl ?_
    revert hf; refine zbi (fun x1 e_x1 hf => ?_)
    refine zq_getR kg_101 dX6_isSet_6 e_x1 ?_
    revert hf; refine zbi (fun x2 e_x2 hf => ?_)
    refine zq_alen dX6_isSet_9 e_x2 ?_
    by_cases hc2 : x2 ≤ l1
    · rw [if_pos hc2] at hf
      refine zr_icge_t (tgt := 27) dX6_isSet_10 (by decide) hc2 ?_
      refine zr_iconst (v := (0 : Int32)) dX6_isSet_27 (by decide) ?_
      cases hf
      exact zr_ret _ rfl dX6_isSet_28
    · rw [if_neg hc2] at hf
      refine zr_icge_f 27 dX6_isSet_10 (by decide) hc2 ?_
      refine zr_aload_n (v := .inl (some l0)) dX6_isSet_13 rfl rfl ?_
      revert hf; refine zbi (fun x3 e_x3 hf => ?_)
      refine zq_getR kg_101 dX6_isSet_14 e_x3 ?_
      refine zr_iload_n (x := l1) dX6_isSet_17 rfl rfl ?_
      revert hf; refine zbi (fun x4 e_x4 hf => ?_)
      refine zq_iald dX6_isSet_18 e_x4 ?_
      refine zr_iconst (v := ((-1) : Int32)) dX6_isSet_19 (by decide) ?_
      by_cases hc3 : x4 = ((-1) : Int32)
      · rw [if_pos hc3] at hf
        refine zr_iceq_t (tgt := 27) dX6_isSet_20 (by decide) hc3 ?_
        refine zr_iconst (v := (0 : Int32)) dX6_isSet_27 (by decide) ?_
        cases hf
        exact zr_ret _ rfl dX6_isSet_28
      · rw [if_neg hc3] at hf
        refine zr_iceq_f 27 dX6_isSet_20 (by decide) hc3 ?_
        refine zr_iconst (v := (1 : Int32)) dX6_isSet_23 (by decide) ?_
        refine zr_goto (tgt := 28) dX6_isSet_24 (by decide) ?_
        cases hf
        exact zr_ret _ rfl dX6_isSet_28
theorem c_X6_isSet {g : zG} (hg : g.2.1.map (fun q => q.2) = zty) {N : Nat} {l0 : Nat} {l1 : Int32} {h : zH} {r : Int32} (hf : f_X6_isSet N l0 l1 h = some r) : zCa g jX6_isSet [zr (some l0), zi l1] h (some (zi r)) h :=
  zCa.of hg (by decide +kernel) (Nat.le_of_ble_eq_true rfl) (s_X6_isSet hg N l0 l1 h r hf)
