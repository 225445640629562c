theorem dX6_countEnds_0 : decode cX6_countEnds 0 = .ok (.iconst 0, 1) := by decide +kernel
theorem dX6_countEnds_1 : decode cX6_countEnds 1 = .ok (.istore_n 1, 1) := by decide +kernel
theorem dX6_countEnds_2 : decode cX6_countEnds 2 = .ok (.iconst 0, 1) := by decide +kernel
theorem dX6_countEnds_3 : decode cX6_countEnds 3 = .ok (.istore_n 2, 1) := by decide +kernel
theorem dX6_countEnds_4 : decode cX6_countEnds 4 = .ok (.iload_n 2, 1) := by decide +kernel
theorem dX6_countEnds_5 : decode cX6_countEnds 5 = .ok (.aload_n 0, 1) := by decide +kernel
theorem dX6_countEnds_6 : decode cX6_countEnds 6 = .ok (.getfield 25, 3) := by decide +kernel
theorem dX6_countEnds_9 : decode cX6_countEnds 9 = .ok (.if_icmp .ge 18, 3) := by decide +kernel
theorem dX6_countEnds_12 : decode cX6_countEnds 12 = .ok (.iload_n 1, 1) := by decide +kernel
theorem dX6_countEnds_13 : decode cX6_countEnds 13 = .ok (.aload_n 0, 1) := by decide +kernel
theorem dX6_countEnds_14 : decode cX6_countEnds 14 = .ok (.getfield 28, 3) := by decide +kernel
theorem dX6_countEnds_17 : decode cX6_countEnds 17 = .ok (.iload_n 2, 1) := by decide +kernel
theorem dX6_countEnds_18 : decode cX6_countEnds 18 = .ok (.iaload, 1) := by decide +kernel
theorem dX6_countEnds_19 : decode cX6_countEnds 19 = .ok (.iadd, 1) := by decide +kernel
theorem dX6_countEnds_20 : decode cX6_countEnds 20 = .ok (.istore_n 1, 1) := by decide +kernel
theorem dX6_countEnds_21 : decode cX6_countEnds 21 = .ok (.iinc 2 1, 3) := by decide +kernel
theorem dX6_countEnds_24 : decode cX6_countEnds 24 = .ok (.goto (-20), 3) := by decide +kernel
theorem dX6_countEnds_27 : decode cX6_countEnds 27 = .ok (.iload_n 1, 1) := by decide +kernel
theorem dX6_countEnds_28 : decode cX6_countEnds 28 = .ok (.ireturn, 1) := by decide +kernel
def f_X6_countEnds_4 (N : Nat) : Nat → Nat → Int32 → Int32 → zH → Option Int32
  | 0, _, _, _, _ => none
  | n + 1, l0, l1, l2, h => (zgI h 6 (some l0) 4).bind fun x1 => if x1 ≤ l2 then some l1 else (zgR h 6 (some l0) 5).bind fun x2 => (zld h 0 x2 l2).bind fun x3 => f_X6_countEnds_4 N n l0 (l1 + x3) (l2 + (1 : Int32)) h
set_option maxHeartbeats 4000000 in
set_option maxRecDepth 100000 in
theorem s_X6_countEnds_4 {g : zG} (hg : g.2.1.map (fun q => q.2) = zty) {h0 : zH} (N : Nat) : ∀ (n : Nat) (l0 : Nat) (l1 : Int32) (l2 : Int32) (h : zH) (r : Int32), f_X6_countEnds_4 N n l0 l1 l2 h = some r → zR g jX6_countEnds h0 4 [some (zr (some l0)), some (zi l1), some (zi l2)] [] h (some (zi r)) h := by
  intro n
  induction n with
  | zero =>
    intro l0 l1 l2 h r hf
    cases hf
  | succ n ih =>
    intro l0 l1 l2 h r hf
    rw [f_X6_countEnds_4] at hf
    refine zr_iload_n (x := l2) dX6_countEnds_4 rfl rfl ?_
    refine zr_aload_n (v := .inl (some l0)) dX6_countEnds_5 rfl rfl ?_
    revert hf; refine zbi (fun x1 e_x1 hf => ?_)
    refine zq_getI kg_110 dX6_countEnds_6 e_x1 ?_
    by_cases hc1 : x1 ≤ l2
    · rw [if_pos hc1] at hf
      refine zr_icge_t (tgt := 27) dX6_countEnds_9 (by decide) hc1 ?_
      refine zr_iload_n (x := l1) dX6_countEnds_27 rfl rfl ?_
      cases hf
      exact zr_ret _ rfl dX6_countEnds_28
    · rw [if_neg hc1] at hf
      refine zr_icge_f 27 dX6_countEnds_9 (by decide) hc1 ?_
      refine zr_iload_n (x := l1) dX6_countEnds_12 rfl rfl ?_
      refine zr_aload_n (v := .inl (some l0)) dX6_countEnds_13 rfl rfl ?_
      revert hf; refine zbi (fun x2 e_x2 hf => ?_)
      refine zq_getR kg_194 dX6_countEnds_14 e_x2 ?_
      refine zr_iload_n (x := l2) dX6_countEnds_17 rfl rfl ?_
      revert hf; refine zbi (fun x3 e_x3 hf => ?_)
      refine zq_iald dX6_countEnds_18 e_x3 ?_
      refine zr_iadd dX6_countEnds_19 ?_
      refine zq_istore_n (x := (l1 + x3)) (L' := [some (zr (some l0)), some (zi (l1 + x3)), some (zi l2)]) dX6_countEnds_20 rfl (by decide) rfl ?_
      refine zq_iinc (x := l2) (y := (1 : Int32)) (L' := [some (zr (some l0)), some (zi (l1 + x3)), some (zi (l2 + (1 : Int32)))]) dX6_countEnds_21 rfl (by decide) (by decide) rfl ?_
      refine zr_goto (tgt := 4) dX6_countEnds_24 (by decide) ?_
      exact ih l0 (l1 + x3) (l2 + (1 : Int32)) h r hf
def f_X6_countEnds (N : Nat) (l0 : Nat) (h : zH) : Option Int32 := f_X6_countEnds_4 N N l0 (0 : Int32) (0 : Int32) h
set_option maxHeartbeats 4000000 in
set_option maxRecDepth 100000 in
theorem s_X6_countEnds {g : zG} (hg : g.2.1.map (fun q => q.2) = zty) {h0 : zH} (N : Nat) (l0 : Nat) (h : zH) (r : Int32) (hf : f_X6_countEnds N l0 h = some r) : zR g jX6_countEnds h0 0 [some (zr (some l0)), none, none] [] h (some (zi r)) h := by
  unfold f_X6_countEnds at hf
  refine zr_iconst (v := (0 : Int32)) dX6_countEnds_0 (by decide) ?_
  refine zq_istore_n (x := (0 : Int32)) (L' := [some (zr (some l0)), some (zi (0 : Int32)), none]) dX6_countEnds_1 rfl (by decide) rfl ?_
  refine zr_iconst (v := (0 : Int32)) dX6_countEnds_2 (by decide) ?_
  refine zq_istore_n (x := (0 : Int32)) (L' := [some (zr (some l0)), some (zi (0 : Int32)), some (zi (0 : Int32))]) dX6_countEnds_3 rfl (by decide) rfl ?_
  exact s_X6_countEnds_4 hg N N l0 (0 : Int32) (0 : Int32) h r hf
theorem c_X6_countEnds {g : zG} (hg : g.2.1.map (fun q => q.2) = zty) {N : Nat} {l0 : Nat} {h : zH} {r : Int32} (hf : f_X6_countEnds N l0 h = some r) : zCa g jX6_countEnds [zr (some l0)] h (some (zi r)) h :=
  zCa.of hg (by decide +kernel) (Nat.le_of_ble_eq_true rfl) (s_X6_countEnds hg N l0 h r hf)
theorem dX6_countArrows_0 : decode cX6_countArrows 0 = .ok (.iconst 0, 1) := by decide +kernel
theorem dX6_countArrows_1 : decode cX6_countArrows 1 = .ok (.istore_n 1, 1) := by decide +kernel
theorem dX6_countArrows_2 : decode cX6_countArrows 2 = .ok (.iconst 0, 1) := by decide +kernel
theorem dX6_countArrows_3 : decode cX6_countArrows 3 = .ok (.istore_n 2, 1) := by decide +kernel
theorem dX6_countArrows_4 : decode cX6_countArrows 4 = .ok (.iload_n 2, 1) := by decide +kernel
theorem dX6_countArrows_5 : decode cX6_countArrows 5 = .ok (.aload_n 0, 1) := by decide +kernel
theorem dX6_countArrows_6 : decode cX6_countArrows 6 = .ok (.getfield 25, 3) := by decide +kernel
theorem dX6_countArrows_9 : decode cX6_countArrows 9 = .ok (.if_icmp .ge 25, 3) := by decide +kernel
theorem dX6_countArrows_12 : decode cX6_countArrows 12 = .ok (.iload_n 1, 1) := by decide +kernel
theorem dX6_countArrows_13 : decode cX6_countArrows 13 = .ok (.aload_n 0, 1) := by decide +kernel
theorem dX6_countArrows_14 : decode cX6_countArrows 14 = .ok (.getfield 28, 3) := by decide +kernel
theorem dX6_countArrows_17 : decode cX6_countArrows 17 = .ok (.iload_n 2, 1) := by decide +kernel
theorem dX6_countArrows_18 : decode cX6_countArrows 18 = .ok (.iaload, 1) := by decide +kernel
theorem dX6_countArrows_19 : decode cX6_countArrows 19 = .ok (.aload_n 0, 1) := by decide +kernel
theorem dX6_countArrows_20 : decode cX6_countArrows 20 = .ok (.getfield 31, 3) := by decide +kernel
theorem dX6_countArrows_23 : decode cX6_countArrows 23 = .ok (.iload_n 2, 1) := by decide +kernel
theorem dX6_countArrows_24 : decode cX6_countArrows 24 = .ok (.iaload, 1) := by decide +kernel
theorem dX6_countArrows_25 : decode cX6_countArrows 25 = .ok (.imul, 1) := by decide +kernel
theorem dX6_countArrows_26 : decode cX6_countArrows 26 = .ok (.iadd, 1) := by decide +kernel
theorem dX6_countArrows_27 : decode cX6_countArrows 27 = .ok (.istore_n 1, 1) := by decide +kernel
theorem dX6_countArrows_28 : decode cX6_countArrows 28 = .ok (.iinc 2 1, 3) := by decide +kernel
theorem dX6_countArrows_31 : decode cX6_countArrows 31 = .ok (.goto (-27), 3) := by decide +kernel
theorem dX6_countArrows_34 : decode cX6_countArrows 34 = .ok (.iload_n 1, 1) := by decide +kernel
theorem dX6_countArrows_35 : decode cX6_countArrows 35 = .ok (.ireturn, 1) := by decide +kernel
def f_X6_countArrows_4 (N : Nat) : Nat → Nat → Int32 → Int32 → zH → Option Int32
  | 0, _, _, _, _ => none
  | n + 1, l0, l1, l2, h => (zgI h 6 (some l0) 4).bind fun x1 => if x1 ≤ l2 then some l1 else (zgR h 6 (some l0) 5).bind fun x2 => (zld h 0 x2 l2).bind fun x3 => (zgR h 6 (some l0) 6).bind fun x4 => (zld h 0 x4 l2).bind fun x5 => f_X6_countArrows_4 N n l0 (l1 + (x3 * x5)) (l2 + (1 : Int32)) h
set_option maxHeartbeats 4000000 in
set_option maxRecDepth 100000 in
theorem s_X6_countArrows_4 {g : zG} (hg : g.2.1.map (fun q => q.2) = zty) {h0 : zH} (N : Nat) : ∀ (n : Nat) (l0 : Nat) (l1 : Int32) (l2 : Int32) (h : zH) (r : Int32), f_X6_countArrows_4 N n l0 l1 l2 h = some r → zR g jX6_countArrows h0 4 [some (zr (some l0)), some (zi l1), some (zi l2)] [] h (some (zi r)) h := by
  intro n
  induction n with
  | zero =>
    intro l0 l1 l2 h r hf
    cases hf
  | succ n ih =>
    intro l0 l1 l2 h r hf
    rw [f_X6_countArrows_4] at hf
    refine zr_iload_n (x := l2) dX6_countArrows_4 rfl rfl ?_
    refine zr_aload_n (v := .inl (some l0)) dX6_countArrows_5 rfl rfl ?_
    revert hf; refine zbi (fun x1 e_x1 hf => ?_)
    refine zq_getI kg_110 dX6_countArrows_6 e_x1 ?_
    by_cases hc1 : x1 ≤ l2
    · rw [if_pos hc1] at hf
      refine zr_icge_t (tgt := 34) dX6_countArrows_9 (by decide) hc1 ?_
      refine zr_iload_n (x := l1) dX6_countArrows_34 rfl rfl ?_
      cases hf
      exact zr_ret _ rfl dX6_countArrows_35
    · rw [if_neg hc1] at hf
      refine zr_icge_f 34 dX6_countArrows_9 (by decide) hc1 ?_
      refine zr_iload_n (x := l1) dX6_countArrows_12 rfl rfl ?_
      refine zr_aload_n (v := .inl (some l0)) dX6_countArrows_13 rfl rfl ?_
      revert hf; refine zbi (fun x2 e_x2 hf => ?_)
      refine zq_getR kg_194 dX6_countArrows_14 e_x2 ?_
      refine zr_iload_n (x := l2) dX6_countArrows_17 rfl rfl ?_
      revert hf; refine zbi (fun x3 e_x3 hf => ?_)
      refine zq_iald dX6_countArrows_18 e_x3 ?_
      refine zr_aload_n (v := .inl (some l0)) dX6_countArrows_19 rfl rfl ?_
      revert hf; refine zbi (fun x4 e_x4 hf => ?_)
      refine zq_getR kg_195 dX6_countArrows_20 e_x4 ?_
      refine zr_iload_n (x := l2) dX6_countArrows_23 rfl rfl ?_
      revert hf; refine zbi (fun x5 e_x5 hf => ?_)
      refine zq_iald dX6_countArrows_24 e_x5 ?_
      refine zr_imul dX6_countArrows_25 ?_
      refine zr_iadd dX6_countArrows_26 ?_
      refine zq_istore_n (x := (l1 + (x3 * x5))) (L' := [some (zr (some l0)), some (zi (l1 + (x3 * x5))), some (zi l2)]) dX6_countArrows_27 rfl (by decide) rfl ?_
      refine zq_iinc (x := l2) (y := (1 : Int32)) (L' := [some (zr (some l0)), some (zi (l1 + (x3 * x5))), some (zi (l2 + (1 : Int32)))]) dX6_countArrows_28 rfl (by decide) (by decide) rfl ?_
      refine zr_goto (tgt := 4) dX6_countArrows_31 (by decide) ?_
      exact ih l0 (l1 + (x3 * x5)) (l2 + (1 : Int32)) h r hf
def f_X6_countArrows (N : Nat) (l0 : Nat) (h : zH) : Option Int32 := f_X6_countArrows_4 N N l0 (0 : Int32) (0 : Int32) h
set_option maxHeartbeats 4000000 in
set_option maxRecDepth 100000 in
theorem s_X6_countArrows {g : zG} (hg : g.2.1.map (fun q => q.2) = zty) {h0 : zH} (N : Nat) (l0 : Nat) (h : zH) (r : Int32) (hf : f_X6_countArrows N l0 h = some r) : zR g jX6_countArrows h0 0 [some (zr (some l0)), none, none] [] h (some (zi r)) h := by
  unfold f_X6_countArrows at hf
  refine zr_iconst (v := (0 : Int32)) dX6_countArrows_0 (by decide) ?_
  refine zq_istore_n (x := (0 : Int32)) (L' := [some (zr (some l0)), some (zi (0 : Int32)), none]) dX6_countArrows_1 rfl (by decide) rfl ?_
  refine zr_iconst (v := (0 : Int32)) dX6_countArrows_2 (by decide) ?_
  refine zq_istore_n (x := (0 : Int32)) (L' := [some (zr (some l0)), some (zi (0 : Int32)), some (zi (0 : Int32))]) dX6_countArrows_3 rfl (by decide) rfl ?_
  exact s_X6_countArrows_4 hg N N l0 (0 : Int32) (0 : Int32) h r hf
theorem c_X6_countArrows {g : zG} (hg : g.2.1.map (fun q => q.2) = zty) {N : Nat} {l0 : Nat} {h : zH} {r : Int32} (hf : f_X6_countArrows N l0 h = some r) : zCa g jX6_countArrows [zr (some l0)] h (some (zi r)) h :=
  zCa.of hg (by decide +kernel) (Nat.le_of_ble_eq_true rfl) (s_X6_countArrows hg N l0 h r hf)
theorem dX6_tell_0 : decode cX6_tell 0 = .ok (.iload_n 1, 1) := by decide +kernel
theorem dX6_tell_1 : decode cX6_tell 1 = .ok (.tableswitch 90 0 7 #[47, 52, 57, 62, 67, 72, 78, 84], 47) := by decide +kernel
theorem dX6_tell_48 : decode cX6_tell 48 = .ok (.aload_n 0, 1) := by decide +kernel
theorem dX6_tell_49 : decode cX6_tell 49 = .ok (.getfield 25, 3) := by decide +kernel
theorem dX6_tell_52 : decode cX6_tell 52 = .ok (.ireturn, 1) := by decide +kernel
theorem dX6_tell_53 : decode cX6_tell 53 = .ok (.aload_n 0, 1) := by decide +kernel
theorem dX6_tell_54 : decode cX6_tell 54 = .ok (.invokevirtual 54, 3) := by decide +kernel
theorem dX6_tell_57 : decode cX6_tell 57 = .ok (.ireturn, 1) := by decide +kernel
theorem dX6_tell_58 : decode cX6_tell 58 = .ok (.aload_n 0, 1) := by decide +kernel
theorem dX6_tell_59 : decode cX6_tell 59 = .ok (.invokevirtual 58, 3) := by decide +kernel
theorem dX6_tell_62 : decode cX6_tell 62 = .ok (.ireturn, 1) := by decide +kernel
theorem dX6_tell_63 : decode cX6_tell 63 = .ok (.aload_n 0, 1) := by decide +kernel
theorem dX6_tell_64 : decode cX6_tell 64 = .ok (.getfield 9, 3) := by decide +kernel
theorem dX6_tell_67 : decode cX6_tell 67 = .ok (.ireturn, 1) := by decide +kernel
theorem dX6_tell_68 : decode cX6_tell 68 = .ok (.aload_n 0, 1) := by decide +kernel
theorem dX6_tell_69 : decode cX6_tell 69 = .ok (.getfield 37, 3) := by decide +kernel
theorem dX6_tell_72 : decode cX6_tell 72 = .ok (.ireturn, 1) := by decide +kernel
theorem dX6_tell_73 : decode cX6_tell 73 = .ok (.aload_n 0, 1) := by decide +kernel
theorem dX6_tell_74 : decode cX6_tell 74 = .ok (.iconst 0, 1) := by decide +kernel
theorem dX6_tell_75 : decode cX6_tell 75 = .ok (.invokevirtual 61, 3) := by decide +kernel
theorem dX6_tell_78 : decode cX6_tell 78 = .ok (.ireturn, 1) := by decide +kernel
theorem dX6_tell_79 : decode cX6_tell 79 = .ok (.aload_n 0, 1) := by decide +kernel
theorem dX6_tell_80 : decode cX6_tell 80 = .ok (.iconst 1, 1) := by decide +kernel
theorem dX6_tell_81 : decode cX6_tell 81 = .ok (.invokevirtual 61, 3) := by decide +kernel
theorem dX6_tell_84 : decode cX6_tell 84 = .ok (.ireturn, 1) := by decide +kernel
theorem dX6_tell_85 : decode cX6_tell 85 = .ok (.aload_n 0, 1) := by decide +kernel
theorem dX6_tell_86 : decode cX6_tell 86 = .ok (.iconst 2, 1) := by decide +kernel
theorem dX6_tell_87 : decode cX6_tell 87 = .ok (.invokevirtual 61, 3) := by decide +kernel
theorem dX6_tell_90 : decode cX6_tell 90 = .ok (.ireturn, 1) := by decide +kernel
theorem dX6_tell_91 : decode cX6_tell 91 = .ok (.iconst (-1), 1) := by decide +kernel
theorem dX6_tell_92 : decode cX6_tell 92 = .ok (.ireturn, 1) := by decide +kernel
def f_X6_tell (N : Nat) (l0 : Nat) (l1 : Int32) (h : zH) : Option Int32 := if l1 = (0 : Int32) then (zgI h 6 (some l0) 4).bind fun x1 => some x1 else if l1 = (1 : Int32) then (zck h 6 (some l0)).bind fun q1 => (f_X6_countEnds N q1 h).bind fun x2 => some x2 else if l1 = (2 : Int32) then (zck h 6 (some l0)).bind fun q2 => (f_X6_countArrows N q2 h).bind fun x3 => some x3 else if l1 = (3 : Int32) then (zgI h 6 (some l0) 0).bind fun x4 => some x4 else if l1 = (4 : Int32) then (zgI h 6 (some l0) 8).bind fun x5 => some x5 else if l1 = (5 : Int32) then (zck h 6 (some l0)).bind fun q3 => (f_X6_setting N q3 (0 : Int32) h).bind fun x6 => some x6 else if l1 = (6 : Int32) then (zck h 6 (some l0)).bind fun q4 => (f_X6_setting N q4 (1 : Int32) h).bind fun x7 => some x7 else if l1 = (7 : Int32) then (zck h 6 (some l0)).bind fun q5 => (f_X6_setting N q5 (2 : Int32) h).bind fun x8 => some x8 else some ((-1) : Int32)
set_option maxHeartbeats 4000000 in
set_option maxRecDepth 100000 in
theorem s_X6_tell {g : zG} (hg : g.2.1.map (fun q => q.2) = zty) {h0 : zH} (N : Nat) (l0 : Nat) (l1 : Int32) (h : zH) (r : Int32) (hf : f_X6_tell N l0 l1 h = some r) : zR g jX6_tell h0 0 [some (zr (some l0)), some (zi l1)] [] h (some (zi r)) h := by
  unfold f_X6_tell at hf
  refine zr_iload_n (x := l1) dX6_tell_0 rfl rfl ?_
  by_cases hc1 : l1 = (0 : Int32)
  · rw [if_pos hc1] at hf
    refine zr_tabIn (off := 47) (tgt := 48) dX6_tell_1 (by rw [hc1]; decide) (by rw [hc1]; rfl) (by decide) ?_
    refine zr_aload_n (v := .inl (some l0)) dX6_tell_48 rfl rfl ?_
    revert hf; refine zbi (fun x1 e_x1 hf => ?_)
    refine zq_getI kg_110 dX6_tell_49 e_x1 ?_
    cases hf
    exact zr_ret _ rfl dX6_tell_52
  · rw [if_neg hc1] at hf
    by_cases hc2 : l1 = (1 : Int32)
    · rw [if_pos hc2] at hf
      refine zr_tabIn (off := 52) (tgt := 53) dX6_tell_1 (by rw [hc2]; decide) (by rw [hc2]; rfl) (by decide) ?_
      refine zr_aload_n (v := .inl (some l0)) dX6_tell_53 rfl rfl ?_
      revert hf; refine zbi (fun q1 e_q1 hf => ?_)
      revert hf; refine zbi (fun x2 e_x2 hf => ?_)
      refine zq_callV (J' := jX6_countEnds) (as := []) (rest := []) (r1 := (some (zi x2))) (q := (RX6, TX6, 11)) kw_299 km_X6_countEnds kt_239 dX6_tell_54 rfl (Nat.le_of_ble_eq_true rfl) rfl rfl e_q1 rfl (c_X6_countEnds hg e_x2) ?_
      cases hf
      exact zr_ret _ rfl dX6_tell_57
    · rw [if_neg hc2] at hf
      by_cases hc3 : l1 = (2 : Int32)
      · rw [if_pos hc3] at hf
        refine zr_tabIn (off := 57) (tgt := 58) dX6_tell_1 (by rw [hc3]; decide) (by rw [hc3]; rfl) (by decide) ?_
        refine zr_aload_n (v := .inl (some l0)) dX6_tell_58 rfl rfl ?_
        revert hf; refine zbi (fun q2 e_q2 hf => ?_)
        revert hf; refine zbi (fun x3 e_x3 hf => ?_)
        refine zq_callV (J' := jX6_countArrows) (as := []) (rest := []) (r1 := (some (zi x3))) (q := (RX6, TX6, 11)) kw_303 km_X6_countArrows kt_241 dX6_tell_59 rfl (Nat.le_of_ble_eq_true rfl) rfl rfl e_q2 rfl (c_X6_countArrows hg e_x3) ?_
        cases hf
        exact zr_ret _ rfl dX6_tell_62
      · rw [if_neg hc3] at hf
        by_cases hc4 : l1 = (3 : Int32)
        · rw [if_pos hc4] at hf
          refine zr_tabIn (off := 62) (tgt := 63) dX6_tell_1 (by rw [hc4]; decide) (by rw [hc4]; rfl) (by decide) ?_
          refine zr_aload_n (v := .inl (some l0)) dX6_tell_63 rfl rfl ?_
          revert hf; refine zbi (fun x4 e_x4 hf => ?_)
          refine zq_getI kg_109 dX6_tell_64 e_x4 ?_
          cases hf
          exact zr_ret _ rfl dX6_tell_67
        · rw [if_neg hc4] at hf
          by_cases hc5 : l1 = (4 : Int32)
          · rw [if_pos hc5] at hf
            refine zr_tabIn (off := 67) (tgt := 68) dX6_tell_1 (by rw [hc5]; decide) (by rw [hc5]; rfl) (by decide) ?_
            refine zr_aload_n (v := .inl (some l0)) dX6_tell_68 rfl rfl ?_
            revert hf; refine zbi (fun x5 e_x5 hf => ?_)
            refine zq_getI kg_202 dX6_tell_69 e_x5 ?_
            cases hf
            exact zr_ret _ rfl dX6_tell_72
          · rw [if_neg hc5] at hf
            by_cases hc6 : l1 = (5 : Int32)
            · rw [if_pos hc6] at hf
              refine zr_tabIn (off := 72) (tgt := 73) dX6_tell_1 (by rw [hc6]; decide) (by rw [hc6]; rfl) (by decide) ?_
              refine zr_aload_n (v := .inl (some l0)) dX6_tell_73 rfl rfl ?_
              refine zr_iconst (v := (0 : Int32)) dX6_tell_74 (by decide) ?_
              revert hf; refine zbi (fun q3 e_q3 hf => ?_)
              revert hf; refine zbi (fun x6 e_x6 hf => ?_)
              refine zq_callV (J' := jX6_setting) (as := [zi (0 : Int32)]) (rest := []) (r1 := (some (zi x6))) (q := (RX6, TX6, 11)) kw_157 km_X6_setting kt_242 dX6_tell_75 rfl (Nat.le_of_ble_eq_true rfl) rfl rfl e_q3 rfl (c_X6_setting hg e_x6) ?_
              cases hf
              exact zr_ret _ rfl dX6_tell_78
            · rw [if_neg hc6] at hf
              by_cases hc7 : l1 = (6 : Int32)
              · rw [if_pos hc7] at hf
                refine zr_tabIn (off := 78) (tgt := 79) dX6_tell_1 (by rw [hc7]; decide) (by rw [hc7]; rfl) (by decide) ?_
                refine zr_aload_n (v := .inl (some l0)) dX6_tell_79 rfl rfl ?_
                refine zr_iconst (v := (1 : Int32)) dX6_tell_80 (by decide) ?_
                revert hf; refine zbi (fun q4 e_q4 hf => ?_)
                revert hf; refine zbi (fun x7 e_x7 hf => ?_)
                refine zq_callV (J' := jX6_setting) (as := [zi (1 : Int32)]) (rest := []) (r1 := (some (zi x7))) (q := (RX6, TX6, 11)) kw_157 km_X6_setting kt_242 dX6_tell_81 rfl (Nat.le_of_ble_eq_true rfl) rfl rfl e_q4 rfl (c_X6_setting hg e_x7) ?_
                cases hf
                exact zr_ret _ rfl dX6_tell_84
              · rw [if_neg hc7] at hf
                by_cases hc8 : l1 = (7 : Int32)
                · rw [if_pos hc8] at hf
                  refine zr_tabIn (off := 84) (tgt := 85) dX6_tell_1 (by rw [hc8]; decide) (by rw [hc8]; rfl) (by decide) ?_
                  refine zr_aload_n (v := .inl (some l0)) dX6_tell_85 rfl rfl ?_
                  refine zr_iconst (v := (2 : Int32)) dX6_tell_86 (by decide) ?_
                  revert hf; refine zbi (fun q5 e_q5 hf => ?_)
                  revert hf; refine zbi (fun x8 e_x8 hf => ?_)
                  refine zq_callV (J' := jX6_setting) (as := [zi (2 : Int32)]) (rest := []) (r1 := (some (zi x8))) (q := (RX6, TX6, 11)) kw_157 km_X6_setting kt_242 dX6_tell_87 rfl (Nat.le_of_ble_eq_true rfl) rfl rfl e_q5 rfl (c_X6_setting hg e_x8) ?_
                  cases hf
                  exact zr_ret _ rfl dX6_tell_90
                · rw [if_neg hc8] at hf
                  refine zr_tabOut (tgt := 91) dX6_tell_1 (fun q => by have n0 := zne (n := 0) hc1 (by decide); have n1 := zne (n := 1) hc2 (by decide); have n2 := zne (n := 2) hc3 (by decide); have n3 := zne (n := 3) hc4 (by decide); have n4 := zne (n := 4) hc5 (by decide); have n5 := zne (n := 5) hc6 (by decide); have n6 := zne (n := 6) hc7 (by decide); have n7 := zne (n := 7) hc8 (by decide); omega) (by decide) ?_
                  refine zr_iconst (v := ((-1) : Int32)) dX6_tell_91 (by decide) ?_
                  cases hf
                  exact zr_ret _ rfl dX6_tell_92
theorem c_X6_tell {g : zG} (hg : g.2.1.map (fun q => q.2) = zty) {N : Nat} {l0 : Nat} {l1 : Int32} {h : zH} {r : Int32} (hf : f_X6_tell N l0 l1 h = some r) : zCa g jX6_tell [zr (some l0), zi l1] h (some (zi r)) h :=
  zCa.of hg (by decide +kernel) (Nat.le_of_ble_eq_true rfl) (s_X6_tell hg N l0 l1 h r hf)
theorem dX6_legOf_0 : decode cX6_legOf 0 = .ok (.iload_n 1, 1) := by decide +kernel
theorem dX6_legOf_1 : decode cX6_legOf 1 = .ok (.istore_n 2, 1) := by decide +kernel
theorem dX6_legOf_2 : decode cX6_legOf 2 = .ok (.iconst 0, 1) := by decide +kernel
theorem dX6_legOf_3 : decode cX6_legOf 3 = .ok (.istore_n 3, 1) := by decide +kernel
theorem dX6_legOf_4 : decode cX6_legOf 4 = .ok (.iload_n 3, 1) := by decide +kernel
theorem dX6_legOf_5 : decode cX6_legOf 5 = .ok (.aload_n 0, 1) := by decide +kernel
theorem dX6_legOf_6 : decode cX6_legOf 6 = .ok (.getfield 25, 3) := by decide +kernel
theorem dX6_legOf_9 : decode cX6_legOf 9 = .ok (.if_icmp .ge 30, 3) := by decide +kernel
theorem dX6_legOf_12 : decode cX6_legOf 12 = .ok (.iload_n 2, 1) := by decide +kernel
theorem dX6_legOf_13 : decode cX6_legOf 13 = .ok (.aload_n 0, 1) := by decide +kernel
theorem dX6_legOf_14 : decode cX6_legOf 14 = .ok (.getfield 28, 3) := by decide +kernel
theorem dX6_legOf_17 : decode cX6_legOf 17 = .ok (.iload_n 3, 1) := by decide +kernel
theorem dX6_legOf_18 : decode cX6_legOf 18 = .ok (.iaload, 1) := by decide +kernel
theorem dX6_legOf_19 : decode cX6_legOf 19 = .ok (.if_icmp .ge 5, 3) := by decide +kernel
theorem dX6_legOf_22 : decode cX6_legOf 22 = .ok (.iload_n 3, 1) := by decide +kernel
theorem dX6_legOf_23 : decode cX6_legOf 23 = .ok (.ireturn, 1) := by decide +kernel
theorem dX6_legOf_24 : decode cX6_legOf 24 = .ok (.iload_n 2, 1) := by decide +kernel
theorem dX6_legOf_25 : decode cX6_legOf 25 = .ok (.aload_n 0, 1) := by decide +kernel
theorem dX6_legOf_26 : decode cX6_legOf 26 = .ok (.getfield 28, 3) := by decide +kernel
theorem dX6_legOf_29 : decode cX6_legOf 29 = .ok (.iload_n 3, 1) := by decide +kernel
theorem dX6_legOf_30 : decode cX6_legOf 30 = .ok (.iaload, 1) := by decide +kernel
theorem dX6_legOf_31 : decode cX6_legOf 31 = .ok (.isub, 1) := by decide +kernel
theorem dX6_legOf_32 : decode cX6_legOf 32 = .ok (.istore_n 2, 1) := by decide +kernel
theorem dX6_legOf_33 : decode cX6_legOf 33 = .ok (.iinc 3 1, 3) := by decide +kernel
theorem dX6_legOf_36 : decode cX6_legOf 36 = .ok (.goto (-32), 3) := by decide +kernel
theorem dX6_legOf_39 : decode cX6_legOf 39 = .ok (.iconst (-1), 1) := by decide +kernel
theorem dX6_legOf_40 : decode cX6_legOf 40 = .ok (.ireturn, 1) := by decide +kernel
def f_X6_legOf_4 (N : Nat) : Nat → Nat → Int32 → Int32 → zH → Option Int32
  | 0, _, _, _, _ => none
  | n + 1, l0, l2, l3, h => (zgI h 6 (some l0) 4).bind fun x1 => if x1 ≤ l3 then some ((-1) : Int32) else (zgR h 6 (some l0) 5).bind fun x2 => (zld h 0 x2 l3).bind fun x3 => if x3 ≤ l2 then (zgR h 6 (some l0) 5).bind fun x4 => (zld h 0 x4 l3).bind fun x5 => f_X6_legOf_4 N n l0 (l2 - x5) (l3 + (1 : Int32)) h else some l3
set_option maxHeartbeats 4000000 in
set_option maxRecDepth 100000 in
theorem s_X6_legOf_4 {g : zG} (hg : g.2.1.map (fun q => q.2) = zty) {h0 : zH} (N : Nat) : ∀ (n : Nat) (l0 : Nat) (l2 : Int32) (l3 : Int32) (h : zH) (r : Int32), f_X6_legOf_4 N n l0 l2 l3 h = some r → zR g jX6_legOf h0 4 [some (zr (some l0)), none, some (zi l2), some (zi l3)] [] h (some (zi r)) h := by
  intro n
  induction n with
  | zero =>
    intro l0 l2 l3 h r hf
    cases hf
  | succ n ih =>
    intro l0 l2 l3 h r hf
    rw [f_X6_legOf_4] at hf
    refine zr_iload_n (x := l3) dX6_legOf_4 rfl rfl ?_
    refine zr_aload_n (v := .inl (some l0)) dX6_legOf_5 rfl rfl ?_
    revert hf; refine zbi (fun x1 e_x1 hf => ?_)
    refine zq_getI kg_110 dX6_legOf_6 e_x1 ?_
    by_cases hc1 : x1 ≤ l3
    · rw [if_pos hc1] at hf
      refine zr_icge_t (tgt := 39) dX6_legOf_9 (by decide) hc1 ?_
      refine zr_iconst (v := ((-1) : Int32)) dX6_legOf_39 (by decide) ?_
      cases hf
      exact zr_ret _ rfl dX6_legOf_40
    · rw [if_neg hc1] at hf
      refine zr_icge_f 39 dX6_legOf_9 (by decide) hc1 ?_
      refine zr_iload_n (x := l2) dX6_legOf_12 rfl rfl ?_
      refine zr_aload_n (v := .inl (some l0)) dX6_legOf_13 rfl rfl ?_
      revert hf; refine zbi (fun x2 e_x2 hf => ?_)
      refine zq_getR kg_194 dX6_legOf_14 e_x2 ?_
      refine zr_iload_n (x := l3) dX6_legOf_17 rfl rfl ?_
      revert hf; refine zbi (fun x3 e_x3 hf => ?_)
      refine zq_iald dX6_legOf_18 e_x3 ?_
      by_cases hc2 : x3 ≤ l2
      · rw [if_pos hc2] at hf
        refine zr_icge_t (tgt := 24) dX6_legOf_19 (by decide) hc2 ?_
        refine zr_iload_n (x := l2) dX6_legOf_24 rfl rfl ?_
        refine zr_aload_n (v := .inl (some l0)) dX6_legOf_25 rfl rfl ?_
        revert hf; refine zbi (fun x4 e_x4 hf => ?_)
        refine zq_getR kg_194 dX6_legOf_26 e_x4 ?_
        refine zr_iload_n (x := l3) dX6_legOf_29 rfl rfl ?_
        revert hf; refine zbi (fun x5 e_x5 hf => ?_)
        refine zq_iald dX6_legOf_30 e_x5 ?_
        refine zr_isub dX6_legOf_31 ?_
        refine zq_istore_n (x := (l2 - x5)) (L' := [some (zr (some l0)), none, some (zi (l2 - x5)), some (zi l3)]) dX6_legOf_32 rfl (by decide) rfl ?_
        refine zq_iinc (x := l3) (y := (1 : Int32)) (L' := [some (zr (some l0)), none, some (zi (l2 - x5)), some (zi (l3 + (1 : Int32)))]) dX6_legOf_33 rfl (by decide) (by decide) rfl ?_
        refine zr_goto (tgt := 4) dX6_legOf_36 (by decide) ?_
        exact ih l0 (l2 - x5) (l3 + (1 : Int32)) h r hf
      · rw [if_neg hc2] at hf
        refine zr_icge_f 24 dX6_legOf_19 (by decide) hc2 ?_
        refine zr_iload_n (x := l3) dX6_legOf_22 rfl rfl ?_
        cases hf
        exact zr_ret _ rfl dX6_legOf_23
def f_X6_legOf (N : Nat) (l0 : Nat) (l1 : Int32) (h : zH) : Option Int32 := f_X6_legOf_4 N N l0 l1 (0 : Int32) h
set_option maxHeartbeats 4000000 in
set_option maxRecDepth 100000 in
theorem s_X6_legOf {g : zG} (hg : g.2.1.map (fun q => q.2) = zty) {h0 : zH} (N : Nat) (l0 : Nat) (l1 : Int32) (h : zH) (r : Int32) (hf : f_X6_legOf N l0 l1 h = some r) : zR g jX6_legOf h0 0 [some (zr (some l0)), some (zi l1), none, none] [] h (some (zi r)) h := by
  unfold f_X6_legOf at hf
  refine zr_iload_n (x := l1) dX6_legOf_0 rfl rfl ?_
  refine zq_istore_n (x := l1) (L' := [some (zr (some l0)), some (zi l1), some (zi l1), none]) dX6_legOf_1 rfl (by decide) rfl ?_
  refine zr_iconst (v := (0 : Int32)) dX6_legOf_2 (by decide) ?_
  refine zq_istore_n (x := (0 : Int32)) (L' := [some (zr (some l0)), some (zi l1), some (zi l1), some (zi (0 : Int32))]) dX6_legOf_3 rfl (by decide) rfl ?_
  refine zr_forget 1 (L' := [some (zr (some l0)), none, some (zi l1), some (zi (0 : Int32))]) rfl ?_
  exact s_X6_legOf_4 hg N N l0 l1 (0 : Int32) h r hf
theorem c_X6_legOf {g : zG} (hg : g.2.1.map (fun q => q.2) = zty) {N : Nat} {l0 : Nat} {l1 : Int32} {h : zH} {r : Int32} (hf : f_X6_legOf N l0 l1 h = some r) : zCa g jX6_legOf [zr (some l0), zi l1] h (some (zi r)) h :=
  zCa.of hg (by decide +kernel) (Nat.le_of_ble_eq_true rfl) (s_X6_legOf hg N l0 l1 h r hf)
theorem dX6_arrowsOf_0 : decode cX6_arrowsOf 0 = .ok (.iload_n 1, 1) := by decide +kernel
theorem dX6_arrowsOf_1 : decode cX6_arrowsOf 1 = .ok (.ifCond .lt 20, 3) := by decide +kernel
theorem dX6_arrowsOf_4 : decode cX6_arrowsOf 4 = .ok (.iload_n 1, 1) := by decide +kernel
theorem dX6_arrowsOf_5 : decode cX6_arrowsOf 5 = .ok (.aload_n 0, 1) := by decide +kernel
theorem dX6_arrowsOf_6 : decode cX6_arrowsOf 6 = .ok (.getfield 25, 3) := by decide +kernel
theorem dX6_arrowsOf_9 : decode cX6_arrowsOf 9 = .ok (.if_icmp .ge 12, 3) := by decide +kernel
theorem dX6_arrowsOf_12 : decode cX6_arrowsOf 12 = .ok (.aload_n 0, 1) := by decide +kernel
theorem dX6_arrowsOf_13 : decode cX6_arrowsOf 13 = .ok (.getfield 31, 3) := by decide +kernel
theorem dX6_arrowsOf_16 : decode cX6_arrowsOf 16 = .ok (.iload_n 1, 1) := by decide +kernel
theorem dX6_arrowsOf_17 : decode cX6_arrowsOf 17 = .ok (.iaload, 1) := by decide +kernel
theorem dX6_arrowsOf_18 : decode cX6_arrowsOf 18 = .ok (.goto 4, 3) := by decide +kernel
theorem dX6_arrowsOf_21 : decode cX6_arrowsOf 21 = .ok (.iconst 0, 1) := by decide +kernel
theorem dX6_arrowsOf_22 : decode cX6_arrowsOf 22 = .ok (.ireturn, 1) := by decide +kernel
def f_X6_arrowsOf (N : Nat) (l0 : Nat) (l1 : Int32) (h : zH) : Option Int32 := if l1 < 0 then some (0 : Int32) else (zgI h 6 (some l0) 4).bind fun x1 => if x1 ≤ l1 then some (0 : Int32) else (zgR h 6 (some l0) 6).bind fun x2 => (zld h 0 x2 l1).bind fun x3 => some x3
set_option maxHeartbeats 4000000 in
set_option maxRecDepth 100000 in
theorem s_X6_arrowsOf {g : zG} (hg : g.2.1.map (fun q => q.2) = zty) {h0 : zH} (N : Nat) (l0 : Nat) (l1 : Int32) (h : zH) (r : Int32) (hf : f_X6_arrowsOf N l0 l1 h = some r) : zR g jX6_arrowsOf h0 0 [some (zr (some l0)), some (zi l1)] [] h (some (zi r)) h := by
  unfold f_X6_arrowsOf at hf
  refine zr_iload_n (x := l1) dX6_arrowsOf_0 rfl rfl ?_
  by_cases hc1 : l1 < 0
  · rw [if_pos hc1] at hf
    refine zr_iflt_t (tgt := 21) dX6_arrowsOf_1 (by decide) hc1 ?_
    refine zr_iconst (v := (0 : Int32)) dX6_arrowsOf_21 (by decide) ?_
    cases hf
    exact zr_ret _ rfl dX6_arrowsOf_22
  · rw [if_neg hc1] at hf
    refine zr_iflt_f 21 dX6_arrowsOf_1 (by decide) hc1 ?_
    refine zr_iload_n (x := l1) dX6_arrowsOf_4 rfl rfl ?_
    refine zr_aload_n (v := .inl (some l0)) dX6_arrowsOf_5 rfl rfl ?_
    revert hf; refine zbi (fun x1 e_x1 hf => ?_)
    refine zq_getI kg_110 dX6_arrowsOf_6 e_x1 ?_
    by_cases hc2 : x1 ≤ l1
    · rw [if_pos hc2] at hf
      refine zr_icge_t (tgt := 21) dX6_arrowsOf_9 (by decide) hc2 ?_
      refine zr_iconst (v := (0 : Int32)) dX6_arrowsOf_21 (by decide) ?_
      cases hf
      exact zr_ret _ rfl dX6_arrowsOf_22
    · rw [if_neg hc2] at hf
      refine zr_icge_f 21 dX6_arrowsOf_9 (by decide) hc2 ?_
      refine zr_aload_n (v := .inl (some l0)) dX6_arrowsOf_12 rfl rfl ?_
      revert hf; refine zbi (fun x2 e_x2 hf => ?_)
      refine zq_getR kg_195 dX6_arrowsOf_13 e_x2 ?_
      refine zr_iload_n (x := l1) dX6_arrowsOf_16 rfl rfl ?_
      revert hf; refine zbi (fun x3 e_x3 hf => ?_)
      refine zq_iald dX6_arrowsOf_17 e_x3 ?_
      refine zr_goto (tgt := 22) dX6_arrowsOf_18 (by decide) ?_
      cases hf
      exact zr_ret _ rfl dX6_arrowsOf_22
theorem c_X6_arrowsOf {g : zG} (hg : g.2.1.map (fun q => q.2) = zty) {N : Nat} {l0 : Nat} {l1 : Int32} {h : zH} {r : Int32} (hf : f_X6_arrowsOf N l0 l1 h = some r) : zCa g jX6_arrowsOf [zr (some l0), zi l1] h (some (zi r)) h :=
  zCa.of hg (by decide +kernel) (Nat.le_of_ble_eq_true rfl) (s_X6_arrowsOf hg N l0 l1 h r hf)
theorem dX8_total_0 : decode cX8_total 0 = .ok (.iconst 0, 1) := by decide +kernel
theorem dX8_total_1 : decode cX8_total 1 = .ok (.istore_n 1, 1) := by decide +kernel
theorem dX8_total_2 : decode cX8_total 2 = .ok (.aload_n 0, 1) := by decide +kernel
theorem dX8_total_3 : decode cX8_total 3 = .ok (.getfield 14, 3) := by decide +kernel
theorem dX8_total_6 : decode cX8_total 6 = .ok (.astore_n 2, 1) := by decide +kernel
theorem dX8_total_7 : decode cX8_total 7 = .ok (.aload_n 2, 1) := by decide +kernel
theorem dX8_total_8 : decode cX8_total 8 = .ok (.arraylength, 1) := by decide +kernel
theorem dX8_total_9 : decode cX8_total 9 = .ok (.istore_n 3, 1) := by decide +kernel
theorem dX8_total_10 : decode cX8_total 10 = .ok (.iconst 0, 1) := by decide +kernel
theorem dX8_total_11 : decode cX8_total 11 = .ok (.istore 4, 2) := by decide +kernel
theorem dX8_total_13 : decode cX8_total 13 = .ok (.iload 4, 2) := by decide +kernel
theorem dX8_total_15 : decode cX8_total 15 = .ok (.iload_n 3, 1) := by decide +kernel
theorem dX8_total_16 : decode cX8_total 16 = .ok (.if_icmp .ge 20, 3) := by decide +kernel
theorem dX8_total_19 : decode cX8_total 19 = .ok (.aload_n 2, 1) := by decide +kernel
theorem dX8_total_20 : decode cX8_total 20 = .ok (.iload 4, 2) := by decide +kernel
theorem dX8_total_22 : decode cX8_total 22 = .ok (.iaload, 1) := by decide +kernel
theorem dX8_total_23 : decode cX8_total 23 = .ok (.istore 5, 2) := by decide +kernel
theorem dX8_total_25 : decode cX8_total 25 = .ok (.iload_n 1, 1) := by decide +kernel
theorem dX8_total_26 : decode cX8_total 26 = .ok (.iload 5, 2) := by decide +kernel
theorem dX8_total_28 : decode cX8_total 28 = .ok (.iadd, 1) := by decide +kernel
theorem dX8_total_29 : decode cX8_total 29 = .ok (.istore_n 1, 1) := by decide +kernel
theorem dX8_total_30 : decode cX8_total 30 = .ok (.iinc 4 1, 3) := by decide +kernel
theorem dX8_total_33 : decode cX8_total 33 = .ok (.goto (-20), 3) := by decide +kernel
theorem dX8_total_36 : decode cX8_total 36 = .ok (.iload_n 1, 1) := by decide +kernel
theorem dX8_total_37 : decode cX8_total 37 = .ok (.ireturn, 1) := by decide +kernel
def f_X8_total_13 (N : Nat) : Nat → Int32 → Option Nat → Int32 → Int32 → zH → Option Int32
  | 0, _, _, _, _, _ => none
  | n + 1, l1, l2, l3, l4, h => if l3 ≤ l4 then some l1 else (zld h 0 l2 l4).bind fun x1 => f_X8_total_13 N n (l1 + x1) l2 l3 (l4 + (1 : Int32)) h
set_option maxHeartbeats 4000000 in
set_option maxRecDepth 100000 in
theorem s_X8_total_13 {g : zG} (hg : g.2.1.map (fun q => q.2) = zty) {h0 : zH} (N : Nat) : ∀ (n : Nat) (l1 : Int32) (l2 : Option Nat) (l3 : Int32) (l4 : Int32) (h : zH) (r : Int32), f_X8_total_13 N n l1 l2 l3 l4 h = some r → zR g jX8_total h0 13 [none, some (zi l1), some (zr l2), some (zi l3), some (zi l4), none] [] h (some (zi r)) h := by
  intro n
  induction n with
  | zero =>
    intro l1 l2 l3 l4 h r hf
    cases hf
  | succ n ih =>
    intro l1 l2 l3 l4 h r hf
    rw [f_X8_total_13] at hf
    refine zr_iload (x := l4) dX8_total_13 rfl ?_
    refine zr_iload_n (x := l3) dX8_total_15 rfl rfl ?_
    by_cases hc1 : l3 ≤ l4
    · rw [if_pos hc1] at hf
      refine zr_icge_t (tgt := 36) dX8_total_16 (by decide) hc1 ?_
      refine zr_iload_n (x := l1) dX8_total_36 rfl rfl ?_
      cases hf
      exact zr_ret _ rfl dX8_total_37
    · rw [if_neg hc1] at hf
      refine zr_icge_f 36 dX8_total_16 (by decide) hc1 ?_
      refine zr_aload_n (v := .inl l2) dX8_total_19 rfl rfl ?_
      refine zr_iload (x := l4) dX8_total_20 rfl ?_
      revert hf; refine zbi (fun x1 e_x1 hf => ?_)
      refine zq_iald dX8_total_22 e_x1 ?_
      refine zq_istore (x := x1) (L' := [none, some (zi l1), some (zr l2), some (zi l3), some (zi l4), some (zi x1)]) dX8_total_23 (by decide) rfl ?_
      refine zr_iload_n (x := l1) dX8_total_25 rfl rfl ?_
      refine zr_iload (x := x1) dX8_total_26 rfl ?_
      refine zr_iadd dX8_total_28 ?_
      refine zq_istore_n (x := (l1 + x1)) (L' := [none, some (zi (l1 + x1)), some (zr l2), some (zi l3), some (zi l4), some (zi x1)]) dX8_total_29 rfl (by decide) rfl ?_
      refine zq_iinc (x := l4) (y := (1 : Int32)) (L' := [none, some (zi (l1 + x1)), some (zr l2), some (zi l3), some (zi (l4 + (1 : Int32))), some (zi x1)]) dX8_total_30 rfl (by decide) (by decide) rfl ?_
      refine zr_goto (tgt := 13) dX8_total_33 (by decide) ?_
      refine zr_forget 5 (L' := [none, some (zi (l1 + x1)), some (zr l2), some (zi l3), some (zi (l4 + (1 : Int32))), none]) rfl ?_
      exact ih (l1 + x1) l2 l3 (l4 + (1 : Int32)) h r hf
def f_X8_total (N : Nat) (l0 : Nat) (h : zH) : Option Int32 := (zgR h 8 (some l0) 0).bind fun x1 => (zlen h x1).bind fun x2 => f_X8_total_13 N N (0 : Int32) x1 x2 (0 : Int32) h
set_option maxHeartbeats 4000000 in
set_option maxRecDepth 100000 in
theorem s_X8_total {g : zG} (hg : g.2.1.map (fun q => q.2) = zty) {h0 : zH} (N : Nat) (l0 : Nat) (h : zH) (r : Int32) (hf : f_X8_total N l0 h = some r) : zR g jX8_total h0 0 [some (zr (some l0)), none, none, none, none, none] [] h (some (zi r)) h := by
  unfold f_X8_total at hf
  refine zr_iconst (v := (0 : Int32)) dX8_total_0 (by decide) ?_
  refine zq_istore_n (x := (0 : Int32)) (L' := [some (zr (some l0)), some (zi (0 : Int32)), none, none, none, none]) dX8_total_1 rfl (by decide) rfl ?_
  refine zr_aload_n (v := .inl (some l0)) dX8_total_2 rfl rfl ?_
  revert hf; refine zbi (fun x1 e_x1 hf => ?_)
  refine zq_getR kg_243 dX8_total_3 e_x1 ?_
  refine zq_astore_n (v := .inl x1) (L' := [some (zr (some l0)), some (zi (0 : Int32)), some (zr x1), none, none, none]) dX8_total_6 rfl (by decide) rfl ?_
  refine zr_aload_n (v := .inl x1) dX8_total_7 rfl rfl ?_
  revert hf; refine zbi (fun x2 e_x2 hf => ?_)
  refine zq_alen dX8_total_8 e_x2 ?_
  refine zq_istore_n (x := x2) (L' := [some (zr (some l0)), some (zi (0 : Int32)), some (zr x1), some (zi x2), none, none]) dX8_total_9 rfl (by decide) rfl ?_
  refine zr_iconst (v := (0 : Int32)) dX8_total_10 (by decide) ?_
  refine zq_istore (x := (0 : Int32)) (L' := [some (zr (some l0)), some (zi (0 : Int32)), some (zr x1), some (zi x2), some (zi (0 : Int32)), none]) dX8_total_11 (by decide) rfl ?_
  refine zr_forget 0 (L' := [none, some (zi (0 : Int32)), some (zr x1), some (zi x2), some (zi (0 : Int32)), none]) rfl ?_
  exact s_X8_total_13 hg N N (0 : Int32) x1 x2 (0 : Int32) h r hf
theorem c_X8_total {g : zG} (hg : g.2.1.map (fun q => q.2) = zty) {N : Nat} {l0 : Nat} {h : zH} {r : Int32} (hf : f_X8_total N l0 h = some r) : zCa g jX8_total [zr (some l0)] h (some (zi r)) h :=
  zCa.of hg (by decide +kernel) (Nat.le_of_ble_eq_true rfl) (s_X8_total hg N l0 h r hf)
theorem dJ6_compare_7cf53_0 : decode cJ6_compare_7cf53 0 = .ok (.iload_n 0, 1) := by decide +kernel
theorem dJ6_compare_7cf53_1 : decode cJ6_compare_7cf53 1 = .ok (.iload_n 1, 1) := by decide +kernel
theorem dJ6_compare_7cf53_2 : decode cJ6_compare_7cf53 2 = .ok (.if_icmp .ge 7, 3) := by decide +kernel
theorem dJ6_compare_7cf53_5 : decode cJ6_compare_7cf53 5 = .ok (.iconst (-1), 1) := by decide +kernel
theorem dJ6_compare_7cf53_6 : decode cJ6_compare_7cf53 6 = .ok (.goto 13, 3) := by decide +kernel
theorem dJ6_compare_7cf53_9 : decode cJ6_compare_7cf53 9 = .ok (.iload_n 0, 1) := by decide +kernel
theorem dJ6_compare_7cf53_10 : decode cJ6_compare_7cf53 10 = .ok (.iload_n 1, 1) := by decide +kernel
theorem dJ6_compare_7cf53_11 : decode cJ6_compare_7cf53 11 = .ok (.if_icmp .ne 7, 3) := by decide +kernel
theorem dJ6_compare_7cf53_14 : decode cJ6_compare_7cf53 14 = .ok (.iconst 0, 1) := by decide +kernel
theorem dJ6_compare_7cf53_15 : decode cJ6_compare_7cf53 15 = .ok (.goto 4, 3) := by decide +kernel
theorem dJ6_compare_7cf53_18 : decode cJ6_compare_7cf53 18 = .ok (.iconst 1, 1) := by decide +kernel
theorem dJ6_compare_7cf53_19 : decode cJ6_compare_7cf53 19 = .ok (.ireturn, 1) := by decide +kernel
def f_J6_compare_7cf53 (N : Nat) (l0 : Int32) (l1 : Int32) (h : zH) : Option Int32 := if l1 ≤ l0 then if l0 = l1 then some (0 : Int32) else some (1 : Int32) else some ((-1) : Int32)
set_option maxHeartbeats 4000000 in
set_option maxRecDepth 100000 in
theorem s_J6_compare_7cf53 {g : zG} (hg : g.2.1.map (fun q => q.2) = zty) {h0 : zH} (N : Nat) (l0 : Int32) (l1 : Int32) (h : zH) (r : Int32) (hf : f_J6_compare_7cf53 N l0 l1 h = some r) : zR g jJ6_compare_7cf53 h0 0 [some (zi l0), some (zi l1)] [] h (some (zi r)) h := by
  unfold f_J6_compare_7cf53 at hf
  refine zr_iload_n (x := l0) dJ6_compare_7cf53_0 rfl rfl ?_
  refine zr_iload_n (x := l1) dJ6_compare_7cf53_1 rfl rfl ?_
  by_cases hc1 : l1 ≤ l0
  · rw [if_pos hc1] at hf
    refine zr_icge_t (tgt := 9) dJ6_compare_7cf53_2 (by decide) hc1 ?_
    refine zr_iload_n (x := l0) dJ6_compare_7cf53_9 rfl rfl ?_
    refine zr_iload_n (x := l1) dJ6_compare_7cf53_10 rfl rfl ?_
    by_cases hc2 : l0 = l1
    · rw [if_pos hc2] at hf
      refine zr_icne_f 18 dJ6_compare_7cf53_11 (by decide) hc2 ?_
      refine zr_iconst (v := (0 : Int32)) dJ6_compare_7cf53_14 (by decide) ?_
      refine zr_goto (tgt := 19) dJ6_compare_7cf53_15 (by decide) ?_
      cases hf
      exact zr_ret _ rfl dJ6_compare_7cf53_19
    · rw [if_neg hc2] at hf
      refine zr_icne_t (tgt := 18) dJ6_compare_7cf53_11 (by decide) hc2 ?_
      refine zr_iconst (v := (1 : Int32)) dJ6_compare_7cf53_18 (by decide) ?_
      cases hf
      exact zr_ret _ rfl dJ6_compare_7cf53_19
  · rw [if_neg hc1] at hf
    refine zr_icge_f 9 dJ6_compare_7cf53_2 (by decide) hc1 ?_
    refine zr_iconst (v := ((-1) : Int32)) dJ6_compare_7cf53_5 (by decide) ?_
    refine zr_goto (tgt := 19) dJ6_compare_7cf53_6 (by decide) ?_
    cases hf
    exact zr_ret _ rfl dJ6_compare_7cf53_19
theorem c_J6_compare_7cf53 {g : zG} (hg : g.2.1.map (fun q => q.2) = zty) {N : Nat} {l0 : Int32} {l1 : Int32} {h : zH} {r : Int32} (hf : f_J6_compare_7cf53 N l0 l1 h = some r) : zCa g jJ6_compare_7cf53 [zi l0, zi l1] h (some (zi r)) h :=
  zCa.of hg (by decide +kernel) (Nat.le_of_ble_eq_true rfl) (s_J6_compare_7cf53 hg N l0 l1 h r hf)
theorem dX8_lastSum_0 : decode cX8_lastSum 0 = .ok (.aload_n 0, 1) := by decide +kernel
theorem dX8_lastSum_1 : decode cX8_lastSum 1 = .ok (.getfield 14, 3) := by decide +kernel
theorem dX8_lastSum_4 : decode cX8_lastSum 4 = .ok (.arraylength, 1) := by decide +kernel
theorem dX8_lastSum_5 : decode cX8_lastSum 5 = .ok (.ifCond .ne 7, 3) := by decide +kernel
theorem dX8_lastSum_8 : decode cX8_lastSum 8 = .ok (.iconst 0, 1) := by decide +kernel
theorem dX8_lastSum_9 : decode cX8_lastSum 9 = .ok (.goto 15, 3) := by decide +kernel
theorem dX8_lastSum_12 : decode cX8_lastSum 12 = .ok (.aload_n 0, 1) := by decide +kernel
theorem dX8_lastSum_13 : decode cX8_lastSum 13 = .ok (.getfield 14, 3) := by decide +kernel
theorem dX8_lastSum_16 : decode cX8_lastSum 16 = .ok (.aload_n 0, 1) := by decide +kernel
theorem dX8_lastSum_17 : decode cX8_lastSum 17 = .ok (.getfield 14, 3) := by decide +kernel
theorem dX8_lastSum_20 : decode cX8_lastSum 20 = .ok (.arraylength, 1) := by decide +kernel
theorem dX8_lastSum_21 : decode cX8_lastSum 21 = .ok (.iconst 1, 1) := by decide +kernel
theorem dX8_lastSum_22 : decode cX8_lastSum 22 = .ok (.isub, 1) := by decide +kernel
theorem dX8_lastSum_23 : decode cX8_lastSum 23 = .ok (.iaload, 1) := by decide +kernel
theorem dX8_lastSum_24 : decode cX8_lastSum 24 = .ok (.ireturn, 1) := by decide +kernel
def f_X8_lastSum (N : Nat) (l0 : Nat) (h : zH) : Option Int32 := (zgR h 8 (some l0) 0).bind fun x1 => (zlen h x1).bind fun x2 => if x2 = 0 then some (0 : Int32) else (zgR h 8 (some l0) 0).bind fun x3 => (zgR h 8 (some l0) 0).bind fun x4 => (zlen h x4).bind fun x5 => (zld h 0 x3 (x5 - (1 : Int32))).bind fun x6 => some x6
set_option maxHeartbeats 4000000 in
set_option maxRecDepth 100000 in
theorem s_X8_lastSum {g : zG} (hg : g.2.1.map (fun q => q.2) = zty) {h0 : zH} (N : Nat) (l0 : Nat) (h : zH) (r : Int32) (hf : f_X8_lastSum N l0 h = some r) : zR g jX8_lastSum h0 0 [some (zr (some l0))] [] h (some (zi r)) h := by
  unfold f_X8_lastSum at hf
  refine zr_aload_n (v := .inl (some l0)) dX8_lastSum_0 rfl rfl ?_
  revert hf; refine zbi (fun x1 e_x1 hf => ?_)
  refine zq_getR kg_243 dX8_lastSum_1 e_x1 ?_
  revert hf; refine zbi (fun x2 e_x2 hf => ?_)
  refine zq_alen dX8_lastSum_4 e_x2 ?_
  by_cases hc1 : x2 = 0
  · rw [if_pos hc1] at hf
    refine zr_ifne_f 12 dX8_lastSum_5 (by decide) hc1 ?_
    refine zr_iconst (v := (0 : Int32)) dX8_lastSum_8 (by decide) ?_
    refine zr_goto (tgt := 24) dX8_lastSum_9 (by decide) ?_
    cases hf
    exact zr_ret _ rfl dX8_lastSum_24
  · rw [if_neg hc1] at hf
    refine zr_ifne_t (tgt := 12) dX8_lastSum_5 (by decide) hc1 ?_
    refine zr_aload_n (v := .inl (some l0)) dX8_lastSum_12 rfl rfl ?_
    revert hf; refine zbi (fun x3 e_x3 hf => ?_)
    refine zq_getR kg_243 dX8_lastSum_13 e_x3 ?_
    refine zr_aload_n (v := .inl (some l0)) dX8_lastSum_16 rfl rfl ?_
    revert hf; refine zbi (fun x4 e_x4 hf => ?_)
    refine zq_getR kg_243 dX8_lastSum_17 e_x4 ?_
    revert hf; refine zbi (fun x5 e_x5 hf => ?_)
    refine zq_alen dX8_lastSum_20 e_x5 ?_
    refine zr_iconst (v := (1 : Int32)) dX8_lastSum_21 (by decide) ?_
    refine zr_isub dX8_lastSum_22 ?_
    revert hf; refine zbi (fun x6 e_x6 hf => ?_)
    refine zq_iald dX8_lastSum_23 e_x6 ?_
    cases hf
    exact zr_ret _ rfl dX8_lastSum_24
theorem c_X8_lastSum {g : zG} (hg : g.2.1.map (fun q => q.2) = zty) {N : Nat} {l0 : Nat} {h : zH} {r : Int32} (hf : f_X8_lastSum N l0 h = some r) : zCa g jX8_lastSum [zr (some l0)] h (some (zi r)) h :=
  zCa.of hg (by decide +kernel) (Nat.le_of_ble_eq_true rfl) (s_X8_lastSum hg N l0 h r hf)
theorem dX8_squareOf_0 : decode cX8_squareOf 0 = .ok (.iload_n 1, 1) := by decide +kernel
theorem dX8_squareOf_1 : decode cX8_squareOf 1 = .ok (.ifCond .lt 21, 3) := by decide +kernel
theorem dX8_squareOf_4 : decode cX8_squareOf 4 = .ok (.iload_n 1, 1) := by decide +kernel
theorem dX8_squareOf_5 : decode cX8_squareOf 5 = .ok (.aload_n 0, 1) := by decide +kernel
theorem dX8_squareOf_6 : decode cX8_squareOf 6 = .ok (.getfield 21, 3) := by decide +kernel
theorem dX8_squareOf_9 : decode cX8_squareOf 9 = .ok (.arraylength, 1) := by decide +kernel
theorem dX8_squareOf_10 : decode cX8_squareOf 10 = .ok (.if_icmp .ge 12, 3) := by decide +kernel
theorem dX8_squareOf_13 : decode cX8_squareOf 13 = .ok (.aload_n 0, 1) := by decide +kernel
theorem dX8_squareOf_14 : decode cX8_squareOf 14 = .ok (.getfield 21, 3) := by decide +kernel
theorem dX8_squareOf_17 : decode cX8_squareOf 17 = .ok (.iload_n 1, 1) := by decide +kernel
theorem dX8_squareOf_18 : decode cX8_squareOf 18 = .ok (.iaload, 1) := by decide +kernel
theorem dX8_squareOf_19 : decode cX8_squareOf 19 = .ok (.goto 5, 3) := by decide +kernel
theorem dX8_squareOf_22 : decode cX8_squareOf 22 = .ok (.ldc 24, 2) := by decide +kernel
theorem dX8_squareOf_24 : decode cX8_squareOf 24 = .ok (.ireturn, 1) := by decide +kernel
def f_X8_squareOf (N : Nat) (l0 : Nat) (l1 : Int32) (h : zH) : Option Int32 := if l1 < 0 then some (1000000000 : Int32) else (zgR h 8 (some l0) 2).bind fun x1 => (zlen h x1).bind fun x2 => if x2 ≤ l1 then some (1000000000 : Int32) else (zgR h 8 (some l0) 2).bind fun x3 => (zld h 0 x3 l1).bind fun x4 => some x4
set_option maxHeartbeats 4000000 in
set_option maxRecDepth 100000 in
theorem s_X8_squareOf {g : zG} (hg : g.2.1.map (fun q => q.2) = zty) {h0 : zH} (N : Nat) (l0 : Nat) (l1 : Int32) (h : zH) (r : Int32) (hf : f_X8_squareOf N l0 l1 h = some r) : zR g jX8_squareOf h0 0 [some (zr (some l0)), some (zi l1)] [] h (some (zi r)) h := by
  unfold f_X8_squareOf at hf
  refine zr_iload_n (x := l1) dX8_squareOf_0 rfl rfl ?_
  by_cases hc1 : l1 < 0
  · rw [if_pos hc1] at hf
    refine zr_iflt_t (tgt := 22) dX8_squareOf_1 (by decide) hc1 ?_
    refine zr_ldc (v := (1000000000 : Int32)) kw_308 dX8_squareOf_22 ?_
    cases hf
    exact zr_ret _ rfl dX8_squareOf_24
  · rw [if_neg hc1] at hf
    refine zr_iflt_f 22 dX8_squareOf_1 (by decide) hc1 ?_
    refine zr_iload_n (x := l1) dX8_squareOf_4 rfl rfl ?_
    refine zr_aload_n (v := .inl (some l0)) dX8_squareOf_5 rfl rfl ?_
    revert hf; refine zbi (fun x1 e_x1 hf => ?_)
    refine zq_getR kg_244 dX8_squareOf_6 e_x1 ?_
    revert hf; refine zbi (fun x2 e_x2 hf => ?_)
    refine zq_alen dX8_squareOf_9 e_x2 ?_
    by_cases hc2 : x2 ≤ l1
    · rw [if_pos hc2] at hf
      refine zr_icge_t (tgt := 22) dX8_squareOf_10 (by decide) hc2 ?_
      refine zr_ldc (v := (1000000000 : Int32)) kw_308 dX8_squareOf_22 ?_
      cases hf
      exact zr_ret _ rfl dX8_squareOf_24
    · rw [if_neg hc2] at hf
      refine zr_icge_f 22 dX8_squareOf_10 (by decide) hc2 ?_
      refine zr_aload_n (v := .inl (some l0)) dX8_squareOf_13 rfl rfl ?_
      revert hf; refine zbi (fun x3 e_x3 hf => ?_)
      refine zq_getR kg_244 dX8_squareOf_14 e_x3 ?_
      refine zr_iload_n (x := l1) dX8_squareOf_17 rfl rfl ?_
      revert hf; refine zbi (fun x4 e_x4 hf => ?_)
      refine zq_iald dX8_squareOf_18 e_x4 ?_
      refine zr_goto (tgt := 24) dX8_squareOf_19 (by decide) ?_
      cases hf
      exact zr_ret _ rfl dX8_squareOf_24
theorem c_X8_squareOf {g : zG} (hg : g.2.1.map (fun q => q.2) = zty) {N : Nat} {l0 : Nat} {l1 : Int32} {h : zH} {r : Int32} (hf : f_X8_squareOf N l0 l1 h = some r) : zCa g jX8_squareOf [zr (some l0), zi l1] h (some (zi r)) h :=
  zCa.of hg (by decide +kernel) (Nat.le_of_ble_eq_true rfl) (s_X8_squareOf hg N l0 l1 h r hf)
theorem dX6_compareOffs_0 : decode cX6_compareOffs 0 = .ok (.iconst 0, 1) := by decide +kernel
theorem dX6_compareOffs_1 : decode cX6_compareOffs 1 = .ok (.istore_n 2, 1) := by decide +kernel
theorem dX6_compareOffs_2 : decode cX6_compareOffs 2 = .ok (.iload_n 2, 1) := by decide +kernel
theorem dX6_compareOffs_3 : decode cX6_compareOffs 3 = .ok (.bipush 8, 2) := by decide +kernel
theorem dX6_compareOffs_5 : decode cX6_compareOffs 5 = .ok (.if_icmp .ge 41, 3) := by decide +kernel
theorem dX6_compareOffs_8 : decode cX6_compareOffs 8 = .ok (.aload_n 0, 1) := by decide +kernel
theorem dX6_compareOffs_9 : decode cX6_compareOffs 9 = .ok (.iload_n 2, 1) := by decide +kernel
theorem dX6_compareOffs_10 : decode cX6_compareOffs 10 = .ok (.invokevirtual 90, 3) := by decide +kernel
theorem dX6_compareOffs_13 : decode cX6_compareOffs 13 = .ok (.aload_n 1, 1) := by decide +kernel
theorem dX6_compareOffs_14 : decode cX6_compareOffs 14 = .ok (.iload_n 2, 1) := by decide +kernel
theorem dX6_compareOffs_15 : decode cX6_compareOffs 15 = .ok (.invokevirtual 90, 3) := by decide +kernel
theorem dX6_compareOffs_18 : decode cX6_compareOffs 18 = .ok (.if_icmp .eq 22, 3) := by decide +kernel
theorem dX6_compareOffs_21 : decode cX6_compareOffs 21 = .ok (.aload_n 0, 1) := by decide +kernel
theorem dX6_compareOffs_22 : decode cX6_compareOffs 22 = .ok (.iload_n 2, 1) := by decide +kernel
theorem dX6_compareOffs_23 : decode cX6_compareOffs 23 = .ok (.invokevirtual 90, 3) := by decide +kernel
theorem dX6_compareOffs_26 : decode cX6_compareOffs 26 = .ok (.aload_n 1, 1) := by decide +kernel
theorem dX6_compareOffs_27 : decode cX6_compareOffs 27 = .ok (.iload_n 2, 1) := by decide +kernel
theorem dX6_compareOffs_28 : decode cX6_compareOffs 28 = .ok (.invokevirtual 90, 3) := by decide +kernel
theorem dX6_compareOffs_31 : decode cX6_compareOffs 31 = .ok (.if_icmp .ge 7, 3) := by decide +kernel
theorem dX6_compareOffs_34 : decode cX6_compareOffs 34 = .ok (.iconst 1, 1) := by decide +kernel
theorem dX6_compareOffs_35 : decode cX6_compareOffs 35 = .ok (.goto 4, 3) := by decide +kernel
theorem dX6_compareOffs_38 : decode cX6_compareOffs 38 = .ok (.iconst (-1), 1) := by decide +kernel
theorem dX6_compareOffs_39 : decode cX6_compareOffs 39 = .ok (.ireturn, 1) := by decide +kernel
theorem dX6_compareOffs_40 : decode cX6_compareOffs 40 = .ok (.iinc 2 1, 3) := by decide +kernel
theorem dX6_compareOffs_43 : decode cX6_compareOffs 43 = .ok (.goto (-41), 3) := by decide +kernel
theorem dX6_compareOffs_46 : decode cX6_compareOffs 46 = .ok (.iconst 0, 1) := by decide +kernel
theorem dX6_compareOffs_47 : decode cX6_compareOffs 47 = .ok (.ireturn, 1) := by decide +kernel
def f_X6_compareOffs_2 (N : Nat) : Nat → Option Nat → Option Nat → Int32 → zH → Option Int32
  | 0, _, _, _, _ => none
  | n + 1, l0, l1, l2, h => if (8 : Int32) ≤ l2 then some (0 : Int32) else (zck h 8 l0).bind fun q1 => (f_X8_squareOf N q1 l2 h).bind fun x1 => (zck h 8 l1).bind fun q2 => (f_X8_squareOf N q2 l2 h).bind fun x2 => if x1 = x2 then f_X6_compareOffs_2 N n l0 l1 (l2 + (1 : Int32)) h else (zck h 8 l0).bind fun q3 => (f_X8_squareOf N q3 l2 h).bind fun x3 => (zck h 8 l1).bind fun q4 => (f_X8_squareOf N q4 l2 h).bind fun x4 => if x4 ≤ x3 then some ((-1) : Int32) else some (1 : Int32)
set_option maxHeartbeats 4000000 in
set_option maxRecDepth 100000 in
theorem s_X6_compareOffs_2 {g : zG} (hg : g.2.1.map (fun q => q.2) = zty) {h0 : zH} (N : Nat) : ∀ (n : Nat) (l0 : Option Nat) (l1 : Option Nat) (l2 : Int32) (h : zH) (r : Int32), f_X6_compareOffs_2 N n l0 l1 l2 h = some r → zR g jX6_compareOffs h0 2 [some (zr l0), some (zr l1), some (zi l2)] [] h (some (zi r)) h := by
  intro n
  induction n with
  | zero =>
    intro l0 l1 l2 h r hf
    cases hf
  | succ n ih =>
    intro l0 l1 l2 h r hf
    rw [f_X6_compareOffs_2] at hf
    refine zr_iload_n (x := l2) dX6_compareOffs_2 rfl rfl ?_
    refine zr_bipush (v := (8 : Int32)) dX6_compareOffs_3 (by decide) ?_
    by_cases hc1 : (8 : Int32) ≤ l2
    · rw [if_pos hc1] at hf
      refine zr_icge_t (tgt := 46) dX6_compareOffs_5 (by decide) hc1 ?_
      refine zr_iconst (v := (0 : Int32)) dX6_compareOffs_46 (by decide) ?_
      cases hf
      exact zr_ret _ rfl dX6_compareOffs_47
    · rw [if_neg hc1] at hf
      refine zr_icge_f 46 dX6_compareOffs_5 (by decide) hc1 ?_
      refine zr_aload_n (v := .inl l0) dX6_compareOffs_8 rfl rfl ?_
      refine zr_iload_n (x := l2) dX6_compareOffs_9 rfl rfl ?_
      revert hf; refine zbi (fun q1 e_q1 hf => ?_)
      revert hf; refine zbi (fun x1 e_x1 hf => ?_)
      refine zq_callV (J' := jX8_squareOf) (as := [zi l2]) (rest := []) (r1 := (some (zi x1))) (q := (RX8, TX8, 3)) kw_310 km_X8_squareOf kt_246 dX6_compareOffs_10 rfl (Nat.le_of_ble_eq_true rfl) rfl rfl e_q1 rfl (c_X8_squareOf hg e_x1) ?_
      refine zr_aload_n (v := .inl l1) dX6_compareOffs_13 rfl rfl ?_
      refine zr_iload_n (x := l2) dX6_compareOffs_14 rfl rfl ?_
      revert hf; refine zbi (fun q2 e_q2 hf => ?_)
      revert hf; refine zbi (fun x2 e_x2 hf => ?_)
      refine zq_callV (J' := jX8_squareOf) (as := [zi l2]) (rest := [zi x1]) (r1 := (some (zi x2))) (q := (RX8, TX8, 3)) kw_310 km_X8_squareOf kt_246 dX6_compareOffs_15 rfl (Nat.le_of_ble_eq_true rfl) rfl rfl e_q2 rfl (c_X8_squareOf hg e_x2) ?_
      by_cases hc2 : x1 = x2
      · rw [if_pos hc2] at hf
        refine zr_iceq_t (tgt := 40) dX6_compareOffs_18 (by decide) hc2 ?_
        refine zq_iinc (x := l2) (y := (1 : Int32)) (L' := [some (zr l0), some (zr l1), some (zi (l2 + (1 : Int32)))]) dX6_compareOffs_40 rfl (by decide) (by decide) rfl ?_
        refine zr_goto (tgt := 2) dX6_compareOffs_43 (by decide) ?_
        exact ih l0 l1 (l2 + (1 : Int32)) h r hf
      · rw [if_neg hc2] at hf
        refine zr_iceq_f 40 dX6_compareOffs_18 (by decide) hc2 ?_
        refine zr_aload_n (v := .inl l0) dX6_compareOffs_21 rfl rfl ?_
        refine zr_iload_n (x := l2) dX6_compareOffs_22 rfl rfl ?_
        revert hf; refine zbi (fun q3 e_q3 hf => ?_)
        revert hf; refine zbi (fun x3 e_x3 hf => ?_)
        refine zq_callV (J' := jX8_squareOf) (as := [zi l2]) (rest := []) (r1 := (some (zi x3))) (q := (RX8, TX8, 3)) kw_310 km_X8_squareOf kt_246 dX6_compareOffs_23 rfl (Nat.le_of_ble_eq_true rfl) rfl rfl e_q3 rfl (c_X8_squareOf hg e_x3) ?_
        refine zr_aload_n (v := .inl l1) dX6_compareOffs_26 rfl rfl ?_
        refine zr_iload_n (x := l2) dX6_compareOffs_27 rfl rfl ?_
        revert hf; refine zbi (fun q4 e_q4 hf => ?_)
        revert hf; refine zbi (fun x4 e_x4 hf => ?_)
        refine zq_callV (J' := jX8_squareOf) (as := [zi l2]) (rest := [zi x3]) (r1 := (some (zi x4))) (q := (RX8, TX8, 3)) kw_310 km_X8_squareOf kt_246 dX6_compareOffs_28 rfl (Nat.le_of_ble_eq_true rfl) rfl rfl e_q4 rfl (c_X8_squareOf hg e_x4) ?_
        by_cases hc3 : x4 ≤ x3
        · rw [if_pos hc3] at hf
          refine zr_icge_t (tgt := 38) dX6_compareOffs_31 (by decide) hc3 ?_
          refine zr_iconst (v := ((-1) : Int32)) dX6_compareOffs_38 (by decide) ?_
          cases hf
          exact zr_ret _ rfl dX6_compareOffs_39
        · rw [if_neg hc3] at hf
          refine zr_icge_f 38 dX6_compareOffs_31 (by decide) hc3 ?_
          refine zr_iconst (v := (1 : Int32)) dX6_compareOffs_34 (by decide) ?_
          refine zr_goto (tgt := 39) dX6_compareOffs_35 (by decide) ?_
          cases hf
          exact zr_ret _ rfl dX6_compareOffs_39
def f_X6_compareOffs (N : Nat) (l0 : Option Nat) (l1 : Option Nat) (h : zH) : Option Int32 := f_X6_compareOffs_2 N N l0 l1 (0 : Int32) h
set_option maxHeartbeats 4000000 in
set_option maxRecDepth 100000 in
theorem s_X6_compareOffs {g : zG} (hg : g.2.1.map (fun q => q.2) = zty) {h0 : zH} (N : Nat) (l0 : Option Nat) (l1 : Option Nat) (h : zH) (r : Int32) (hf : f_X6_compareOffs N l0 l1 h = some r) : zR g jX6_compareOffs h0 0 [some (zr l0), some (zr l1), none] [] h (some (zi r)) h := by
  unfold f_X6_compareOffs at hf
  refine zr_iconst (v := (0 : Int32)) dX6_compareOffs_0 (by decide) ?_
  refine zq_istore_n (x := (0 : Int32)) (L' := [some (zr l0), some (zr l1), some (zi (0 : Int32))]) dX6_compareOffs_1 rfl (by decide) rfl ?_
  exact s_X6_compareOffs_2 hg N N l0 l1 (0 : Int32) h r hf
theorem c_X6_compareOffs {g : zG} (hg : g.2.1.map (fun q => q.2) = zty) {N : Nat} {l0 : Option Nat} {l1 : Option Nat} {h : zH} {r : Int32} (hf : f_X6_compareOffs N l0 l1 h = some r) : zCa g jX6_compareOffs [zr l0, zr l1] h (some (zi r)) h :=
  zCa.of hg (by decide +kernel) (Nat.le_of_ble_eq_true rfl) (s_X6_compareOffs hg N l0 l1 h r hf)
theorem dX8_countOf_0 : decode cX8_countOf 0 = .ok (.iconst 0, 1) := by decide +kernel
theorem dX8_countOf_1 : decode cX8_countOf 1 = .ok (.istore_n 2, 1) := by decide +kernel
theorem dX8_countOf_2 : decode cX8_countOf 2 = .ok (.aload_n 0, 1) := by decide +kernel
theorem dX8_countOf_3 : decode cX8_countOf 3 = .ok (.getfield 18, 3) := by decide +kernel
theorem dX8_countOf_6 : decode cX8_countOf 6 = .ok (.astore_n 3, 1) := by decide +kernel
theorem dX8_countOf_7 : decode cX8_countOf 7 = .ok (.aload_n 3, 1) := by decide +kernel
theorem dX8_countOf_8 : decode cX8_countOf 8 = .ok (.arraylength, 1) := by decide +kernel
theorem dX8_countOf_9 : decode cX8_countOf 9 = .ok (.istore 4, 2) := by decide +kernel
theorem dX8_countOf_11 : decode cX8_countOf 11 = .ok (.iconst 0, 1) := by decide +kernel
theorem dX8_countOf_12 : decode cX8_countOf 12 = .ok (.istore 5, 2) := by decide +kernel
theorem dX8_countOf_14 : decode cX8_countOf 14 = .ok (.iload 5, 2) := by decide +kernel
theorem dX8_countOf_16 : decode cX8_countOf 16 = .ok (.iload 4, 2) := by decide +kernel
theorem dX8_countOf_18 : decode cX8_countOf 18 = .ok (.if_icmp .ge 24, 3) := by decide +kernel
theorem dX8_countOf_21 : decode cX8_countOf 21 = .ok (.aload_n 3, 1) := by decide +kernel
theorem dX8_countOf_22 : decode cX8_countOf 22 = .ok (.iload 5, 2) := by decide +kernel
theorem dX8_countOf_24 : decode cX8_countOf 24 = .ok (.iaload, 1) := by decide +kernel
theorem dX8_countOf_25 : decode cX8_countOf 25 = .ok (.istore 6, 2) := by decide +kernel
theorem dX8_countOf_27 : decode cX8_countOf 27 = .ok (.iload 6, 2) := by decide +kernel
theorem dX8_countOf_29 : decode cX8_countOf 29 = .ok (.iload_n 1, 1) := by decide +kernel
theorem dX8_countOf_30 : decode cX8_countOf 30 = .ok (.if_icmp .ne 6, 3) := by decide +kernel
theorem dX8_countOf_33 : decode cX8_countOf 33 = .ok (.iinc 2 1, 3) := by decide +kernel
theorem dX8_countOf_36 : decode cX8_countOf 36 = .ok (.iinc 5 1, 3) := by decide +kernel
theorem dX8_countOf_39 : decode cX8_countOf 39 = .ok (.goto (-25), 3) := by decide +kernel
theorem dX8_countOf_42 : decode cX8_countOf 42 = .ok (.iload_n 2, 1) := by decide +kernel
theorem dX8_countOf_43 : decode cX8_countOf 43 = .ok (.ireturn, 1) := by decide +kernel
def f_X8_countOf_14 (N : Nat) : Nat → Int32 → Int32 → Option Nat → Int32 → Int32 → zH → Option Int32
  | 0, _, _, _, _, _, _ => none
  | n + 1, l1, l2, l3, l4, l5, h => if l4 ≤ l5 then some l2 else (zld h 0 l3 l5).bind fun x1 => if x1 = l1 then f_X8_countOf_14 N n l1 (l2 + (1 : Int32)) l3 l4 (l5 + (1 : Int32)) h else f_X8_countOf_14 N n l1 l2 l3 l4 (l5 + (1 : Int32)) h
set_option maxHeartbeats 4000000 in
set_option maxRecDepth 100000 in
theorem s_X8_countOf_14 {g : zG} (hg : g.2.1.map (fun q => q.2) = zty) {h0 : zH} (N : Nat) : ∀ (n : Nat) (l1 : Int32) (l2 : Int32) (l3 : Option Nat) (l4 : Int32) (l5 : Int32) (h : zH) (r : Int32), f_X8_countOf_14 N n l1 l2 l3 l4 l5 h = some r → zR g jX8_countOf h0 14 [none, some (zi l1), some (zi l2), some (zr l3), some (zi l4), some (zi l5), none] [] h (some (zi r)) h := by
  intro n
  induction n with
  | zero =>
    intro l1 l2 l3 l4 l5 h r hf
    cases hf
  | succ n ih =>
    intro l1 l2 l3 l4 l5 h r hf
    rw [f_X8_countOf_14] at hf
    refine zr_iload (x := l5) dX8_countOf_14 rfl ?_
    refine zr_iload (x := l4) dX8_countOf_16 rfl ?_
    by_cases hc1 : l4 ≤ l5
    · rw [if_pos hc1] at hf
      refine zr_icge_t (tgt := 42) dX8_countOf_18 (by decide) hc1 ?_
      refine zr_iload_n (x := l2) dX8_countOf_42 rfl rfl ?_
      cases hf
      exact zr_ret _ rfl dX8_countOf_43
    · rw [if_neg hc1] at hf
      refine zr_icge_f 42 dX8_countOf_18 (by decide) hc1 ?_
      refine zr_aload_n (v := .inl l3) dX8_countOf_21 rfl rfl ?_
      refine zr_iload (x := l5) dX8_countOf_22 rfl ?_
      revert hf; refine zbi (fun x1 e_x1 hf => ?_)
      refine zq_iald dX8_countOf_24 e_x1 ?_
      refine zq_istore (x := x1) (L' := [none, some (zi l1), some (zi l2), some (zr l3), some (zi l4), some (zi l5), some (zi x1)]) dX8_countOf_25 (by decide) rfl ?_
      refine zr_iload (x := x1) dX8_countOf_27 rfl ?_
      refine zr_iload_n (x := l1) dX8_countOf_29 rfl rfl ?_
      by_cases hc2 : x1 = l1
      · rw [if_pos hc2] at hf
        refine zr_icne_f 36 dX8_countOf_30 (by decide) hc2 ?_
        refine zq_iinc (x := l2) (y := (1 : Int32)) (L' := [none, some (zi l1), some (zi (l2 + (1 : Int32))), some (zr l3), some (zi l4), some (zi l5), some (zi x1)]) dX8_countOf_33 rfl (by decide) (by decide) rfl ?_
        refine zq_iinc (x := l5) (y := (1 : Int32)) (L' := [none, some (zi l1), some (zi (l2 + (1 : Int32))), some (zr l3), some (zi l4), some (zi (l5 + (1 : Int32))), some (zi x1)]) dX8_countOf_36 rfl (by decide) (by decide) rfl ?_
        refine zr_goto (tgt := 14) dX8_countOf_39 (by decide) ?_
        refine zr_forget 6 (L' := [none, some (zi l1), some (zi (l2 + (1 : Int32))), some (zr l3), some (zi l4), some (zi (l5 + (1 : Int32))), none]) rfl ?_
        exact ih l1 (l2 + (1 : Int32)) l3 l4 (l5 + (1 : Int32)) h r hf
      · rw [if_neg hc2] at hf
        refine zr_icne_t (tgt := 36) dX8_countOf_30 (by decide) hc2 ?_
        refine zq_iinc (x := l5) (y := (1 : Int32)) (L' := [none, some (zi l1), some (zi l2), some (zr l3), some (zi l4), some (zi (l5 + (1 : Int32))), some (zi x1)]) dX8_countOf_36 rfl (by decide) (by decide) rfl ?_
        refine zr_goto (tgt := 14) dX8_countOf_39 (by decide) ?_
        refine zr_forget 6 (L' := [none, some (zi l1), some (zi l2), some (zr l3), some (zi l4), some (zi (l5 + (1 : Int32))), none]) rfl ?_
        exact ih l1 l2 l3 l4 (l5 + (1 : Int32)) h r hf
def f_X8_countOf (N : Nat) (l0 : Nat) (l1 : Int32) (h : zH) : Option Int32 := (zgR h 8 (some l0) 1).bind fun x1 => (zlen h x1).bind fun x2 => f_X8_countOf_14 N N l1 (0 : Int32) x1 x2 (0 : Int32) h
set_option maxHeartbeats 4000000 in
set_option maxRecDepth 100000 in
theorem s_X8_countOf {g : zG} (hg : g.2.1.map (fun q => q.2) = zty) {h0 : zH} (N : Nat) (l0 : Nat) (l1 : Int32) (h : zH) (r : Int32) (hf : f_X8_countOf N l0 l1 h = some r) : zR g jX8_countOf h0 0 [some (zr (some l0)), some (zi l1), none, none, none, none, none] [] h (some (zi r)) h := by
  unfold f_X8_countOf at hf
  refine zr_iconst (v := (0 : Int32)) dX8_countOf_0 (by decide) ?_
  refine zq_istore_n (x := (0 : Int32)) (L' := [some (zr (some l0)), some (zi l1), some (zi (0 : Int32)), none, none, none, none]) dX8_countOf_1 rfl (by decide) rfl ?_
  refine zr_aload_n (v := .inl (some l0)) dX8_countOf_2 rfl rfl ?_
  revert hf; refine zbi (fun x1 e_x1 hf => ?_)
  refine zq_getR kg_247 dX8_countOf_3 e_x1 ?_
  refine zq_astore_n (v := .inl x1) (L' := [some (zr (some l0)), some (zi l1), some (zi (0 : Int32)), some (zr x1), none, none, none]) dX8_countOf_6 rfl (by decide) rfl ?_
  refine zr_aload_n (v := .inl x1) dX8_countOf_7 rfl rfl ?_
  revert hf; refine zbi (fun x2 e_x2 hf => ?_)
  refine zq_alen dX8_countOf_8 e_x2 ?_
  refine zq_istore (x := x2) (L' := [some (zr (some l0)), some (zi l1), some (zi (0 : Int32)), some (zr x1), some (zi x2), none, none]) dX8_countOf_9 (by decide) rfl ?_
  refine zr_iconst (v := (0 : Int32)) dX8_countOf_11 (by decide) ?_
  refine zq_istore (x := (0 : Int32)) (L' := [some (zr (some l0)), some (zi l1), some (zi (0 : Int32)), some (zr x1), some (zi x2), some (zi (0 : Int32)), none]) dX8_countOf_12 (by decide) rfl ?_
  refine zr_forget 0 (L' := [none, some (zi l1), some (zi (0 : Int32)), some (zr x1), some (zi x2), some (zi (0 : Int32)), none]) rfl ?_
  exact s_X8_countOf_14 hg N N l1 (0 : Int32) x1 x2 (0 : Int32) h r hf
theorem c_X8_countOf {g : zG} (hg : g.2.1.map (fun q => q.2) = zty) {N : Nat} {l0 : Nat} {l1 : Int32} {h : zH} {r : Int32} (hf : f_X8_countOf N l0 l1 h = some r) : zCa g jX8_countOf [zr (some l0), zi l1] h (some (zi r)) h :=
  zCa.of hg (by decide +kernel) (Nat.le_of_ble_eq_true rfl) (s_X8_countOf hg N l0 l1 h r hf)
theorem dX6_compareBy_0 : decode cX6_compareBy 0 = .ok (.iload_n 0, 1) := by decide +kernel
theorem dX6_compareBy_1 : decode cX6_compareBy 1 = .ok (.lookupswitch 45 #[(21, 27), (22, 39)], 27) := by decide +kernel
theorem dX6_compareBy_28 : decode cX6_compareBy 28 = .ok (.aload_n 1, 1) := by decide +kernel
theorem dX6_compareBy_29 : decode cX6_compareBy 29 = .ok (.invokevirtual 80, 3) := by decide +kernel
theorem dX6_compareBy_32 : decode cX6_compareBy 32 = .ok (.aload_n 2, 1) := by decide +kernel
theorem dX6_compareBy_33 : decode cX6_compareBy 33 = .ok (.invokevirtual 80, 3) := by decide +kernel
theorem dX6_compareBy_36 : decode cX6_compareBy 36 = .ok (.invokestatic 70, 3) := by decide +kernel
theorem dX6_compareBy_39 : decode cX6_compareBy 39 = .ok (.ireturn, 1) := by decide +kernel
theorem dX6_compareBy_40 : decode cX6_compareBy 40 = .ok (.aload_n 1, 1) := by decide +kernel
theorem dX6_compareBy_41 : decode cX6_compareBy 41 = .ok (.aload_n 2, 1) := by decide +kernel
theorem dX6_compareBy_42 : decode cX6_compareBy 42 = .ok (.invokestatic 83, 3) := by decide +kernel
theorem dX6_compareBy_45 : decode cX6_compareBy 45 = .ok (.ireturn, 1) := by decide +kernel
theorem dX6_compareBy_46 : decode cX6_compareBy 46 = .ok (.aload_n 1, 1) := by decide +kernel
theorem dX6_compareBy_47 : decode cX6_compareBy 47 = .ok (.iload_n 0, 1) := by decide +kernel
theorem dX6_compareBy_48 : decode cX6_compareBy 48 = .ok (.invokevirtual 87, 3) := by decide +kernel
theorem dX6_compareBy_51 : decode cX6_compareBy 51 = .ok (.aload_n 2, 1) := by decide +kernel
theorem dX6_compareBy_52 : decode cX6_compareBy 52 = .ok (.iload_n 0, 1) := by decide +kernel
theorem dX6_compareBy_53 : decode cX6_compareBy 53 = .ok (.invokevirtual 87, 3) := by decide +kernel
theorem dX6_compareBy_56 : decode cX6_compareBy 56 = .ok (.invokestatic 70, 3) := by decide +kernel
theorem dX6_compareBy_59 : decode cX6_compareBy 59 = .ok (.ireturn, 1) := by decide +kernel
def f_X6_compareBy (N : Nat) (l0 : Int32) (l1 : Option Nat) (l2 : Option Nat) (h : zH) : Option Int32 := if l0 = (21 : Int32) then (zck h 8 l1).bind fun q1 => (f_X8_lastSum N q1 h).bind fun x1 => (zck h 8 l2).bind fun q2 => (f_X8_lastSum N q2 h).bind fun x2 => (f_J6_compare_7cf53 N x1 x2 h).bind fun x3 => some x3 else if l0 = (22 : Int32) then (f_X6_compareOffs N l1 l2 h).bind fun x4 => some x4 else (zck h 8 l1).bind fun q3 => (f_X8_countOf N q3 l0 h).bind fun x5 => (zck h 8 l2).bind fun q4 => (f_X8_countOf N q4 l0 h).bind fun x6 => (f_J6_compare_7cf53 N x5 x6 h).bind fun x7 => some x7
set_option maxHeartbeats 4000000 in
set_option maxRecDepth 100000 in
theorem s_X6_compareBy {g : zG} (hg : g.2.1.map (fun q => q.2) = zty) {h0 : zH} (N : Nat) (l0 : Int32) (l1 : Option Nat) (l2 : Option Nat) (h : zH) (r : Int32) (hf : f_X6_compareBy N l0 l1 l2 h = some r) : zR g jX6_compareBy h0 0 [some (zi l0), some (zr l1), some (zr l2)] [] h (some (zi r)) h := by
  unfold f_X6_compareBy at hf
  refine zr_iload_n (x := l0) dX6_compareBy_0 rfl rfl ?_
  by_cases hc1 : l0 = (21 : Int32)
  · rw [if_pos hc1] at hf
    refine zr_look (off := 27) (tgt := 28) dX6_compareBy_1 (by decide) (by rw [hc1]; rfl) (by decide) ?_
    refine zr_aload_n (v := .inl l1) dX6_compareBy_28 rfl rfl ?_
    revert hf; refine zbi (fun q1 e_q1 hf => ?_)
    revert hf; refine zbi (fun x1 e_x1 hf => ?_)
    refine zq_callV (J' := jX8_lastSum) (as := []) (rest := []) (r1 := (some (zi x1))) (q := (RX8, TX8, 3)) kw_316 km_X8_lastSum kt_249 dX6_compareBy_29 rfl (Nat.le_of_ble_eq_true rfl) rfl rfl e_q1 rfl (c_X8_lastSum hg e_x1) ?_
    refine zr_aload_n (v := .inl l2) dX6_compareBy_32 rfl rfl ?_
    revert hf; refine zbi (fun q2 e_q2 hf => ?_)
    revert hf; refine zbi (fun x2 e_x2 hf => ?_)
    refine zq_callV (J' := jX8_lastSum) (as := []) (rest := [zi x1]) (r1 := (some (zi x2))) (q := (RX8, TX8, 3)) kw_316 km_X8_lastSum kt_249 dX6_compareBy_33 rfl (Nat.le_of_ble_eq_true rfl) rfl rfl e_q2 rfl (c_X8_lastSum hg e_x2) ?_
    revert hf; refine zbi (fun x3 e_x3 hf => ?_)
    refine zq_callS (J' := jJ6_compare_7cf53) (as := [zi x1, zi x2]) (rest := []) (r1 := (some (zi x3))) kw_320 km_J6_compare_7cf53 kt_251 dX6_compareBy_36 rfl (Nat.le_of_ble_eq_true rfl) rfl (c_J6_compare_7cf53 hg e_x3) ?_
    cases hf
    exact zr_ret _ rfl dX6_compareBy_39
  · rw [if_neg hc1] at hf
    by_cases hc2 : l0 = (22 : Int32)
    · rw [if_pos hc2] at hf
      refine zr_look (off := 39) (tgt := 40) dX6_compareBy_1 (by decide) (by rw [hc2]; rfl) (by decide) ?_
      refine zr_aload_n (v := .inl l1) dX6_compareBy_40 rfl rfl ?_
      refine zr_aload_n (v := .inl l2) dX6_compareBy_41 rfl rfl ?_
      revert hf; refine zbi (fun x4 e_x4 hf => ?_)
      refine zq_callS (J' := jX6_compareOffs) (as := [zr l1, zr l2]) (rest := []) (r1 := (some (zi x4))) kw_324 km_X6_compareOffs kt_253 dX6_compareBy_42 rfl (Nat.le_of_ble_eq_true rfl) rfl (c_X6_compareOffs hg e_x4) ?_
      cases hf
      exact zr_ret _ rfl dX6_compareBy_45
    · rw [if_neg hc2] at hf
      refine zr_look (off := 45) (tgt := 46) dX6_compareBy_1 (by decide) (by dsimp only; rw [lv_osw hc1 (by decide), lv_osw hc2 (by decide)]; rfl) (by decide) ?_
      refine zr_aload_n (v := .inl l1) dX6_compareBy_46 rfl rfl ?_
      refine zr_iload_n (x := l0) dX6_compareBy_47 rfl rfl ?_
      revert hf; refine zbi (fun q3 e_q3 hf => ?_)
      revert hf; refine zbi (fun x5 e_x5 hf => ?_)
      refine zq_callV (J' := jX8_countOf) (as := [zi l0]) (rest := []) (r1 := (some (zi x5))) (q := (RX8, TX8, 3)) kw_327 km_X8_countOf kt_255 dX6_compareBy_48 rfl (Nat.le_of_ble_eq_true rfl) rfl rfl e_q3 rfl (c_X8_countOf hg e_x5) ?_
      refine zr_aload_n (v := .inl l2) dX6_compareBy_51 rfl rfl ?_
      refine zr_iload_n (x := l0) dX6_compareBy_52 rfl rfl ?_
      revert hf; refine zbi (fun q4 e_q4 hf => ?_)
      revert hf; refine zbi (fun x6 e_x6 hf => ?_)
      refine zq_callV (J' := jX8_countOf) (as := [zi l0]) (rest := [zi x5]) (r1 := (some (zi x6))) (q := (RX8, TX8, 3)) kw_327 km_X8_countOf kt_255 dX6_compareBy_53 rfl (Nat.le_of_ble_eq_true rfl) rfl rfl e_q4 rfl (c_X8_countOf hg e_x6) ?_
      revert hf; refine zbi (fun x7 e_x7 hf => ?_)
      refine zq_callS (J' := jJ6_compare_7cf53) (as := [zi x5, zi x6]) (rest := []) (r1 := (some (zi x7))) kw_320 km_J6_compare_7cf53 kt_251 dX6_compareBy_56 rfl (Nat.le_of_ble_eq_true rfl) rfl (c_J6_compare_7cf53 hg e_x7) ?_
      cases hf
      exact zr_ret _ rfl dX6_compareBy_59
theorem c_X6_compareBy {g : zG} (hg : g.2.1.map (fun q => q.2) = zty) {N : Nat} {l0 : Int32} {l1 : Option Nat} {l2 : Option Nat} {h : zH} {r : Int32} (hf : f_X6_compareBy N l0 l1 l2 h = some r) : zCa g jX6_compareBy [zi l0, zr l1, zr l2] h (some (zi r)) h :=
  zCa.of hg (by decide +kernel) (Nat.le_of_ble_eq_true rfl) (s_X6_compareBy hg N l0 l1 l2 h r hf)
theorem dX6_compare_0 : decode cX6_compare 0 = .ok (.aload_n 1, 1) := by decide +kernel
theorem dX6_compare_1 : decode cX6_compare 1 = .ok (.invokevirtual 65, 3) := by decide +kernel
theorem dX6_compare_4 : decode cX6_compare 4 = .ok (.aload_n 2, 1) := by decide +kernel
theorem dX6_compare_5 : decode cX6_compare 5 = .ok (.invokevirtual 65, 3) := by decide +kernel
theorem dX6_compare_8 : decode cX6_compare 8 = .ok (.invokestatic 70, 3) := by decide +kernel
theorem dX6_compare_11 : decode cX6_compare 11 = .ok (.istore_n 3, 1) := by decide +kernel
theorem dX6_compare_12 : decode cX6_compare 12 = .ok (.iconst 0, 1) := by decide +kernel
theorem dX6_compare_13 : decode cX6_compare 13 = .ok (.istore 4, 2) := by decide +kernel
theorem dX6_compare_15 : decode cX6_compare 15 = .ok (.iload 4, 2) := by decide +kernel
theorem dX6_compare_17 : decode cX6_compare 17 = .ok (.aload_n 0, 1) := by decide +kernel
theorem dX6_compare_18 : decode cX6_compare 18 = .ok (.getfield 37, 3) := by decide +kernel
theorem dX6_compare_21 : decode cX6_compare 21 = .ok (.if_icmp .ge 26, 3) := by decide +kernel
theorem dX6_compare_24 : decode cX6_compare 24 = .ok (.iload_n 3, 1) := by decide +kernel
theorem dX6_compare_25 : decode cX6_compare 25 = .ok (.ifCond .ne 22, 3) := by decide +kernel
theorem dX6_compare_28 : decode cX6_compare 28 = .ok (.aload_n 0, 1) := by decide +kernel
theorem dX6_compare_29 : decode cX6_compare 29 = .ok (.getfield 40, 3) := by decide +kernel
theorem dX6_compare_32 : decode cX6_compare 32 = .ok (.iload 4, 2) := by decide +kernel
theorem dX6_compare_34 : decode cX6_compare 34 = .ok (.iaload, 1) := by decide +kernel
theorem dX6_compare_35 : decode cX6_compare 35 = .ok (.aload_n 1, 1) := by decide +kernel
theorem dX6_compare_36 : decode cX6_compare 36 = .ok (.aload_n 2, 1) := by decide +kernel
theorem dX6_compare_37 : decode cX6_compare 37 = .ok (.invokestatic 76, 3) := by decide +kernel
theorem dX6_compare_40 : decode cX6_compare 40 = .ok (.istore_n 3, 1) := by decide +kernel
theorem dX6_compare_41 : decode cX6_compare 41 = .ok (.iinc 4 1, 3) := by decide +kernel
theorem dX6_compare_44 : decode cX6_compare 44 = .ok (.goto (-29), 3) := by decide +kernel
theorem dX6_compare_47 : decode cX6_compare 47 = .ok (.iload_n 3, 1) := by decide +kernel
theorem dX6_compare_48 : decode cX6_compare 48 = .ok (.ireturn, 1) := by decide +kernel
def f_X6_compare_15 (N : Nat) : Nat → Nat → Option Nat → Option Nat → Int32 → Int32 → zH → Option Int32
  | 0, _, _, _, _, _, _ => none
  | n + 1, l0, l1, l2, l3, l4, h => (zgI h 6 (some l0) 8).bind fun x1 => if x1 ≤ l4 then some l3 else if l3 = 0 then (zgR h 6 (some l0) 9).bind fun x2 => (zld h 0 x2 l4).bind fun x3 => (f_X6_compareBy N x3 l1 l2 h).bind fun x4 => f_X6_compare_15 N n l0 l1 l2 x4 (l4 + (1 : Int32)) h else some l3
set_option maxHeartbeats 4000000 in
set_option maxRecDepth 100000 in
theorem s_X6_compare_15 {g : zG} (hg : g.2.1.map (fun q => q.2) = zty) {h0 : zH} (N : Nat) : ∀ (n : Nat) (l0 : Nat) (l1 : Option Nat) (l2 : Option Nat) (l3 : Int32) (l4 : Int32) (h : zH) (r : Int32), f_X6_compare_15 N n l0 l1 l2 l3 l4 h = some r → zR g jX6_compare h0 15 [some (zr (some l0)), some (zr l1), some (zr l2), some (zi l3), some (zi l4)] [] h (some (zi r)) h := by
  intro n
  induction n with
  | zero =>
    intro l0 l1 l2 l3 l4 h r hf
    cases hf
  | succ n ih =>
    intro l0 l1 l2 l3 l4 h r hf
    rw [f_X6_compare_15] at hf
    refine zr_iload (x := l4) dX6_compare_15 rfl ?_
    refine zr_aload_n (v := .inl (some l0)) dX6_compare_17 rfl rfl ?_
    revert hf; refine zbi (fun x1 e_x1 hf => ?_)
    refine zq_getI kg_202 dX6_compare_18 e_x1 ?_
    by_cases hc1 : x1 ≤ l4
    · rw [if_pos hc1] at hf
      refine zr_icge_t (tgt := 47) dX6_compare_21 (by decide) hc1 ?_
      refine zr_iload_n (x := l3) dX6_compare_47 rfl rfl ?_
      cases hf
      exact zr_ret _ rfl dX6_compare_48
    · rw [if_neg hc1] at hf
      refine zr_icge_f 47 dX6_compare_21 (by decide) hc1 ?_
      refine zr_iload_n (x := l3) dX6_compare_24 rfl rfl ?_
      by_cases hc2 : l3 = 0
      · rw [if_pos hc2] at hf
        refine zr_ifne_f 47 dX6_compare_25 (by decide) hc2 ?_
        refine zr_aload_n (v := .inl (some l0)) dX6_compare_28 rfl rfl ?_
        revert hf; refine zbi (fun x2 e_x2 hf => ?_)
        refine zq_getR kg_203 dX6_compare_29 e_x2 ?_
        refine zr_iload (x := l4) dX6_compare_32 rfl ?_
        revert hf; refine zbi (fun x3 e_x3 hf => ?_)
        refine zq_iald dX6_compare_34 e_x3 ?_
        refine zr_aload_n (v := .inl l1) dX6_compare_35 rfl rfl ?_
        refine zr_aload_n (v := .inl l2) dX6_compare_36 rfl rfl ?_
        revert hf; refine zbi (fun x4 e_x4 hf => ?_)
        refine zq_callS (J' := jX6_compareBy) (as := [zi x3, zr l1, zr l2]) (rest := []) (r1 := (some (zi x4))) kw_331 km_X6_compareBy kt_257 dX6_compare_37 rfl (Nat.le_of_ble_eq_true rfl) rfl (c_X6_compareBy hg e_x4) ?_
        refine zq_istore_n (x := x4) (L' := [some (zr (some l0)), some (zr l1), some (zr l2), some (zi x4), some (zi l4)]) dX6_compare_40 rfl (by decide) rfl ?_
        refine zq_iinc (x := l4) (y := (1 : Int32)) (L' := [some (zr (some l0)), some (zr l1), some (zr l2), some (zi x4), some (zi (l4 + (1 : Int32)))]) dX6_compare_41 rfl (by decide) (by decide) rfl ?_
        refine zr_goto (tgt := 15) dX6_compare_44 (by decide) ?_
        exact ih l0 l1 l2 x4 (l4 + (1 : Int32)) h r hf
      · rw [if_neg hc2] at hf
        refine zr_ifne_t (tgt := 47) dX6_compare_25 (by decide) hc2 ?_
        refine zr_iload_n (x := l3) dX6_compare_47 rfl rfl ?_
        cases hf
        exact zr_ret _ rfl dX6_compare_48
def f_X6_compare (N : Nat) (l0 : Nat) (l1 : Option Nat) (l2 : Option Nat) (h : zH) : Option Int32 := (zck h 8 l1).bind fun q1 => (f_X8_total N q1 h).bind fun x1 => (zck h 8 l2).bind fun q2 => (f_X8_total N q2 h).bind fun x2 => (f_J6_compare_7cf53 N x1 x2 h).bind fun x3 => f_X6_compare_15 N N l0 l1 l2 x3 (0 : Int32) h
set_option maxHeartbeats 4000000 in
set_option maxRecDepth 100000 in
theorem s_X6_compare {g : zG} (hg : g.2.1.map (fun q => q.2) = zty) {h0 : zH} (N : Nat) (l0 : Nat) (l1 : Option Nat) (l2 : Option Nat) (h : zH) (r : Int32) (hf : f_X6_compare N l0 l1 l2 h = some r) : zR g jX6_compare h0 0 [some (zr (some l0)), some (zr l1), some (zr l2), none, none] [] h (some (zi r)) h := by
  unfold f_X6_compare at hf
  refine zr_aload_n (v := .inl l1) dX6_compare_0 rfl rfl ?_
  revert hf; refine zbi (fun q1 e_q1 hf => ?_)
  revert hf; refine zbi (fun x1 e_x1 hf => ?_)
  refine zq_callV (J' := jX8_total) (as := []) (rest := []) (r1 := (some (zi x1))) (q := (RX8, TX8, 3)) kw_334 km_X8_total kt_259 dX6_compare_1 rfl (Nat.le_of_ble_eq_true rfl) rfl rfl e_q1 rfl (c_X8_total hg e_x1) ?_
  refine zr_aload_n (v := .inl l2) dX6_compare_4 rfl rfl ?_
  revert hf; refine zbi (fun q2 e_q2 hf => ?_)
  revert hf; refine zbi (fun x2 e_x2 hf => ?_)
  refine zq_callV (J' := jX8_total) (as := []) (rest := [zi x1]) (r1 := (some (zi x2))) (q := (RX8, TX8, 3)) kw_334 km_X8_total kt_259 dX6_compare_5 rfl (Nat.le_of_ble_eq_true rfl) rfl rfl e_q2 rfl (c_X8_total hg e_x2) ?_
  revert hf; refine zbi (fun x3 e_x3 hf => ?_)
  refine zq_callS (J' := jJ6_compare_7cf53) (as := [zi x1, zi x2]) (rest := []) (r1 := (some (zi x3))) kw_320 km_J6_compare_7cf53 kt_260 dX6_compare_8 rfl (Nat.le_of_ble_eq_true rfl) rfl (c_J6_compare_7cf53 hg e_x3) ?_
  refine zq_istore_n (x := x3) (L' := [some (zr (some l0)), some (zr l1), some (zr l2), some (zi x3), none]) dX6_compare_11 rfl (by decide) rfl ?_
  refine zr_iconst (v := (0 : Int32)) dX6_compare_12 (by decide) ?_
  refine zq_istore (x := (0 : Int32)) (L' := [some (zr (some l0)), some (zr l1), some (zr l2), some (zi x3), some (zi (0 : Int32))]) dX6_compare_13 (by decide) rfl ?_
  exact s_X6_compare_15 hg N N l0 l1 l2 x3 (0 : Int32) h r hf
theorem c_X6_compare {g : zG} (hg : g.2.1.map (fun q => q.2) = zty) {N : Nat} {l0 : Nat} {l1 : Option Nat} {l2 : Option Nat} {h : zH} {r : Int32} (hf : f_X6_compare N l0 l1 l2 h = some r) : zCa g jX6_compare [zr (some l0), zr l1, zr l2] h (some (zi r)) h :=
  zCa.of hg (by decide +kernel) (Nat.le_of_ble_eq_true rfl) (s_X6_compare hg N l0 l1 l2 h r hf)
theorem dX7_init__0 : decode cX7_init_ 0 = .ok (.aload_n 0, 1) := by decide +kernel
theorem dX7_init__1 : decode cX7_init_ 1 = .ok (.invokespecial 9, 3) := by decide +kernel
theorem dX7_init__4 : decode cX7_init_ 4 = .ok (.aload_n 0, 1) := by decide +kernel
theorem dX7_init__5 : decode cX7_init_ 5 = .ok (.aload_n 1, 1) := by decide +kernel
theorem dX7_init__6 : decode cX7_init_ 6 = .ok (.putfield 14, 3) := by decide +kernel
theorem dX7_init__9 : decode cX7_init_ 9 = .ok (.return_, 1) := by decide +kernel
def f_X7_init_ (N : Nat) (l0 : Nat) (l1 : Option Nat) (h : zH) : Option zH := (zpu h 7 (some l0) 0 (zr l1)).bind fun h1 => some h1
set_option maxHeartbeats 4000000 in
set_option maxRecDepth 100000 in
theorem s_X7_init_ {g : zG} (hg : g.2.1.map (fun q => q.2) = zty) {h0 : zH} (N : Nat) (l0 : Nat) (l1 : Option Nat) (h : zH) (h' : zH) (hf : f_X7_init_ N l0 l1 h = some h') : zR g jX7_init_ h0 0 [some (zr (some l0)), some (zr l1)] [] h none h' := by
  unfold f_X7_init_ at hf
  refine zr_aload_n (v := .inl (some l0)) dX7_init__0 rfl rfl ?_
  refine zr_objInit kw_338 kw_1 kw_2 ⟨Nat.le_of_ble_eq_true rfl, Nat.le_of_ble_eq_true rfl⟩ dX7_init__1 ?_
  refine zr_aload_n (v := .inl (some l0)) dX7_init__4 rfl rfl ?_
  refine zr_aload_n (v := .inl l1) dX7_init__5 rfl rfl ?_
  revert hf; refine zbi (fun h1 e_h1 hf => ?_)
  refine zq_put kp_261 dX7_init__6 (zn_a _ _) e_h1 ?_
  cases hf
  exact zr_ret none trivial dX7_init__9
theorem c_X7_init_ {g : zG} (hg : g.2.1.map (fun q => q.2) = zty) {N : Nat} {l0 : Nat} {l1 : Option Nat} {h : zH} {h' : zH} (hf : f_X7_init_ N l0 l1 h = some h') : zCa g jX7_init_ [zr (some l0), zr l1] h none h' :=
  zCa.of hg (by decide +kernel) (Nat.le_of_ble_eq_true rfl) (s_X7_init_ hg N l0 l1 h h' hf)
theorem dX7_init_0 : decode cX7_init 0 = .ok (.aload_n 0, 1) := by decide +kernel
theorem dX7_init_1 : decode cX7_init 1 = .ok (.iconst 0, 1) := by decide +kernel
theorem dX7_init_2 : decode cX7_init 2 = .ok (.newarray .int, 2) := by decide +kernel
theorem dX7_init_4 : decode cX7_init 4 = .ok (.invokespecial 3, 3) := by decide +kernel
theorem dX7_init_7 : decode cX7_init 7 = .ok (.return_, 1) := by decide +kernel
def f_X7_init (N : Nat) (l0 : Nat) (h : zH) : Option zH := zna h 0 (0 : Int32) fun a1 h1 => (f_X7_init_ N l0 (some a1) h1).bind fun h2 => some h2
set_option maxHeartbeats 4000000 in
set_option maxRecDepth 100000 in
theorem s_X7_init {g : zG} (hg : g.2.1.map (fun q => q.2) = zty) {h0 : zH} (N : Nat) (l0 : Nat) (h : zH) (h' : zH) (hf : f_X7_init N l0 h = some h') : zR g jX7_init h0 0 [some (zr (some l0))] [] h none h' := by
  unfold f_X7_init at hf
  refine zr_aload_n (v := .inl (some l0)) dX7_init_0 rfl rfl ?_
  refine zr_iconst (v := (0 : Int32)) dX7_init_1 (by decide) ?_
  obtain ⟨a1, h1, e_a1, hf⟩ := zna_spec hf
  refine zq_newa (atype := .int) (t := 0) kw_14 rfl (fun _ _ => rfl) (by decide) dX7_init_2 e_a1 ?_
  revert hf; refine zbi (fun h2 e_h2 hf => ?_)
  refine zq_callI (J' := jX7_init_) (as := [zr (some a1)]) (rest := []) (r1 := none) (a := l0) kw_339 km_X7_init_ kt_263 dX7_init_4 rfl (Nat.le_of_ble_eq_true rfl) rfl (c_X7_init_ hg e_h2) ?_
  cases hf
  exact zr_ret none trivial dX7_init_7
theorem c_X7_init {g : zG} (hg : g.2.1.map (fun q => q.2) = zty) {N : Nat} {l0 : Nat} {h : zH} {h' : zH} (hf : f_X7_init N l0 h = some h') : zCa g jX7_init [zr (some l0)] h none h' :=
  zCa.of hg (by decide +kernel) (Nat.le_of_ble_eq_true rfl) (s_X7_init hg N l0 h h' hf)
theorem dX7_with_0 : decode cX7_with 0 = .ok (.aload_n 0, 1) := by decide +kernel
theorem dX7_with_1 : decode cX7_with 1 = .ok (.getfield 14, 3) := by decide +kernel
theorem dX7_with_4 : decode cX7_with 4 = .ok (.aload_n 0, 1) := by decide +kernel
theorem dX7_with_5 : decode cX7_with 5 = .ok (.getfield 14, 3) := by decide +kernel
theorem dX7_with_8 : decode cX7_with 8 = .ok (.arraylength, 1) := by decide +kernel
theorem dX7_with_9 : decode cX7_with 9 = .ok (.iconst 4, 1) := by decide +kernel
theorem dX7_with_10 : decode cX7_with 10 = .ok (.iadd, 1) := by decide +kernel
theorem dX7_with_11 : decode cX7_with 11 = .ok (.invokestatic 18, 3) := by decide +kernel
theorem dX7_with_14 : decode cX7_with 14 = .ok (.astore 4, 2) := by decide +kernel
theorem dX7_with_16 : decode cX7_with 16 = .ok (.aload 4, 2) := by decide +kernel
theorem dX7_with_18 : decode cX7_with 18 = .ok (.aload_n 0, 1) := by decide +kernel
theorem dX7_with_19 : decode cX7_with 19 = .ok (.getfield 14, 3) := by decide +kernel
theorem dX7_with_22 : decode cX7_with 22 = .ok (.arraylength, 1) := by decide +kernel
theorem dX7_with_23 : decode cX7_with 23 = .ok (.iconst 0, 1) := by decide +kernel
theorem dX7_with_24 : decode cX7_with 24 = .ok (.iadd, 1) := by decide +kernel
theorem dX7_with_25 : decode cX7_with 25 = .ok (.iload_n 1, 1) := by decide +kernel
theorem dX7_with_26 : decode cX7_with 26 = .ok (.iastore, 1) := by decide +kernel
theorem dX7_with_27 : decode cX7_with 27 = .ok (.aload 4, 2) := by decide +kernel
theorem dX7_with_29 : decode cX7_with 29 = .ok (.aload_n 0, 1) := by decide +kernel
theorem dX7_with_30 : decode cX7_with 30 = .ok (.getfield 14, 3) := by decide +kernel
theorem dX7_with_33 : decode cX7_with 33 = .ok (.arraylength, 1) := by decide +kernel
theorem dX7_with_34 : decode cX7_with 34 = .ok (.iconst 1, 1) := by decide +kernel
theorem dX7_with_35 : decode cX7_with 35 = .ok (.iadd, 1) := by decide +kernel
theorem dX7_with_36 : decode cX7_with 36 = .ok (.iload_n 2, 1) := by decide +kernel
theorem dX7_with_37 : decode cX7_with 37 = .ok (.iastore, 1) := by decide +kernel
theorem dX7_with_38 : decode cX7_with 38 = .ok (.aload 4, 2) := by decide +kernel
theorem dX7_with_40 : decode cX7_with 40 = .ok (.aload_n 0, 1) := by decide +kernel
theorem dX7_with_41 : decode cX7_with 41 = .ok (.getfield 14, 3) := by decide +kernel
theorem dX7_with_44 : decode cX7_with 44 = .ok (.arraylength, 1) := by decide +kernel
theorem dX7_with_45 : decode cX7_with 45 = .ok (.iconst 2, 1) := by decide +kernel
theorem dX7_with_46 : decode cX7_with 46 = .ok (.iadd, 1) := by decide +kernel
theorem dX7_with_47 : decode cX7_with 47 = .ok (.iload_n 3, 1) := by decide +kernel
theorem dX7_with_48 : decode cX7_with 48 = .ok (.iastore, 1) := by decide +kernel
theorem dX7_with_49 : decode cX7_with 49 = .ok (.aload 4, 2) := by decide +kernel
theorem dX7_with_51 : decode cX7_with 51 = .ok (.aload_n 0, 1) := by decide +kernel
theorem dX7_with_52 : decode cX7_with 52 = .ok (.getfield 14, 3) := by decide +kernel
theorem dX7_with_55 : decode cX7_with 55 = .ok (.arraylength, 1) := by decide +kernel
theorem dX7_with_56 : decode cX7_with 56 = .ok (.iconst 3, 1) := by decide +kernel
theorem dX7_with_57 : decode cX7_with 57 = .ok (.iadd, 1) := by decide +kernel
theorem dX7_with_58 : decode cX7_with 58 = .ok (.iconst (-1), 1) := by decide +kernel
theorem dX7_with_59 : decode cX7_with 59 = .ok (.iastore, 1) := by decide +kernel
theorem dX7_with_60 : decode cX7_with 60 = .ok (.new 4, 3) := by decide +kernel
theorem dX7_with_63 : decode cX7_with 63 = .ok (.dup, 1) := by decide +kernel
theorem dX7_with_64 : decode cX7_with 64 = .ok (.aload 4, 2) := by decide +kernel
theorem dX7_with_66 : decode cX7_with 66 = .ok (.invokespecial 3, 3) := by decide +kernel
theorem dX7_with_69 : decode cX7_with 69 = .ok (.areturn, 1) := by decide +kernel
def f_X7_with (N : Nat) (l0 : Nat) (l1 : Int32) (l2 : Int32) (l3 : Int32) (h : zH) : Option ((Option Nat) × zH) := (zgR h 7 (some l0) 0).bind fun x1 => (zgR h 7 (some l0) 0).bind fun x2 => (zlen h x2).bind fun x3 => zb2 (f_J7_copyOf_59c91 N x1 (x3 + (4 : Int32)) h) fun x4 h1 => (zgR h1 7 (some l0) 0).bind fun x5 => (zlen h1 x5).bind fun x6 => (zst h1 0 x4 (x6 + (0 : Int32)) l1).bind fun h2 => (zgR h2 7 (some l0) 0).bind fun x7 => (zlen h2 x7).bind fun x8 => (zst h2 0 x4 (x8 + (1 : Int32)) l2).bind fun h3 => (zgR h3 7 (some l0) 0).bind fun x9 => (zlen h3 x9).bind fun x10 => (zst h3 0 x4 (x10 + (2 : Int32)) l3).bind fun h4 => (zgR h4 7 (some l0) 0).bind fun x11 => (zlen h4 x11).bind fun x12 => (zst h4 0 x4 (x12 + (3 : Int32)) ((-1) : Int32)).bind fun h5 => znw h5 (.inr (7, [zr none])) fun a1 h6 => (f_X7_init_ N a1 x4 h6).bind fun h7 => some ((some a1), h7)
set_option maxHeartbeats 4000000 in
set_option maxRecDepth 100000 in
theorem s_X7_with {g : zG} (hg : g.2.1.map (fun q => q.2) = zty) {h0 : zH} (N : Nat) (l0 : Nat) (l1 : Int32) (l2 : Int32) (l3 : Int32) (h : zH) (r : Option Nat) (h' : zH) (hf : f_X7_with N l0 l1 l2 l3 h = some (r, h')) : zR g jX7_with h0 0 [some (zr (some l0)), some (zi l1), some (zi l2), some (zi l3), none] [] h (some (zr r)) h' := by
  unfold f_X7_with at hf
  refine zr_aload_n (v := .inl (some l0)) dX7_with_0 rfl rfl ?_
  revert hf; refine zbi (fun x1 e_x1 hf => ?_)
  refine zq_getR kg_21 dX7_with_1 e_x1 ?_
  refine zr_aload_n (v := .inl (some l0)) dX7_with_4 rfl rfl ?_
  revert hf; refine zbi (fun x2 e_x2 hf => ?_)
  refine zq_getR kg_21 dX7_with_5 e_x2 ?_
  revert hf; refine zbi (fun x3 e_x3 hf => ?_)
  refine zq_alen dX7_with_8 e_x3 ?_
  refine zr_iconst (v := (4 : Int32)) dX7_with_9 (by decide) ?_
  refine zr_iadd dX7_with_10 ?_
  revert hf; refine zbi2 (fun x4 h1 e_x4 hf => ?_)
  refine zq_callS (J' := jJ7_copyOf_59c91) (as := [zr x1, zi (x3 + (4 : Int32))]) (rest := []) (r1 := (some (zr x4))) kw_342 km_J7_copyOf_59c91 kt_264 dX7_with_11 rfl (Nat.le_of_ble_eq_true rfl) rfl (c_J7_copyOf_59c91 hg e_x4) ?_
  refine zq_astore (v := .inl x4) (L' := [some (zr (some l0)), some (zi l1), some (zi l2), some (zi l3), some (zr x4)]) dX7_with_14 (by decide) rfl ?_
  refine zr_aload (v := .inl x4) dX7_with_16 rfl ?_
  refine zr_aload_n (v := .inl (some l0)) dX7_with_18 rfl rfl ?_
  revert hf; refine zbi (fun x5 e_x5 hf => ?_)
  refine zq_getR kg_21 dX7_with_19 e_x5 ?_
  revert hf; refine zbi (fun x6 e_x6 hf => ?_)
  refine zq_alen dX7_with_22 e_x6 ?_
  refine zr_iconst (v := (0 : Int32)) dX7_with_23 (by decide) ?_
  refine zr_iadd dX7_with_24 ?_
  refine zr_iload_n (x := l1) dX7_with_25 rfl rfl ?_
  revert hf; refine zbi (fun h2 e_h2 hf => ?_)
  refine zq_iast dX7_with_26 e_h2 ?_
  refine zr_aload (v := .inl x4) dX7_with_27 rfl ?_
  refine zr_aload_n (v := .inl (some l0)) dX7_with_29 rfl rfl ?_
  revert hf; refine zbi (fun x7 e_x7 hf => ?_)
  refine zq_getR kg_21 dX7_with_30 e_x7 ?_
  revert hf; refine zbi (fun x8 e_x8 hf => ?_)
  refine zq_alen dX7_with_33 e_x8 ?_
  refine zr_iconst (v := (1 : Int32)) dX7_with_34 (by decide) ?_
  refine zr_iadd dX7_with_35 ?_
  refine zr_iload_n (x := l2) dX7_with_36 rfl rfl ?_
  revert hf; refine zbi (fun h3 e_h3 hf => ?_)
  refine zq_iast dX7_with_37 e_h3 ?_
  refine zr_aload (v := .inl x4) dX7_with_38 rfl ?_
  refine zr_aload_n (v := .inl (some l0)) dX7_with_40 rfl rfl ?_
  revert hf; refine zbi (fun x9 e_x9 hf => ?_)
  refine zq_getR kg_21 dX7_with_41 e_x9 ?_
  revert hf; refine zbi (fun x10 e_x10 hf => ?_)
  refine zq_alen dX7_with_44 e_x10 ?_
  refine zr_iconst (v := (2 : Int32)) dX7_with_45 (by decide) ?_
  refine zr_iadd dX7_with_46 ?_
  refine zr_iload_n (x := l3) dX7_with_47 rfl rfl ?_
  revert hf; refine zbi (fun h4 e_h4 hf => ?_)
  refine zq_iast dX7_with_48 e_h4 ?_
  refine zr_aload (v := .inl x4) dX7_with_49 rfl ?_
  refine zr_aload_n (v := .inl (some l0)) dX7_with_51 rfl rfl ?_
  revert hf; refine zbi (fun x11 e_x11 hf => ?_)
  refine zq_getR kg_21 dX7_with_52 e_x11 ?_
  revert hf; refine zbi (fun x12 e_x12 hf => ?_)
  refine zq_alen dX7_with_55 e_x12 ?_
  refine zr_iconst (v := (3 : Int32)) dX7_with_56 (by decide) ?_
  refine zr_iadd dX7_with_57 ?_
  refine zr_iconst (v := ((-1) : Int32)) dX7_with_58 (by decide) ?_
  revert hf; refine zbi (fun h5 e_h5 hf => ?_)
  refine zq_iast dX7_with_59 e_h5 ?_
  obtain ⟨a1, h6, e_a1, e_h6, hf⟩ := znw_spec hf
  refine zq_new kn_265 dX7_with_60 e_a1 e_h6 ?_
  refine zr_dup dX7_with_63 ?_
  refine zr_aload (v := .inl x4) dX7_with_64 rfl ?_
  revert hf; refine zbi (fun h7 e_h7 hf => ?_)
  refine zq_callI (J' := jX7_init_) (as := [zr x4]) (rest := [zr (some a1)]) (r1 := none) (a := a1) kw_339 km_X7_init_ kt_266 dX7_with_66 rfl (Nat.le_of_ble_eq_true rfl) rfl (c_X7_init_ hg e_h7) ?_
  cases hf
  exact zr_ret _ (Or.inl ⟨_, rfl⟩) dX7_with_69
theorem c_X7_with {g : zG} (hg : g.2.1.map (fun q => q.2) = zty) {N : Nat} {l0 : Nat} {l1 : Int32} {l2 : Int32} {l3 : Int32} {h : zH} {r : Option Nat} {h' : zH} (hf : f_X7_with N l0 l1 l2 l3 h = some (r, h')) : zCa g jX7_with [zr (some l0), zi l1, zi l2, zi l3] h (some (zr r)) h' :=
  zCa.of hg (by decide +kernel) (Nat.le_of_ble_eq_true rfl) (s_X7_with hg N l0 l1 l2 l3 h r h' hf)
theorem dX7_canStrike_0 : decode cX7_canStrike 0 = .ok (.iload_n 1, 1) := by decide +kernel
theorem dX7_canStrike_1 : decode cX7_canStrike 1 = .ok (.ifCond .lt 29, 3) := by decide +kernel
theorem dX7_canStrike_4 : decode cX7_canStrike 4 = .ok (.iload_n 1, 1) := by decide +kernel
theorem dX7_canStrike_5 : decode cX7_canStrike 5 = .ok (.aload_n 0, 1) := by decide +kernel
theorem dX7_canStrike_6 : decode cX7_canStrike 6 = .ok (.invokevirtual 24, 3) := by decide +kernel
theorem dX7_canStrike_9 : decode cX7_canStrike 9 = .ok (.if_icmp .ge 21, 3) := by decide +kernel
theorem dX7_canStrike_12 : decode cX7_canStrike 12 = .ok (.aload_n 0, 1) := by decide +kernel
theorem dX7_canStrike_13 : decode cX7_canStrike 13 = .ok (.getfield 14, 3) := by decide +kernel
theorem dX7_canStrike_16 : decode cX7_canStrike 16 = .ok (.iload_n 1, 1) := by decide +kernel
theorem dX7_canStrike_17 : decode cX7_canStrike 17 = .ok (.iconst 4, 1) := by decide +kernel
theorem dX7_canStrike_18 : decode cX7_canStrike 18 = .ok (.imul, 1) := by decide +kernel
theorem dX7_canStrike_19 : decode cX7_canStrike 19 = .ok (.iconst 3, 1) := by decide +kernel
theorem dX7_canStrike_20 : decode cX7_canStrike 20 = .ok (.iadd, 1) := by decide +kernel
theorem dX7_canStrike_21 : decode cX7_canStrike 21 = .ok (.iaload, 1) := by decide +kernel
theorem dX7_canStrike_22 : decode cX7_canStrike 22 = .ok (.iconst (-1), 1) := by decide +kernel
theorem dX7_canStrike_23 : decode cX7_canStrike 23 = .ok (.if_icmp .ne 7, 3) := by decide +kernel
theorem dX7_canStrike_26 : decode cX7_canStrike 26 = .ok (.iconst 1, 1) := by decide +kernel
theorem dX7_canStrike_27 : decode cX7_canStrike 27 = .ok (.goto 4, 3) := by decide +kernel
theorem dX7_canStrike_30 : decode cX7_canStrike 30 = .ok (.iconst 0, 1) := by decide +kernel
theorem dX7_canStrike_31 : decode cX7_canStrike 31 = .ok (.ireturn, 1) := by decide +kernel
def f_X7_canStrike (N : Nat) (l0 : Nat) (l1 : Int32) (h : zH) : Option Int32 := if l1 < 0 then some (0 : Int32) else (zck h 7 (some l0)).bind fun q1 => (f_X7_count N q1 h).bind fun x1 => if x1 ≤ l1 then some (0 : Int32) else (zgR h 7 (some l0) 0).bind fun x2 => (zld h 0 x2 ((l1 * (4 : Int32)) + (3 : Int32))).bind fun x3 => if x3 = ((-1) : Int32) then some (1 : Int32) else some (0 : Int32)
set_option maxHeartbeats 4000000 in
set_option maxRecDepth 100000 in
theorem s_X7_canStrike {g : zG} (hg : g.2.1.map (fun q => q.2) = zty) {h0 : zH} (N : Nat) (l0 : Nat) (l1 : Int32) (h : zH) (r : Int32) (hf : f_X7_canStrike N l0 l1 h = some r) : zR g jX7_canStrike h0 0 [some (zr (some l0)), some (zi l1)] [] h (some (zi r)) h := by
  unfold f_X7_canStrike at hf
  refine zr_iload_n (x := l1) dX7_canStrike_0 rfl rfl ?_
  by_cases hc1 : l1 < 0
  · rw [if_pos hc1] at hf
    refine zr_iflt_t (tgt := 30) dX7_canStrike_1 (by decide) hc1 ?_
    refine zr_iconst (v := (0 : Int32)) dX7_canStrike_30 (by decide) ?_
    cases hf
    exact zr_ret _ rfl dX7_canStrike_31
  · rw [if_neg hc1] at hf
    refine zr_iflt_f 30 dX7_canStrike_1 (by decide) hc1 ?_
    refine zr_iload_n (x := l1) dX7_canStrike_4 rfl rfl ?_
    refine zr_aload_n (v := .inl (some l0)) dX7_canStrike_5 rfl rfl ?_
    revert hf; refine zbi (fun q1 e_q1 hf => ?_)
    revert hf; refine zbi (fun x1 e_x1 hf => ?_)
    refine zq_callV (J' := jX7_count) (as := []) (rest := [zi l1]) (r1 := (some (zi x1))) (q := (RX7, TX7, 1)) kw_45 km_X7_count kt_267 dX7_canStrike_6 rfl (Nat.le_of_ble_eq_true rfl) rfl rfl e_q1 rfl (c_X7_count hg e_x1) ?_
    by_cases hc2 : x1 ≤ l1
    · rw [if_pos hc2] at hf
      refine zr_icge_t (tgt := 30) dX7_canStrike_9 (by decide) hc2 ?_
      refine zr_iconst (v := (0 : Int32)) dX7_canStrike_30 (by decide) ?_
      cases hf
      exact zr_ret _ rfl dX7_canStrike_31
    · rw [if_neg hc2] at hf
      refine zr_icge_f 30 dX7_canStrike_9 (by decide) hc2 ?_
      refine zr_aload_n (v := .inl (some l0)) dX7_canStrike_12 rfl rfl ?_
      revert hf; refine zbi (fun x2 e_x2 hf => ?_)
      refine zq_getR kg_21 dX7_canStrike_13 e_x2 ?_
      refine zr_iload_n (x := l1) dX7_canStrike_16 rfl rfl ?_
      refine zr_iconst (v := (4 : Int32)) dX7_canStrike_17 (by decide) ?_
      refine zr_imul dX7_canStrike_18 ?_
      refine zr_iconst (v := (3 : Int32)) dX7_canStrike_19 (by decide) ?_
      refine zr_iadd dX7_canStrike_20 ?_
      revert hf; refine zbi (fun x3 e_x3 hf => ?_)
      refine zq_iald dX7_canStrike_21 e_x3 ?_
      refine zr_iconst (v := ((-1) : Int32)) dX7_canStrike_22 (by decide) ?_
      by_cases hc3 : x3 = ((-1) : Int32)
      · rw [if_pos hc3] at hf
        refine zr_icne_f 30 dX7_canStrike_23 (by decide) hc3 ?_
        refine zr_iconst (v := (1 : Int32)) dX7_canStrike_26 (by decide) ?_
        refine zr_goto (tgt := 31) dX7_canStrike_27 (by decide) ?_
        cases hf
        exact zr_ret _ rfl dX7_canStrike_31
      · rw [if_neg hc3] at hf
        refine zr_icne_t (tgt := 30) dX7_canStrike_23 (by decide) hc3 ?_
        refine zr_iconst (v := (0 : Int32)) dX7_canStrike_30 (by decide) ?_
        cases hf
        exact zr_ret _ rfl dX7_canStrike_31
theorem c_X7_canStrike {g : zG} (hg : g.2.1.map (fun q => q.2) = zty) {N : Nat} {l0 : Nat} {l1 : Int32} {h : zH} {r : Int32} (hf : f_X7_canStrike N l0 l1 h = some r) : zCa g jX7_canStrike [zr (some l0), zi l1] h (some (zi r)) h :=
  zCa.of hg (by decide +kernel) (Nat.le_of_ble_eq_true rfl) (s_X7_canStrike hg N l0 l1 h r hf)
theorem dX7_withStruck_0 : decode cX7_withStruck 0 = .ok (.aload_n 0, 1) := by decide +kernel
theorem dX7_withStruck_1 : decode cX7_withStruck 1 = .ok (.getfield 14, 3) := by decide +kernel
theorem dX7_withStruck_4 : decode cX7_withStruck 4 = .ok (.invokevirtual 28, 3) := by decide +kernel
theorem dX7_withStruck_7 : decode cX7_withStruck 7 = .ok (.checkcast 29, 3) := by decide +kernel
theorem dX7_withStruck_10 : decode cX7_withStruck 10 = .ok (.astore_n 3, 1) := by decide +kernel
theorem dX7_withStruck_11 : decode cX7_withStruck 11 = .ok (.iload_n 1, 1) := by decide +kernel
theorem dX7_withStruck_12 : decode cX7_withStruck 12 = .ok (.ifCond .lt 19, 3) := by decide +kernel
theorem dX7_withStruck_15 : decode cX7_withStruck 15 = .ok (.iload_n 1, 1) := by decide +kernel
theorem dX7_withStruck_16 : decode cX7_withStruck 16 = .ok (.aload_n 0, 1) := by decide +kernel
theorem dX7_withStruck_17 : decode cX7_withStruck 17 = .ok (.invokevirtual 24, 3) := by decide +kernel
theorem dX7_withStruck_20 : decode cX7_withStruck 20 = .ok (.if_icmp .ge 11, 3) := by decide +kernel
theorem dX7_withStruck_23 : decode cX7_withStruck 23 = .ok (.aload_n 3, 1) := by decide +kernel
theorem dX7_withStruck_24 : decode cX7_withStruck 24 = .ok (.iload_n 1, 1) := by decide +kernel
theorem dX7_withStruck_25 : decode cX7_withStruck 25 = .ok (.iconst 4, 1) := by decide +kernel
theorem dX7_withStruck_26 : decode cX7_withStruck 26 = .ok (.imul, 1) := by decide +kernel
theorem dX7_withStruck_27 : decode cX7_withStruck 27 = .ok (.iconst 3, 1) := by decide +kernel
theorem dX7_withStruck_28 : decode cX7_withStruck 28 = .ok (.iadd, 1) := by decide +kernel
theorem dX7_withStruck_29 : decode cX7_withStruck 29 = .ok (.iload_n 2, 1) := by decide +kernel
theorem dX7_withStruck_30 : decode cX7_withStruck 30 = .ok (.iastore, 1) := by decide +kernel
theorem dX7_withStruck_31 : decode cX7_withStruck 31 = .ok (.new 4, 3) := by decide +kernel
theorem dX7_withStruck_34 : decode cX7_withStruck 34 = .ok (.dup, 1) := by decide +kernel
theorem dX7_withStruck_35 : decode cX7_withStruck 35 = .ok (.aload_n 3, 1) := by decide +kernel
theorem dX7_withStruck_36 : decode cX7_withStruck 36 = .ok (.invokespecial 3, 3) := by decide +kernel
theorem dX7_withStruck_39 : decode cX7_withStruck 39 = .ok (.areturn, 1) := by decide +kernel
def f_X7_withStruck (N : Nat) (l0 : Nat) (l1 : Int32) (l2 : Int32) (h : zH) : Option ((Option Nat) × zH) := (zgR h 7 (some l0) 0).bind fun x1 => zcl h 0 x1 fun a1 h1 => if l1 < 0 then znw h1 (.inr (7, [zr none])) fun a2 h2 => (f_X7_init_ N a2 (some a1) h2).bind fun h3 => some ((some a2), h3) else (zck h1 7 (some l0)).bind fun q1 => (f_X7_count N q1 h1).bind fun x2 => if x2 ≤ l1 then znw h1 (.inr (7, [zr none])) fun a3 h4 => (f_X7_init_ N a3 (some a1) h4).bind fun h5 => some ((some a3), h5) else (zst h1 0 (some a1) ((l1 * (4 : Int32)) + (3 : Int32)) l2).bind fun h6 => znw h6 (.inr (7, [zr none])) fun a4 h7 => (f_X7_init_ N a4 (some a1) h7).bind fun h8 => some ((some a4), h8)
set_option maxHeartbeats 4000000 in
set_option maxRecDepth 100000 in
theorem s_X7_withStruck {g : zG} (hg : g.2.1.map (fun q => q.2) = zty) {h0 : zH} (N : Nat) (l0 : Nat) (l1 : Int32) (l2 : Int32) (h : zH) (r : Option Nat) (h' : zH) (hf : f_X7_withStruck N l0 l1 l2 h = some (r, h')) : zR g jX7_withStruck h0 0 [some (zr (some l0)), some (zi l1), some (zi l2), none] [] h (some (zr r)) h' := by
  unfold f_X7_withStruck at hf
  refine zr_aload_n (v := .inl (some l0)) dX7_withStruck_0 rfl rfl ?_
  revert hf; refine zbi (fun x1 e_x1 hf => ?_)
  refine zq_getR kg_21 dX7_withStruck_1 e_x1 ?_
  obtain ⟨a1, h1, e_a1, hf⟩ := zcl_spec hf
  refine zq_clone (t := 0) kk_268 rfl (by decide +kernel) (Or.inl ⟨rfl, rfl⟩) ⟨Nat.le_of_ble_eq_true rfl, Nat.le_of_ble_eq_true rfl⟩ dX7_withStruck_4 e_a1 ?_
  refine zq_castA (t := 0) (ad := "[I") (x := none) kw_346 rfl (by decide +kernel) dX7_withStruck_7 (zcl_got e_a1) ?_
  refine zq_astore_n (v := .inl (some a1)) (L' := [some (zr (some l0)), some (zi l1), some (zi l2), some (zr (some a1))]) dX7_withStruck_10 rfl (by decide) rfl ?_
  refine zr_iload_n (x := l1) dX7_withStruck_11 rfl rfl ?_
  by_cases hc1 : l1 < 0
  · rw [if_pos hc1] at hf
    refine zr_iflt_t (tgt := 31) dX7_withStruck_12 (by decide) hc1 ?_
    obtain ⟨a2, h2, e_a2, e_h2, hf⟩ := znw_spec hf
    refine zq_new kn_265 dX7_withStruck_31 e_a2 e_h2 ?_
    refine zr_dup dX7_withStruck_34 ?_
    refine zr_aload_n (v := .inl (some a1)) dX7_withStruck_35 rfl rfl ?_
    revert hf; refine zbi (fun h3 e_h3 hf => ?_)
    refine zq_callI (J' := jX7_init_) (as := [zr (some a1)]) (rest := [zr (some a2)]) (r1 := none) (a := a2) kw_339 km_X7_init_ kt_269 dX7_withStruck_36 rfl (Nat.le_of_ble_eq_true rfl) rfl (c_X7_init_ hg e_h3) ?_
    cases hf
    exact zr_ret _ (Or.inl ⟨_, rfl⟩) dX7_withStruck_39
  · rw [if_neg hc1] at hf
    refine zr_iflt_f 31 dX7_withStruck_12 (by decide) hc1 ?_
    refine zr_iload_n (x := l1) dX7_withStruck_15 rfl rfl ?_
    refine zr_aload_n (v := .inl (some l0)) dX7_withStruck_16 rfl rfl ?_
    revert hf; refine zbi (fun q1 e_q1 hf => ?_)
    revert hf; refine zbi (fun x2 e_x2 hf => ?_)
    refine zq_callV (J' := jX7_count) (as := []) (rest := [zi l1]) (r1 := (some (zi x2))) (q := (RX7, TX7, 1)) kw_45 km_X7_count kt_270 dX7_withStruck_17 rfl (Nat.le_of_ble_eq_true rfl) rfl rfl e_q1 rfl (c_X7_count hg e_x2) ?_
    by_cases hc2 : x2 ≤ l1
    · rw [if_pos hc2] at hf
      refine zr_icge_t (tgt := 31) dX7_withStruck_20 (by decide) hc2 ?_
      obtain ⟨a3, h4, e_a3, e_h4, hf⟩ := znw_spec hf
      refine zq_new kn_265 dX7_withStruck_31 e_a3 e_h4 ?_
      refine zr_dup dX7_withStruck_34 ?_
      refine zr_aload_n (v := .inl (some a1)) dX7_withStruck_35 rfl rfl ?_
      revert hf; refine zbi (fun h5 e_h5 hf => ?_)
      refine zq_callI (J' := jX7_init_) (as := [zr (some a1)]) (rest := [zr (some a3)]) (r1 := none) (a := a3) kw_339 km_X7_init_ kt_269 dX7_withStruck_36 rfl (Nat.le_of_ble_eq_true rfl) rfl (c_X7_init_ hg e_h5) ?_
      cases hf
      exact zr_ret _ (Or.inl ⟨_, rfl⟩) dX7_withStruck_39
    · rw [if_neg hc2] at hf
      refine zr_icge_f 31 dX7_withStruck_20 (by decide) hc2 ?_
      refine zr_aload_n (v := .inl (some a1)) dX7_withStruck_23 rfl rfl ?_
      refine zr_iload_n (x := l1) dX7_withStruck_24 rfl rfl ?_
      refine zr_iconst (v := (4 : Int32)) dX7_withStruck_25 (by decide) ?_
      refine zr_imul dX7_withStruck_26 ?_
      refine zr_iconst (v := (3 : Int32)) dX7_withStruck_27 (by decide) ?_
      refine zr_iadd dX7_withStruck_28 ?_
      refine zr_iload_n (x := l2) dX7_withStruck_29 rfl rfl ?_
      revert hf; refine zbi (fun h6 e_h6 hf => ?_)
      refine zq_iast dX7_withStruck_30 e_h6 ?_
      obtain ⟨a4, h7, e_a4, e_h7, hf⟩ := znw_spec hf
      refine zq_new kn_265 dX7_withStruck_31 e_a4 e_h7 ?_
      refine zr_dup dX7_withStruck_34 ?_
      refine zr_aload_n (v := .inl (some a1)) dX7_withStruck_35 rfl rfl ?_
      revert hf; refine zbi (fun h8 e_h8 hf => ?_)
      refine zq_callI (J' := jX7_init_) (as := [zr (some a1)]) (rest := [zr (some a4)]) (r1 := none) (a := a4) kw_339 km_X7_init_ kt_269 dX7_withStruck_36 rfl (Nat.le_of_ble_eq_true rfl) rfl (c_X7_init_ hg e_h8) ?_
      cases hf
      exact zr_ret _ (Or.inl ⟨_, rfl⟩) dX7_withStruck_39
theorem c_X7_withStruck {g : zG} (hg : g.2.1.map (fun q => q.2) = zty) {N : Nat} {l0 : Nat} {l1 : Int32} {l2 : Int32} {h : zH} {r : Option Nat} {h' : zH} (hf : f_X7_withStruck N l0 l1 l2 h = some (r, h')) : zCa g jX7_withStruck [zr (some l0), zi l1, zi l2] h (some (zr r)) h' :=
  zCa.of hg (by decide +kernel) (Nat.le_of_ble_eq_true rfl) (s_X7_withStruck hg N l0 l1 l2 h r h' hf)
theorem dX8_init__0 : decode cX8_init_ 0 = .ok (.aload_n 0, 1) := by decide +kernel
theorem dX8_init__1 : decode cX8_init_ 1 = .ok (.invokespecial 9, 3) := by decide +kernel
theorem dX8_init__4 : decode cX8_init_ 4 = .ok (.aload_n 0, 1) := by decide +kernel
theorem dX8_init__5 : decode cX8_init_ 5 = .ok (.aload_n 1, 1) := by decide +kernel
theorem dX8_init__6 : decode cX8_init_ 6 = .ok (.putfield 14, 3) := by decide +kernel
theorem dX8_init__9 : decode cX8_init_ 9 = .ok (.aload_n 0, 1) := by decide +kernel
theorem dX8_init__10 : decode cX8_init_ 10 = .ok (.aload_n 2, 1) := by decide +kernel
theorem dX8_init__11 : decode cX8_init_ 11 = .ok (.putfield 18, 3) := by decide +kernel
theorem dX8_init__14 : decode cX8_init_ 14 = .ok (.aload_n 0, 1) := by decide +kernel
theorem dX8_init__15 : decode cX8_init_ 15 = .ok (.aload_n 3, 1) := by decide +kernel
theorem dX8_init__16 : decode cX8_init_ 16 = .ok (.putfield 21, 3) := by decide +kernel
theorem dX8_init__19 : decode cX8_init_ 19 = .ok (.return_, 1) := by decide +kernel
def f_X8_init_ (N : Nat) (l0 : Nat) (l1 : Option Nat) (l2 : Option Nat) (l3 : Option Nat) (h : zH) : Option zH := (zpu h 8 (some l0) 0 (zr l1)).bind fun h1 => (zpu h1 8 (some l0) 1 (zr l2)).bind fun h2 => (zpu h2 8 (some l0) 2 (zr l3)).bind fun h3 => some h3
set_option maxHeartbeats 4000000 in
set_option maxRecDepth 100000 in
theorem s_X8_init_ {g : zG} (hg : g.2.1.map (fun q => q.2) = zty) {h0 : zH} (N : Nat) (l0 : Nat) (l1 : Option Nat) (l2 : Option Nat) (l3 : Option Nat) (h : zH) (h' : zH) (hf : f_X8_init_ N l0 l1 l2 l3 h = some h') : zR g jX8_init_ h0 0 [some (zr (some l0)), some (zr l1), some (zr l2), some (zr l3)] [] h none h' := by
  unfold f_X8_init_ at hf
  refine zr_aload_n (v := .inl (some l0)) dX8_init__0 rfl rfl ?_
  refine zr_objInit kw_347 kw_1 kw_2 ⟨Nat.le_of_ble_eq_true rfl, Nat.le_of_ble_eq_true rfl⟩ dX8_init__1 ?_
  refine zr_aload_n (v := .inl (some l0)) dX8_init__4 rfl rfl ?_
  refine zr_aload_n (v := .inl l1) dX8_init__5 rfl rfl ?_
  revert hf; refine zbi (fun h1 e_h1 hf => ?_)
  refine zq_put kp_271 dX8_init__6 (zn_a _ _) e_h1 ?_
  refine zr_aload_n (v := .inl (some l0)) dX8_init__9 rfl rfl ?_
  refine zr_aload_n (v := .inl l2) dX8_init__10 rfl rfl ?_
  revert hf; refine zbi (fun h2 e_h2 hf => ?_)
  refine zq_put kp_272 dX8_init__11 (zn_a _ _) e_h2 ?_
  refine zr_aload_n (v := .inl (some l0)) dX8_init__14 rfl rfl ?_
  refine zr_aload_n (v := .inl l3) dX8_init__15 rfl rfl ?_
  revert hf; refine zbi (fun h3 e_h3 hf => ?_)
  refine zq_put kp_273 dX8_init__16 (zn_a _ _) e_h3 ?_
  cases hf
  exact zr_ret none trivial dX8_init__19
theorem c_X8_init_ {g : zG} (hg : g.2.1.map (fun q => q.2) = zty) {N : Nat} {l0 : Nat} {l1 : Option Nat} {l2 : Option Nat} {l3 : Option Nat} {h : zH} {h' : zH} (hf : f_X8_init_ N l0 l1 l2 l3 h = some h') : zCa g jX8_init_ [zr (some l0), zr l1, zr l2, zr l3] h none h' :=
  zCa.of hg (by decide +kernel) (Nat.le_of_ble_eq_true rfl) (s_X8_init_ hg N l0 l1 l2 l3 h h' hf)
theorem dX8_init_0 : decode cX8_init 0 = .ok (.aload_n 0, 1) := by decide +kernel
theorem dX8_init_1 : decode cX8_init 1 = .ok (.iconst 0, 1) := by decide +kernel
theorem dX8_init_2 : decode cX8_init 2 = .ok (.newarray .int, 2) := by decide +kernel
theorem dX8_init_4 : decode cX8_init 4 = .ok (.iconst 0, 1) := by decide +kernel
theorem dX8_init_5 : decode cX8_init 5 = .ok (.newarray .int, 2) := by decide +kernel
theorem dX8_init_7 : decode cX8_init 7 = .ok (.iconst 0, 1) := by decide +kernel
theorem dX8_init_8 : decode cX8_init 8 = .ok (.newarray .int, 2) := by decide +kernel
theorem dX8_init_10 : decode cX8_init 10 = .ok (.invokespecial 3, 3) := by decide +kernel
theorem dX8_init_13 : decode cX8_init 13 = .ok (.return_, 1) := by decide +kernel
def f_X8_init (N : Nat) (l0 : Nat) (h : zH) : Option zH := zna h 0 (0 : Int32) fun a1 h1 => zna h1 0 (0 : Int32) fun a2 h2 => zna h2 0 (0 : Int32) fun a3 h3 => (f_X8_init_ N l0 (some a1) (some a2) (some a3) h3).bind fun h4 => some h4
set_option maxHeartbeats 4000000 in
set_option maxRecDepth 100000 in
theorem s_X8_init {g : zG} (hg : g.2.1.map (fun q => q.2) = zty) {h0 : zH} (N : Nat) (l0 : Nat) (h : zH) (h' : zH) (hf : f_X8_init N l0 h = some h') : zR g jX8_init h0 0 [some (zr (some l0))] [] h none h' := by
  unfold f_X8_init at hf
  refine zr_aload_n (v := .inl (some l0)) dX8_init_0 rfl rfl ?_
  refine zr_iconst (v := (0 : Int32)) dX8_init_1 (by decide) ?_
  obtain ⟨a1, h1, e_a1, hf⟩ := zna_spec hf
  refine zq_newa (atype := .int) (t := 0) kw_14 rfl (fun _ _ => rfl) (by decide) dX8_init_2 e_a1 ?_
  refine zr_iconst (v := (0 : Int32)) dX8_init_4 (by decide) ?_
  obtain ⟨a2, h2, e_a2, hf⟩ := zna_spec hf
  refine zq_newa (atype := .int) (t := 0) kw_14 rfl (fun _ _ => rfl) (by decide) dX8_init_5 e_a2 ?_
  refine zr_iconst (v := (0 : Int32)) dX8_init_7 (by decide) ?_
  obtain ⟨a3, h3, e_a3, hf⟩ := zna_spec hf
  refine zq_newa (atype := .int) (t := 0) kw_14 rfl (fun _ _ => rfl) (by decide) dX8_init_8 e_a3 ?_
  revert hf; refine zbi (fun h4 e_h4 hf => ?_)
  refine zq_callI (J' := jX8_init_) (as := [zr (some a1), zr (some a2), zr (some a3)]) (rest := []) (r1 := none) (a := l0) kw_348 km_X8_init_ kt_275 dX8_init_10 rfl (Nat.le_of_ble_eq_true rfl) rfl (c_X8_init_ hg e_h4) ?_
  cases hf
  exact zr_ret none trivial dX8_init_13
theorem c_X8_init {g : zG} (hg : g.2.1.map (fun q => q.2) = zty) {N : Nat} {l0 : Nat} {h : zH} {h' : zH} (hf : f_X8_init N l0 h = some h') : zCa g jX8_init [zr (some l0)] h none h' :=
  zCa.of hg (by decide +kernel) (Nat.le_of_ble_eq_true rfl) (s_X8_init hg N l0 h h' hf)
theorem dX8_countEnds_0 : decode cX8_countEnds 0 = .ok (.aload_n 0, 1) := by decide +kernel
theorem dX8_countEnds_1 : decode cX8_countEnds 1 = .ok (.getfield 14, 3) := by decide +kernel
theorem dX8_countEnds_4 : decode cX8_countEnds 4 = .ok (.arraylength, 1) := by decide +kernel
theorem dX8_countEnds_5 : decode cX8_countEnds 5 = .ok (.ireturn, 1) := by decide +kernel
def f_X8_countEnds (N : Nat) (l0 : Nat) (h : zH) : Option Int32 := (zgR h 8 (some l0) 0).bind fun x1 => (zlen h x1).bind fun x2 => some x2
set_option maxHeartbeats 4000000 in
set_option maxRecDepth 100000 in
theorem s_X8_countEnds {g : zG} (hg : g.2.1.map (fun q => q.2) = zty) {h0 : zH} (N : Nat) (l0 : Nat) (h : zH) (r : Int32) (hf : f_X8_countEnds N l0 h = some r) : zR g jX8_countEnds h0 0 [some (zr (some l0))] [] h (some (zi r)) h := by
  unfold f_X8_countEnds at hf
  refine zr_aload_n (v := .inl (some l0)) dX8_countEnds_0 rfl rfl ?_
  revert hf; refine zbi (fun x1 e_x1 hf => ?_)
  refine zq_getR kg_243 dX8_countEnds_1 e_x1 ?_
  revert hf; refine zbi (fun x2 e_x2 hf => ?_)
  refine zq_alen dX8_countEnds_4 e_x2 ?_
  cases hf
  exact zr_ret _ rfl dX8_countEnds_5
theorem c_X8_countEnds {g : zG} (hg : g.2.1.map (fun q => q.2) = zty) {N : Nat} {l0 : Nat} {h : zH} {r : Int32} (hf : f_X8_countEnds N l0 h = some r) : zCa g jX8_countEnds [zr (some l0)] h (some (zi r)) h :=
  zCa.of hg (by decide +kernel) (Nat.le_of_ble_eq_true rfl) (s_X8_countEnds hg N l0 h r hf)
theorem dX8_countOffs_0 : decode cX8_countOffs 0 = .ok (.aload_n 0, 1) := by decide +kernel
theorem dX8_countOffs_1 : decode cX8_countOffs 1 = .ok (.getfield 21, 3) := by decide +kernel
theorem dX8_countOffs_4 : decode cX8_countOffs 4 = .ok (.arraylength, 1) := by decide +kernel
theorem dX8_countOffs_5 : decode cX8_countOffs 5 = .ok (.ireturn, 1) := by decide +kernel
def f_X8_countOffs (N : Nat) (l0 : Nat) (h : zH) : Option Int32 := (zgR h 8 (some l0) 2).bind fun x1 => (zlen h x1).bind fun x2 => some x2
set_option maxHeartbeats 4000000 in
set_option maxRecDepth 100000 in
theorem s_X8_countOffs {g : zG} (hg : g.2.1.map (fun q => q.2) = zty) {h0 : zH} (N : Nat) (l0 : Nat) (h : zH) (r : Int32) (hf : f_X8_countOffs N l0 h = some r) : zR g jX8_countOffs h0 0 [some (zr (some l0))] [] h (some (zi r)) h := by
  unfold f_X8_countOffs at hf
  refine zr_aload_n (v := .inl (some l0)) dX8_countOffs_0 rfl rfl ?_
  revert hf; refine zbi (fun x1 e_x1 hf => ?_)
  refine zq_getR kg_244 dX8_countOffs_1 e_x1 ?_
  revert hf; refine zbi (fun x2 e_x2 hf => ?_)
  refine zq_alen dX8_countOffs_4 e_x2 ?_
  cases hf
  exact zr_ret _ rfl dX8_countOffs_5
theorem c_X8_countOffs {g : zG} (hg : g.2.1.map (fun q => q.2) = zty) {N : Nat} {l0 : Nat} {h : zH} {r : Int32} (hf : f_X8_countOffs N l0 h = some r) : zCa g jX8_countOffs [zr (some l0)] h (some (zi r)) h :=
  zCa.of hg (by decide +kernel) (Nat.le_of_ble_eq_true rfl) (s_X8_countOffs hg N l0 h r hf)
theorem dX8_counted_0 : decode cX8_counted 0 = .ok (.iload_n 1, 1) := by decide +kernel
theorem dX8_counted_1 : decode cX8_counted 1 = .ok (.ifCond .lt 21, 3) := by decide +kernel
theorem dX8_counted_4 : decode cX8_counted 4 = .ok (.iload_n 1, 1) := by decide +kernel
theorem dX8_counted_5 : decode cX8_counted 5 = .ok (.aload_n 0, 1) := by decide +kernel
theorem dX8_counted_6 : decode cX8_counted 6 = .ok (.getfield 18, 3) := by decide +kernel
theorem dX8_counted_9 : decode cX8_counted 9 = .ok (.arraylength, 1) := by decide +kernel
theorem dX8_counted_10 : decode cX8_counted 10 = .ok (.if_icmp .ge 12, 3) := by decide +kernel
theorem dX8_counted_13 : decode cX8_counted 13 = .ok (.aload_n 0, 1) := by decide +kernel
theorem dX8_counted_14 : decode cX8_counted 14 = .ok (.getfield 18, 3) := by decide +kernel
theorem dX8_counted_17 : decode cX8_counted 17 = .ok (.iload_n 1, 1) := by decide +kernel
theorem dX8_counted_18 : decode cX8_counted 18 = .ok (.iaload, 1) := by decide +kernel
theorem dX8_counted_19 : decode cX8_counted 19 = .ok (.goto 4, 3) := by decide +kernel
theorem dX8_counted_22 : decode cX8_counted 22 = .ok (.iconst (-1), 1) := by decide +kernel
theorem dX8_counted_23 : decode cX8_counted 23 = .ok (.ireturn, 1) := by decide +kernel
def f_X8_counted (N : Nat) (l0 : Nat) (l1 : Int32) (h : zH) : Option Int32 := if l1 < 0 then some ((-1) : Int32) else (zgR h 8 (some l0) 1).bind fun x1 => (zlen h x1).bind fun x2 => if x2 ≤ l1 then some ((-1) : Int32) else (zgR h 8 (some l0) 1).bind fun x3 => (zld h 0 x3 l1).bind fun x4 => some x4
set_option maxHeartbeats 4000000 in
set_option maxRecDepth 100000 in
theorem s_X8_counted {g : zG} (hg : g.2.1.map (fun q => q.2) = zty) {h0 : zH} (N : Nat) (l0 : Nat) (l1 : Int32) (h : zH) (r : Int32) (hf : f_X8_counted N l0 l1 h = some r) : zR g jX8_counted h0 0 [some (zr (some l0)), some (zi l1)] [] h (some (zi r)) h := by
  unfold f_X8_counted at hf
  refine zr_iload_n (x := l1) dX8_counted_0 rfl rfl ?_
  by_cases hc1 : l1 < 0
  · rw [if_pos hc1] at hf
    refine zr_iflt_t (tgt := 22) dX8_counted_1 (by decide) hc1 ?_
    refine zr_iconst (v := ((-1) : Int32)) dX8_counted_22 (by decide) ?_
    cases hf
    exact zr_ret _ rfl dX8_counted_23
  · rw [if_neg hc1] at hf
    refine zr_iflt_f 22 dX8_counted_1 (by decide) hc1 ?_
    refine zr_iload_n (x := l1) dX8_counted_4 rfl rfl ?_
    refine zr_aload_n (v := .inl (some l0)) dX8_counted_5 rfl rfl ?_
    revert hf; refine zbi (fun x1 e_x1 hf => ?_)
    refine zq_getR kg_247 dX8_counted_6 e_x1 ?_
    revert hf; refine zbi (fun x2 e_x2 hf => ?_)
    refine zq_alen dX8_counted_9 e_x2 ?_
    by_cases hc2 : x2 ≤ l1
    · rw [if_pos hc2] at hf
      refine zr_icge_t (tgt := 22) dX8_counted_10 (by decide) hc2 ?_
      refine zr_iconst (v := ((-1) : Int32)) dX8_counted_22 (by decide) ?_
      cases hf
      exact zr_ret _ rfl dX8_counted_23
    · rw [if_neg hc2] at hf
      refine zr_icge_f 22 dX8_counted_10 (by decide) hc2 ?_
      refine zr_aload_n (v := .inl (some l0)) dX8_counted_13 rfl rfl ?_
      revert hf; refine zbi (fun x3 e_x3 hf => ?_)
      refine zq_getR kg_247 dX8_counted_14 e_x3 ?_
      refine zr_iload_n (x := l1) dX8_counted_17 rfl rfl ?_
      revert hf; refine zbi (fun x4 e_x4 hf => ?_)
      refine zq_iald dX8_counted_18 e_x4 ?_
      refine zr_goto (tgt := 23) dX8_counted_19 (by decide) ?_
      cases hf
      exact zr_ret _ rfl dX8_counted_23
theorem c_X8_counted {g : zG} (hg : g.2.1.map (fun q => q.2) = zty) {N : Nat} {l0 : Nat} {l1 : Int32} {h : zH} {r : Int32} (hf : f_X8_counted N l0 l1 h = some r) : zCa g jX8_counted [zr (some l0), zi l1] h (some (zi r)) h :=
  zCa.of hg (by decide +kernel) (Nat.le_of_ble_eq_true rfl) (s_X8_counted hg N l0 l1 h r hf)
theorem dX8_joined_0 : decode cX8_joined 0 = .ok (.aload_n 0, 1) := by decide +kernel
theorem dX8_joined_1 : decode cX8_joined 1 = .ok (.aload_n 0, 1) := by decide +kernel
theorem dX8_joined_2 : decode cX8_joined 2 = .ok (.arraylength, 1) := by decide +kernel
theorem dX8_joined_3 : decode cX8_joined 3 = .ok (.iconst 1, 1) := by decide +kernel
theorem dX8_joined_4 : decode cX8_joined 4 = .ok (.iadd, 1) := by decide +kernel
theorem dX8_joined_5 : decode cX8_joined 5 = .ok (.invokestatic 31, 3) := by decide +kernel
theorem dX8_joined_8 : decode cX8_joined 8 = .ok (.astore_n 2, 1) := by decide +kernel
theorem dX8_joined_9 : decode cX8_joined 9 = .ok (.aload_n 2, 1) := by decide +kernel
theorem dX8_joined_10 : decode cX8_joined 10 = .ok (.aload_n 0, 1) := by decide +kernel
theorem dX8_joined_11 : decode cX8_joined 11 = .ok (.arraylength, 1) := by decide +kernel
theorem dX8_joined_12 : decode cX8_joined 12 = .ok (.iload_n 1, 1) := by decide +kernel
theorem dX8_joined_13 : decode cX8_joined 13 = .ok (.iastore, 1) := by decide +kernel
theorem dX8_joined_14 : decode cX8_joined 14 = .ok (.aload_n 2, 1) := by decide +kernel
theorem dX8_joined_15 : decode cX8_joined 15 = .ok (.areturn, 1) := by decide +kernel
def f_X8_joined (N : Nat) (l0 : Option Nat) (l1 : Int32) (h : zH) : Option ((Option Nat) × zH) := (zlen h l0).bind fun x1 => zb2 (f_J7_copyOf_59c91 N l0 (x1 + (1 : Int32)) h) fun x2 h1 => (zlen h1 l0).bind fun x3 => (zst h1 0 x2 x3 l1).bind fun h2 => some (x2, h2)
set_option maxHeartbeats 4000000 in
set_option maxRecDepth 100000 in
theorem s_X8_joined {g : zG} (hg : g.2.1.map (fun q => q.2) = zty) {h0 : zH} (N : Nat) (l0 : Option Nat) (l1 : Int32) (h : zH) (r : Option Nat) (h' : zH) (hf : f_X8_joined N l0 l1 h = some (r, h')) : zR g jX8_joined h0 0 [some (zr l0), some (zi l1), none] [] h (some (zr r)) h' := by
  unfold f_X8_joined at hf
  refine zr_aload_n (v := .inl l0) dX8_joined_0 rfl rfl ?_
  refine zr_aload_n (v := .inl l0) dX8_joined_1 rfl rfl ?_
  revert hf; refine zbi (fun x1 e_x1 hf => ?_)
  refine zq_alen dX8_joined_2 e_x1 ?_
  refine zr_iconst (v := (1 : Int32)) dX8_joined_3 (by decide) ?_
  refine zr_iadd dX8_joined_4 ?_
  revert hf; refine zbi2 (fun x2 h1 e_x2 hf => ?_)
  refine zq_callS (J' := jJ7_copyOf_59c91) (as := [zr l0, zi (x1 + (1 : Int32))]) (rest := []) (r1 := (some (zr x2))) kw_351 km_J7_copyOf_59c91 kt_276 dX8_joined_5 rfl (Nat.le_of_ble_eq_true rfl) rfl (c_J7_copyOf_59c91 hg e_x2) ?_
  refine zq_astore_n (v := .inl x2) (L' := [some (zr l0), some (zi l1), some (zr x2)]) dX8_joined_8 rfl (by decide) rfl ?_
  refine zr_aload_n (v := .inl x2) dX8_joined_9 rfl rfl ?_
  refine zr_aload_n (v := .inl l0) dX8_joined_10 rfl rfl ?_
  revert hf; refine zbi (fun x3 e_x3 hf => ?_)
  refine zq_alen dX8_joined_11 e_x3 ?_
  refine zr_iload_n (x := l1) dX8_joined_12 rfl rfl ?_
  revert hf; refine zbi (fun h2 e_h2 hf => ?_)
  refine zq_iast dX8_joined_13 e_h2 ?_
  refine zr_aload_n (v := .inl x2) dX8_joined_14 rfl rfl ?_
  cases hf
  exact zr_ret _ (Or.inr ⟨_, rfl⟩) dX8_joined_15
theorem c_X8_joined {g : zG} (hg : g.2.1.map (fun q => q.2) = zty) {N : Nat} {l0 : Option Nat} {l1 : Int32} {h : zH} {r : Option Nat} {h' : zH} (hf : f_X8_joined N l0 l1 h = some (r, h')) : zCa g jX8_joined [zr l0, zi l1] h (some (zr r)) h' :=
  zCa.of hg (by decide +kernel) (Nat.le_of_ble_eq_true rfl) (s_X8_joined hg N l0 l1 h r h' hf)
theorem dX8_withEnd_0 : decode cX8_withEnd 0 = .ok (.aload_n 0, 1) := by decide +kernel
theorem dX8_withEnd_1 : decode cX8_withEnd 1 = .ok (.getfield 18, 3) := by decide +kernel
theorem dX8_withEnd_4 : decode cX8_withEnd 4 = .ok (.aload_n 0, 1) := by decide +kernel
theorem dX8_withEnd_5 : decode cX8_withEnd 5 = .ok (.getfield 18, 3) := by decide +kernel
theorem dX8_withEnd_8 : decode cX8_withEnd 8 = .ok (.arraylength, 1) := by decide +kernel
theorem dX8_withEnd_9 : decode cX8_withEnd 9 = .ok (.iconst 0, 1) := by decide +kernel
theorem dX8_withEnd_10 : decode cX8_withEnd 10 = .ok (.iload_n 2, 1) := by decide +kernel
theorem dX8_withEnd_11 : decode cX8_withEnd 11 = .ok (.invokestatic 25, 3) := by decide +kernel
theorem dX8_withEnd_14 : decode cX8_withEnd 14 = .ok (.iadd, 1) := by decide +kernel
theorem dX8_withEnd_15 : decode cX8_withEnd 15 = .ok (.invokestatic 31, 3) := by decide +kernel
theorem dX8_withEnd_18 : decode cX8_withEnd 18 = .ok (.astore 4, 2) := by decide +kernel
theorem dX8_withEnd_20 : decode cX8_withEnd 20 = .ok (.iconst 0, 1) := by decide +kernel
theorem dX8_withEnd_21 : decode cX8_withEnd 21 = .ok (.istore 5, 2) := by decide +kernel
theorem dX8_withEnd_23 : decode cX8_withEnd 23 = .ok (.iload 5, 2) := by decide +kernel
theorem dX8_withEnd_25 : decode cX8_withEnd 25 = .ok (.iload_n 2, 1) := by decide +kernel
theorem dX8_withEnd_26 : decode cX8_withEnd 26 = .ok (.if_icmp .ge 31, 3) := by decide +kernel
theorem dX8_withEnd_29 : decode cX8_withEnd 29 = .ok (.iload 5, 2) := by decide +kernel
theorem dX8_withEnd_31 : decode cX8_withEnd 31 = .ok (.aload_n 1, 1) := by decide +kernel
theorem dX8_withEnd_32 : decode cX8_withEnd 32 = .ok (.arraylength, 1) := by decide +kernel
theorem dX8_withEnd_33 : decode cX8_withEnd 33 = .ok (.if_icmp .ge 24, 3) := by decide +kernel
theorem dX8_withEnd_36 : decode cX8_withEnd 36 = .ok (.aload 4, 2) := by decide +kernel
theorem dX8_withEnd_38 : decode cX8_withEnd 38 = .ok (.aload_n 0, 1) := by decide +kernel
theorem dX8_withEnd_39 : decode cX8_withEnd 39 = .ok (.getfield 18, 3) := by decide +kernel
theorem dX8_withEnd_42 : decode cX8_withEnd 42 = .ok (.arraylength, 1) := by decide +kernel
theorem dX8_withEnd_43 : decode cX8_withEnd 43 = .ok (.iload 5, 2) := by decide +kernel
theorem dX8_withEnd_45 : decode cX8_withEnd 45 = .ok (.iadd, 1) := by decide +kernel
theorem dX8_withEnd_46 : decode cX8_withEnd 46 = .ok (.aload_n 1, 1) := by decide +kernel
theorem dX8_withEnd_47 : decode cX8_withEnd 47 = .ok (.iload 5, 2) := by decide +kernel
theorem dX8_withEnd_49 : decode cX8_withEnd 49 = .ok (.iaload, 1) := by decide +kernel
theorem dX8_withEnd_50 : decode cX8_withEnd 50 = .ok (.iastore, 1) := by decide +kernel
theorem dX8_withEnd_51 : decode cX8_withEnd 51 = .ok (.iinc 5 1, 3) := by decide +kernel
theorem dX8_withEnd_54 : decode cX8_withEnd 54 = .ok (.goto (-31), 3) := by decide +kernel
theorem dX8_withEnd_57 : decode cX8_withEnd 57 = .ok (.new 4, 3) := by decide +kernel
theorem dX8_withEnd_60 : decode cX8_withEnd 60 = .ok (.dup, 1) := by decide +kernel
theorem dX8_withEnd_61 : decode cX8_withEnd 61 = .ok (.aload_n 0, 1) := by decide +kernel
theorem dX8_withEnd_62 : decode cX8_withEnd 62 = .ok (.getfield 14, 3) := by decide +kernel
theorem dX8_withEnd_65 : decode cX8_withEnd 65 = .ok (.iload_n 3, 1) := by decide +kernel
theorem dX8_withEnd_66 : decode cX8_withEnd 66 = .ok (.invokestatic 37, 3) := by decide +kernel
theorem dX8_withEnd_69 : decode cX8_withEnd 69 = .ok (.aload 4, 2) := by decide +kernel
theorem dX8_withEnd_71 : decode cX8_withEnd 71 = .ok (.aload_n 0, 1) := by decide +kernel
theorem dX8_withEnd_72 : decode cX8_withEnd 72 = .ok (.getfield 21, 3) := by decide +kernel
theorem dX8_withEnd_75 : decode cX8_withEnd 75 = .ok (.invokespecial 3, 3) := by decide +kernel
theorem dX8_withEnd_78 : decode cX8_withEnd 78 = .ok (.areturn, 1) := by decide +kernel
def f_X8_withEnd_57 (N : Nat) (l0 : Nat) (l3 : Int32) (l4 : Option Nat) (h : zH) : Option ((Option Nat) × zH) := znw h (.inr (8, [zr none, zr none, zr none])) fun a1 h1 => (zgR h1 8 (some l0) 0).bind fun x1 => zb2 (f_X8_joined N x1 l3 h1) fun x2 h2 => (zgR h2 8 (some l0) 2).bind fun x3 => (f_X8_init_ N a1 x2 l4 x3 h2).bind fun h3 => some ((some a1), h3)
set_option maxHeartbeats 4000000 in
set_option maxRecDepth 100000 in
theorem s_X8_withEnd_57 {g : zG} (hg : g.2.1.map (fun q => q.2) = zty) {h0 : zH} (N : Nat) (l0 : Nat) (l3 : Int32) (l4 : Option Nat) (h : zH) (r : Option Nat) (h' : zH) (hf : f_X8_withEnd_57 N l0 l3 l4 h = some (r, h')) : zR g jX8_withEnd h0 57 [some (zr (some l0)), none, none, some (zi l3), some (zr l4), none] [] h (some (zr r)) h' := by
  unfold f_X8_withEnd_57 at hf
  obtain ⟨a1, h1, e_a1, e_h1, hf⟩ := znw_spec hf
  refine zq_new kn_277 dX8_withEnd_57 e_a1 e_h1 ?_
  refine zr_dup dX8_withEnd_60 ?_
  refine zr_aload_n (v := .inl (some l0)) dX8_withEnd_61 rfl rfl ?_
  revert hf; refine zbi (fun x1 e_x1 hf => ?_)
  refine zq_getR kg_243 dX8_withEnd_62 e_x1 ?_
  refine zr_iload_n (x := l3) dX8_withEnd_65 rfl rfl ?_
  revert hf; refine zbi2 (fun x2 h2 e_x2 hf => ?_)
  refine zq_callS (J' := jX8_joined) (as := [zr x1, zi l3]) (rest := [zr (some a1), zr (some a1)]) (r1 := (some (zr x2))) kw_354 km_X8_joined kt_279 dX8_withEnd_66 rfl (Nat.le_of_ble_eq_true rfl) rfl (c_X8_joined hg e_x2) ?_
  refine zr_aload (v := .inl l4) dX8_withEnd_69 rfl ?_
  refine zr_aload_n (v := .inl (some l0)) dX8_withEnd_71 rfl rfl ?_
  revert hf; refine zbi (fun x3 e_x3 hf => ?_)
  refine zq_getR kg_244 dX8_withEnd_72 e_x3 ?_
  revert hf; refine zbi (fun h3 e_h3 hf => ?_)
  refine zq_callI (J' := jX8_init_) (as := [zr x2, zr l4, zr x3]) (rest := [zr (some a1)]) (r1 := none) (a := a1) kw_348 km_X8_init_ kt_280 dX8_withEnd_75 rfl (Nat.le_of_ble_eq_true rfl) rfl (c_X8_init_ hg e_h3) ?_
  cases hf
  exact zr_ret _ (Or.inl ⟨_, rfl⟩) dX8_withEnd_78
def f_X8_withEnd_23 (N : Nat) : Nat → Nat → Option Nat → Int32 → Int32 → Option Nat → Int32 → zH → Option ((Option Nat) × zH)
  | 0, _, _, _, _, _, _, _ => none
  | n + 1, l0, l1, l2, l3, l4, l5, h => if l2 ≤ l5 then f_X8_withEnd_57 N l0 l3 l4 h else (zlen h l1).bind fun x1 => if x1 ≤ l5 then f_X8_withEnd_57 N l0 l3 l4 h else (zgR h 8 (some l0) 1).bind fun x2 => (zlen h x2).bind fun x3 => (zld h 0 l1 l5).bind fun x4 => (zst h 0 l4 (x3 + l5) x4).bind fun h1 => f_X8_withEnd_23 N n l0 l1 l2 l3 l4 (l5 + (1 : Int32)) h1
set_option maxHeartbeats 4000000 in
set_option maxRecDepth 100000 in
theorem s_X8_withEnd_23 {g : zG} (hg : g.2.1.map (fun q => q.2) = zty) {h0 : zH} (N : Nat) : ∀ (n : Nat) (l0 : Nat) (l1 : Option Nat) (l2 : Int32) (l3 : Int32) (l4 : Option Nat) (l5 : Int32) (h : zH) (r : Option Nat) (h' : zH), f_X8_withEnd_23 N n l0 l1 l2 l3 l4 l5 h = some (r, h') → zR g jX8_withEnd h0 23 [some (zr (some l0)), some (zr l1), some (zi l2), some (zi l3), some (zr l4), some (zi l5)] [] h (some (zr r)) h' := by
  intro n
  induction n with
  | zero =>
    intro l0 l1 l2 l3 l4 l5 h r h' hf
    cases hf
  | succ n ih =>
    intro l0 l1 l2 l3 l4 l5 h r h' hf
    rw [f_X8_withEnd_23] at hf
    refine zr_iload (x := l5) dX8_withEnd_23 rfl ?_
    refine zr_iload_n (x := l2) dX8_withEnd_25 rfl rfl ?_
    by_cases hc1 : l2 ≤ l5
    · rw [if_pos hc1] at hf
      refine zr_icge_t (tgt := 57) dX8_withEnd_26 (by decide) hc1 ?_
      refine zr_forget 1 (L' := [some (zr (some l0)), none, some (zi l2), some (zi l3), some (zr l4), some (zi l5)]) rfl ?_
      refine zr_forget 2 (L' := [some (zr (some l0)), none, none, some (zi l3), some (zr l4), some (zi l5)]) rfl ?_
      refine zr_forget 5 (L' := [some (zr (some l0)), none, none, some (zi l3), some (zr l4), none]) rfl ?_
      exact s_X8_withEnd_57 hg N l0 l3 l4 h r h' hf
    · rw [if_neg hc1] at hf
      refine zr_icge_f 57 dX8_withEnd_26 (by decide) hc1 ?_
      refine zr_iload (x := l5) dX8_withEnd_29 rfl ?_
      refine zr_aload_n (v := .inl l1) dX8_withEnd_31 rfl rfl ?_
      revert hf; refine zbi (fun x1 e_x1 hf => ?_)
      refine zq_alen dX8_withEnd_32 e_x1 ?_
      by_cases hc2 : x1 ≤ l5
      · rw [if_pos hc2] at hf
        refine zr_icge_t (tgt := 57) dX8_withEnd_33 (by decide) hc2 ?_
        refine zr_forget 1 (L' := [some (zr (some l0)), none, some (zi l2), some (zi l3), some (zr l4), some (zi l5)]) rfl ?_
        refine zr_forget 2 (L' := [some (zr (some l0)), none, none, some (zi l3), some (zr l4), some (zi l5)]) rfl ?_
        refine zr_forget 5 (L' := [some (zr (some l0)), none, none, some (zi l3), some (zr l4), none]) rfl ?_
        exact s_X8_withEnd_57 hg N l0 l3 l4 h r h' hf
      · rw [if_neg hc2] at hf
        refine zr_icge_f 57 dX8_withEnd_33 (by decide) hc2 ?_
        refine zr_aload (v := .inl l4) dX8_withEnd_36 rfl ?_
        refine zr_aload_n (v := .inl (some l0)) dX8_withEnd_38 rfl rfl ?_
        revert hf; refine zbi (fun x2 e_x2 hf => ?_)
        refine zq_getR kg_247 dX8_withEnd_39 e_x2 ?_
        revert hf; refine zbi (fun x3 e_x3 hf => ?_)
        refine zq_alen dX8_withEnd_42 e_x3 ?_
        refine zr_iload (x := l5) dX8_withEnd_43 rfl ?_
        refine zr_iadd dX8_withEnd_45 ?_
        refine zr_aload_n (v := .inl l1) dX8_withEnd_46 rfl rfl ?_
        refine zr_iload (x := l5) dX8_withEnd_47 rfl ?_
        revert hf; refine zbi (fun x4 e_x4 hf => ?_)
        refine zq_iald dX8_withEnd_49 e_x4 ?_
        revert hf; refine zbi (fun h1 e_h1 hf => ?_)
        refine zq_iast dX8_withEnd_50 e_h1 ?_
        refine zq_iinc (x := l5) (y := (1 : Int32)) (L' := [some (zr (some l0)), some (zr l1), some (zi l2), some (zi l3), some (zr l4), some (zi (l5 + (1 : Int32)))]) dX8_withEnd_51 rfl (by decide) (by decide) rfl ?_
        refine zr_goto (tgt := 23) dX8_withEnd_54 (by decide) ?_
        exact ih l0 l1 l2 l3 l4 (l5 + (1 : Int32)) h1 r h' hf
def f_X8_withEnd (N : Nat) (l0 : Nat) (l1 : Option Nat) (l2 : Int32) (l3 : Int32) (h : zH) : Option ((Option Nat) × zH) := (zgR h 8 (some l0) 1).bind fun x1 => (zgR h 8 (some l0) 1).bind fun x2 => (zlen h x2).bind fun x3 => zb2 (f_J7_copyOf_59c91 N x1 (x3 + (if (0 : Int32) < l2 then l2 else (0 : Int32))) h) fun x4 h1 => f_X8_withEnd_23 N N l0 l1 l2 l3 x4 (0 : Int32) h1
set_option maxHeartbeats 4000000 in
set_option maxRecDepth 100000 in
theorem s_X8_withEnd {g : zG} (hg : g.2.1.map (fun q => q.2) = zty) {h0 : zH} (N : Nat) (l0 : Nat) (l1 : Option Nat) (l2 : Int32) (l3 : Int32) (h : zH) (r : Option Nat) (h' : zH) (hf : f_X8_withEnd N l0 l1 l2 l3 h = some (r, h')) : zR g jX8_withEnd h0 0 [some (zr (some l0)), some (zr l1), some (zi l2), some (zi l3), none, none] [] h (some (zr r)) h' := by
  unfold f_X8_withEnd at hf
  refine zr_aload_n (v := .inl (some l0)) dX8_withEnd_0 rfl rfl ?_
  revert hf; refine zbi (fun x1 e_x1 hf => ?_)
  refine zq_getR kg_247 dX8_withEnd_1 e_x1 ?_
  refine zr_aload_n (v := .inl (some l0)) dX8_withEnd_4 rfl rfl ?_
  revert hf; refine zbi (fun x2 e_x2 hf => ?_)
  refine zq_getR kg_247 dX8_withEnd_5 e_x2 ?_
  revert hf; refine zbi (fun x3 e_x3 hf => ?_)
  refine zq_alen dX8_withEnd_8 e_x3 ?_
  refine zr_iconst (v := (0 : Int32)) dX8_withEnd_9 (by decide) ?_
  refine zr_iload_n (x := l2) dX8_withEnd_10 rfl rfl ?_
  refine zr_mmax kw_357 kw_108 kw_25 kw_109 ⟨Nat.le_of_ble_eq_true rfl, Nat.le_of_ble_eq_true rfl⟩ dX8_withEnd_11 ?_
  refine zr_iadd dX8_withEnd_14 ?_
  revert hf; refine zbi2 (fun x4 h1 e_x4 hf => ?_)
  refine zq_callS (J' := jJ7_copyOf_59c91) (as := [zr x1, zi (x3 + (if (0 : Int32) < l2 then l2 else (0 : Int32)))]) (rest := []) (r1 := (some (zr x4))) kw_351 km_J7_copyOf_59c91 kt_281 dX8_withEnd_15 rfl (Nat.le_of_ble_eq_true rfl) rfl (c_J7_copyOf_59c91 hg e_x4) ?_
  refine zq_astore (v := .inl x4) (L' := [some (zr (some l0)), some (zr l1), some (zi l2), some (zi l3), some (zr x4), none]) dX8_withEnd_18 (by decide) rfl ?_
  refine zr_iconst (v := (0 : Int32)) dX8_withEnd_20 (by decide) ?_
  refine zq_istore (x := (0 : Int32)) (L' := [some (zr (some l0)), some (zr l1), some (zi l2), some (zi l3), some (zr x4), some (zi (0 : Int32))]) dX8_withEnd_21 (by decide) rfl ?_
  exact s_X8_withEnd_23 hg N N l0 l1 l2 l3 x4 (0 : Int32) h1 r h' hf
theorem c_X8_withEnd {g : zG} (hg : g.2.1.map (fun q => q.2) = zty) {N : Nat} {l0 : Nat} {l1 : Option Nat} {l2 : Int32} {l3 : Int32} {h : zH} {r : Option Nat} {h' : zH} (hf : f_X8_withEnd N l0 l1 l2 l3 h = some (r, h')) : zCa g jX8_withEnd [zr (some l0), zr l1, zi l2, zi l3] h (some (zr r)) h' :=
  zCa.of hg (by decide +kernel) (Nat.le_of_ble_eq_true rfl) (s_X8_withEnd hg N l0 l1 l2 l3 h r h' hf)
