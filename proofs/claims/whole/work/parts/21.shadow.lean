theorem dX12_rank_0 : decode cX12_rank 0 = .ok (.aload_n 0, 1) := by decide +kernel
theorem dX12_rank_1 : decode cX12_rank 1 = .ok (.iload_n 1, 1) := by decide +kernel
theorem dX12_rank_2 : decode cX12_rank 2 = .ok (.invokevirtual 151, 3) := by decide +kernel
theorem dX12_rank_5 : decode cX12_rank 5 = .ok (.ifCond .eq 12, 3) := by decide +kernel
theorem dX12_rank_8 : decode cX12_rank 8 = .ok (.aload_n 0, 1) := by decide +kernel
theorem dX12_rank_9 : decode cX12_rank 9 = .ok (.getfield 8, 3) := by decide +kernel
theorem dX12_rank_12 : decode cX12_rank 12 = .ok (.iconst 0, 1) := by decide +kernel
theorem dX12_rank_13 : decode cX12_rank 13 = .ok (.iaload, 1) := by decide +kernel
theorem dX12_rank_14 : decode cX12_rank 14 = .ok (.ifCond .ne 5, 3) := by decide +kernel
theorem dX12_rank_17 : decode cX12_rank 17 = .ok (.iconst (-1), 1) := by decide +kernel
theorem dX12_rank_18 : decode cX12_rank 18 = .ok (.ireturn, 1) := by decide +kernel
theorem dX12_rank_19 : decode cX12_rank 19 = .ok (.iconst 1, 1) := by decide +kernel
theorem dX12_rank_20 : decode cX12_rank 20 = .ok (.istore_n 2, 1) := by decide +kernel
theorem dX12_rank_21 : decode cX12_rank 21 = .ok (.iconst 0, 1) := by decide +kernel
theorem dX12_rank_22 : decode cX12_rank 22 = .ok (.istore_n 3, 1) := by decide +kernel
theorem dX12_rank_23 : decode cX12_rank 23 = .ok (.iload_n 3, 1) := by decide +kernel
theorem dX12_rank_24 : decode cX12_rank 24 = .ok (.bipush 16, 2) := by decide +kernel
theorem dX12_rank_26 : decode cX12_rank 26 = .ok (.if_icmp .ge 30, 3) := by decide +kernel
theorem dX12_rank_29 : decode cX12_rank 29 = .ok (.aload_n 0, 1) := by decide +kernel
theorem dX12_rank_30 : decode cX12_rank 30 = .ok (.iload_n 3, 1) := by decide +kernel
theorem dX12_rank_31 : decode cX12_rank 31 = .ok (.invokevirtual 151, 3) := by decide +kernel
theorem dX12_rank_34 : decode cX12_rank 34 = .ok (.ifCond .eq 16, 3) := by decide +kernel
theorem dX12_rank_37 : decode cX12_rank 37 = .ok (.aload_n 0, 1) := by decide +kernel
theorem dX12_rank_38 : decode cX12_rank 38 = .ok (.iload_n 3, 1) := by decide +kernel
theorem dX12_rank_39 : decode cX12_rank 39 = .ok (.iload_n 1, 1) := by decide +kernel
theorem dX12_rank_40 : decode cX12_rank 40 = .ok (.invokevirtual 189, 3) := by decide +kernel
theorem dX12_rank_43 : decode cX12_rank 43 = .ok (.iconst 1, 1) := by decide +kernel
theorem dX12_rank_44 : decode cX12_rank 44 = .ok (.if_icmp .ne 6, 3) := by decide +kernel
theorem dX12_rank_47 : decode cX12_rank 47 = .ok (.iinc 2 1, 3) := by decide +kernel
theorem dX12_rank_50 : decode cX12_rank 50 = .ok (.iinc 3 1, 3) := by decide +kernel
theorem dX12_rank_53 : decode cX12_rank 53 = .ok (.goto (-30), 3) := by decide +kernel
theorem dX12_rank_56 : decode cX12_rank 56 = .ok (.iload_n 2, 1) := by decide +kernel
theorem dX12_rank_57 : decode cX12_rank 57 = .ok (.ireturn, 1) := by decide +kernel
def f_X12_rank_23 (N : Nat) : Nat → Nat → Int32 → Int32 → Int32 → zH → Option Int32
  | 0, _, _, _, _, _ => none
  | n + 1, l0, l1, l2, l3, h => if (16 : Int32) ≤ l3 then some l2 else (zck h 12 (some l0)).bind fun q1 => (f_X12_isArcher N q1 l3 h).bind fun x1 => if x1 = 0 then f_X12_rank_23 N n l0 l1 l2 (l3 + (1 : Int32)) h else (zck h 12 (some l0)).bind fun q2 => (f_X12_ahead N q2 l3 l1 h).bind fun x2 => if x2 = (1 : Int32) then f_X12_rank_23 N n l0 l1 (l2 + (1 : Int32)) (l3 + (1 : Int32)) h else f_X12_rank_23 N n l0 l1 l2 (l3 + (1 : Int32)) h
set_option maxHeartbeats 4000000 in
set_option maxRecDepth 100000 in
theorem s_X12_rank_23 {g : zG} (hg : g.2.1.map (fun q => q.2) = zty) {h0 : zH} (N : Nat) : ∀ (n : Nat) (l0 : Nat) (l1 : Int32) (l2 : Int32) (l3 : Int32) (h : zH) (r : Int32), f_X12_rank_23 N n l0 l1 l2 l3 h = some r → zR g jX12_rank h0 23 [some (zr (some l0)), some (zi l1), some (zi l2), some (zi l3)] [] h (some (zi r)) h := by
  intro n
  induction n with
  | zero =>
    intro l0 l1 l2 l3 h r hf
    cases hf
  | succ n ih =>
    intro l0 l1 l2 l3 h r hf
    rw [f_X12_rank_23] at hf
    refine zr_iload_n (x := l3) dX12_rank_23 rfl rfl ?_
    refine zr_bipush (v := (16 : Int32)) dX12_rank_24 (by decide) ?_
    by_cases hc1 : (16 : Int32) ≤ l3
    · rw [if_pos hc1] at hf
      refine zr_icge_t (tgt := 56) dX12_rank_26 (by decide) hc1 ?_
      refine zr_iload_n (x := l2) dX12_rank_56 rfl rfl ?_
      cases hf
      exact zr_ret _ rfl dX12_rank_57
    · rw [if_neg hc1] at hf
      refine zr_icge_f 56 dX12_rank_26 (by decide) hc1 ?_
      refine zr_aload_n (v := .inl (some l0)) dX12_rank_29 rfl rfl ?_
      refine zr_iload_n (x := l3) dX12_rank_30 rfl rfl ?_
      revert hf; refine zbi (fun q1 e_q1 hf => ?_)
      revert hf; refine zbi (fun x1 e_x1 hf => ?_)
      refine zq_callV (J' := jX12_isArcher) (as := [zi l3]) (rest := []) (r1 := (some (zi x1))) (q := (RX12, TX12, 31)) kw_682 km_X12_isArcher kt_637 dX12_rank_31 rfl (Nat.le_of_ble_eq_true rfl) rfl rfl e_q1 rfl (c_X12_isArcher hg e_x1) ?_
      by_cases hc2 : x1 = 0
      · rw [if_pos hc2] at hf
        refine zr_ifeq_t (tgt := 50) dX12_rank_34 (by decide) hc2 ?_
        refine zq_iinc (x := l3) (y := (1 : Int32)) (L' := [some (zr (some l0)), some (zi l1), some (zi l2), some (zi (l3 + (1 : Int32)))]) dX12_rank_50 rfl (by decide) (by decide) rfl ?_
        refine zr_goto (tgt := 23) dX12_rank_53 (by decide) ?_
        exact ih l0 l1 l2 (l3 + (1 : Int32)) h r hf
      · rw [if_neg hc2] at hf
        refine zr_ifeq_f 50 dX12_rank_34 (by decide) hc2 ?_
        refine zr_aload_n (v := .inl (some l0)) dX12_rank_37 rfl rfl ?_
        refine zr_iload_n (x := l3) dX12_rank_38 rfl rfl ?_
        refine zr_iload_n (x := l1) dX12_rank_39 rfl rfl ?_
        revert hf; refine zbi (fun q2 e_q2 hf => ?_)
        revert hf; refine zbi (fun x2 e_x2 hf => ?_)
        refine zq_callV (J' := jX12_ahead) (as := [zi l3, zi l1]) (rest := []) (r1 := (some (zi x2))) (q := (RX12, TX12, 31)) kw_726 km_X12_ahead kt_639 dX12_rank_40 rfl (Nat.le_of_ble_eq_true rfl) rfl rfl e_q2 rfl (c_X12_ahead hg e_x2) ?_
        refine zr_iconst (v := (1 : Int32)) dX12_rank_43 (by decide) ?_
        by_cases hc3 : x2 = (1 : Int32)
        · rw [if_pos hc3] at hf
          refine zr_icne_f 50 dX12_rank_44 (by decide) hc3 ?_
          refine zq_iinc (x := l2) (y := (1 : Int32)) (L' := [some (zr (some l0)), some (zi l1), some (zi (l2 + (1 : Int32))), some (zi l3)]) dX12_rank_47 rfl (by decide) (by decide) rfl ?_
          refine zq_iinc (x := l3) (y := (1 : Int32)) (L' := [some (zr (some l0)), some (zi l1), some (zi (l2 + (1 : Int32))), some (zi (l3 + (1 : Int32)))]) dX12_rank_50 rfl (by decide) (by decide) rfl ?_
          refine zr_goto (tgt := 23) dX12_rank_53 (by decide) ?_
          exact ih l0 l1 (l2 + (1 : Int32)) (l3 + (1 : Int32)) h r hf
        · rw [if_neg hc3] at hf
          refine zr_icne_t (tgt := 50) dX12_rank_44 (by decide) hc3 ?_
          refine zq_iinc (x := l3) (y := (1 : Int32)) (L' := [some (zr (some l0)), some (zi l1), some (zi l2), some (zi (l3 + (1 : Int32)))]) dX12_rank_50 rfl (by decide) (by decide) rfl ?_
          refine zr_goto (tgt := 23) dX12_rank_53 (by decide) ?_
          exact ih l0 l1 l2 (l3 + (1 : Int32)) h r hf
def f_X12_rank (N : Nat) (l0 : Nat) (l1 : Int32) (h : zH) : Option Int32 := (zck h 12 (some l0)).bind fun q1 => (f_X12_isArcher N q1 l1 h).bind fun x1 => if x1 = 0 then some ((-1) : Int32) else (zgR h 12 (some l0) 0).bind fun x2 => (zld h 0 x2 (0 : Int32)).bind fun x3 => if x3 = 0 then some ((-1) : Int32) else f_X12_rank_23 N N l0 l1 (1 : Int32) (0 : Int32) h
set_option maxHeartbeats 4000000 in
set_option maxRecDepth 100000 in
theorem s_X12_rank {g : zG} (hg : g.2.1.map (fun q => q.2) = zty) {h0 : zH} (N : Nat) (l0 : Nat) (l1 : Int32) (h : zH) (r : Int32) (hf : f_X12_rank N l0 l1 h = some r) : zR g jX12_rank h0 0 [some (zr (some l0)), some (zi l1), none, none] [] h (some (zi r)) h := by
  unfold f_X12_rank at hf
  refine zr_aload_n (v := .inl (some l0)) dX12_rank_0 rfl rfl ?_
  refine zr_iload_n (x := l1) dX12_rank_1 rfl rfl ?_
  revert hf; refine zbi (fun q1 e_q1 hf => ?_)
  revert hf; refine zbi (fun x1 e_x1 hf => ?_)
  refine zq_callV (J' := jX12_isArcher) (as := [zi l1]) (rest := []) (r1 := (some (zi x1))) (q := (RX12, TX12, 31)) kw_682 km_X12_isArcher kt_637 dX12_rank_2 rfl (Nat.le_of_ble_eq_true rfl) rfl rfl e_q1 rfl (c_X12_isArcher hg e_x1) ?_
  by_cases hc1 : x1 = 0
  · rw [if_pos hc1] at hf
    refine zr_ifeq_t (tgt := 17) dX12_rank_5 (by decide) hc1 ?_
    refine zr_iconst (v := ((-1) : Int32)) dX12_rank_17 (by decide) ?_
    cases hf
    exact zr_ret _ rfl dX12_rank_18
  · rw [if_neg hc1] at hf
    refine zr_ifeq_f 17 dX12_rank_5 (by decide) hc1 ?_
    refine zr_aload_n (v := .inl (some l0)) dX12_rank_8 rfl rfl ?_
    revert hf; refine zbi (fun x2 e_x2 hf => ?_)
    refine zq_getR kg_490 dX12_rank_9 e_x2 ?_
    refine zr_iconst (v := (0 : Int32)) dX12_rank_12 (by decide) ?_
    revert hf; refine zbi (fun x3 e_x3 hf => ?_)
    refine zq_iald dX12_rank_13 e_x3 ?_
    by_cases hc2 : x3 = 0
    · rw [if_pos hc2] at hf
      refine zr_ifne_f 19 dX12_rank_14 (by decide) hc2 ?_
      refine zr_iconst (v := ((-1) : Int32)) dX12_rank_17 (by decide) ?_
      cases hf
      exact zr_ret _ rfl dX12_rank_18
    · rw [if_neg hc2] at hf
      refine zr_ifne_t (tgt := 19) dX12_rank_14 (by decide) hc2 ?_
      refine zr_iconst (v := (1 : Int32)) dX12_rank_19 (by decide) ?_
      refine zq_istore_n (x := (1 : Int32)) (L' := [some (zr (some l0)), some (zi l1), some (zi (1 : Int32)), none]) dX12_rank_20 rfl (by decide) rfl ?_
      refine zr_iconst (v := (0 : Int32)) dX12_rank_21 (by decide) ?_
      refine zq_istore_n (x := (0 : Int32)) (L' := [some (zr (some l0)), some (zi l1), some (zi (1 : Int32)), some (zi (0 : Int32))]) dX12_rank_22 rfl (by decide) rfl ?_
      exact s_X12_rank_23 hg N N l0 l1 (1 : Int32) (0 : Int32) h r hf
theorem c_X12_rank {g : zG} (hg : g.2.1.map (fun q => q.2) = zty) {N : Nat} {l0 : Nat} {l1 : Int32} {h : zH} {r : Int32} (hf : f_X12_rank N l0 l1 h = some r) : zCa g jX12_rank [zr (some l0), zi l1] h (some (zi r)) h :=
  zCa.of hg (by decide +kernel) (Nat.le_of_ble_eq_true rfl) (s_X12_rank hg N l0 l1 h r hf)
theorem dX12_isDay_0 : decode cX12_isDay 0 = .ok (.iload_n 0, 1) := by decide +kernel
theorem dX12_isDay_1 : decode cX12_isDay 1 = .ok (.ifCond .lt 13, 3) := by decide +kernel
theorem dX12_isDay_4 : decode cX12_isDay 4 = .ok (.iload_n 0, 1) := by decide +kernel
theorem dX12_isDay_5 : decode cX12_isDay 5 = .ok (.ldc 192, 2) := by decide +kernel
theorem dX12_isDay_7 : decode cX12_isDay 7 = .ok (.if_icmp .gt 7, 3) := by decide +kernel
theorem dX12_isDay_10 : decode cX12_isDay 10 = .ok (.iconst 1, 1) := by decide +kernel
theorem dX12_isDay_11 : decode cX12_isDay 11 = .ok (.goto 4, 3) := by decide +kernel
theorem dX12_isDay_14 : decode cX12_isDay 14 = .ok (.iconst 0, 1) := by decide +kernel
theorem dX12_isDay_15 : decode cX12_isDay 15 = .ok (.ireturn, 1) := by decide +kernel
def f_X12_isDay (N : Nat) (l0 : Int32) (h : zH) : Option Int32 := if l0 < 0 then some (0 : Int32) else if (36500 : Int32) < l0 then some (0 : Int32) else some (1 : Int32)
set_option maxHeartbeats 4000000 in
set_option maxRecDepth 100000 in
theorem s_X12_isDay {g : zG} (hg : g.2.1.map (fun q => q.2) = zty) {h0 : zH} (N : Nat) (l0 : Int32) (h : zH) (r : Int32) (hf : f_X12_isDay N l0 h = some r) : zR g jX12_isDay h0 0 [some (zi l0)] [] h (some (zi r)) h := by
  unfold f_X12_isDay at hf
  refine zr_iload_n (x := l0) dX12_isDay_0 rfl rfl ?_
  by_cases hc1 : l0 < 0
  · rw [if_pos hc1] at hf
    refine zr_iflt_t (tgt := 14) dX12_isDay_1 (by decide) hc1 ?_
    refine zr_iconst (v := (0 : Int32)) dX12_isDay_14 (by decide) ?_
    cases hf
    exact zr_ret _ rfl dX12_isDay_15
  · rw [if_neg hc1] at hf
    refine zr_iflt_f 14 dX12_isDay_1 (by decide) hc1 ?_
    refine zr_iload_n (x := l0) dX12_isDay_4 rfl rfl ?_
    refine zr_ldc (v := (36500 : Int32)) kw_730 dX12_isDay_5 ?_
    by_cases hc2 : (36500 : Int32) < l0
    · rw [if_pos hc2] at hf
      refine zr_icgt_t (tgt := 14) dX12_isDay_7 (by decide) hc2 ?_
      refine zr_iconst (v := (0 : Int32)) dX12_isDay_14 (by decide) ?_
      cases hf
      exact zr_ret _ rfl dX12_isDay_15
    · rw [if_neg hc2] at hf
      refine zr_icgt_f 14 dX12_isDay_7 (by decide) hc2 ?_
      refine zr_iconst (v := (1 : Int32)) dX12_isDay_10 (by decide) ?_
      refine zr_goto (tgt := 15) dX12_isDay_11 (by decide) ?_
      cases hf
      exact zr_ret _ rfl dX12_isDay_15
theorem c_X12_isDay {g : zG} (hg : g.2.1.map (fun q => q.2) = zty) {N : Nat} {l0 : Int32} {h : zH} {r : Int32} (hf : f_X12_isDay N l0 h = some r) : zCa g jX12_isDay [zi l0] h (some (zi r)) h :=
  zCa.of hg (by decide +kernel) (Nat.le_of_ble_eq_true rfl) (s_X12_isDay hg N l0 h r hf)
theorem dX12_today_0 : decode cX12_today 0 = .ok (.iload_n 1, 1) := by decide +kernel
theorem dX12_today_1 : decode cX12_today 1 = .ok (.invokestatic 193, 3) := by decide +kernel
theorem dX12_today_4 : decode cX12_today 4 = .ok (.ifCond .eq 15, 3) := by decide +kernel
theorem dX12_today_7 : decode cX12_today 7 = .ok (.iload_n 1, 1) := by decide +kernel
theorem dX12_today_8 : decode cX12_today 8 = .ok (.aload_n 0, 1) := by decide +kernel
theorem dX12_today_9 : decode cX12_today 9 = .ok (.getfield 8, 3) := by decide +kernel
theorem dX12_today_12 : decode cX12_today 12 = .ok (.sipush 6897, 3) := by decide +kernel
theorem dX12_today_15 : decode cX12_today 15 = .ok (.iaload, 1) := by decide +kernel
theorem dX12_today_16 : decode cX12_today 16 = .ok (.if_icmp .ge 5, 3) := by decide +kernel
theorem dX12_today_19 : decode cX12_today 19 = .ok (.iconst 0, 1) := by decide +kernel
theorem dX12_today_20 : decode cX12_today 20 = .ok (.ireturn, 1) := by decide +kernel
theorem dX12_today_21 : decode cX12_today 21 = .ok (.aload_n 0, 1) := by decide +kernel
theorem dX12_today_22 : decode cX12_today 22 = .ok (.invokevirtual 144, 3) := by decide +kernel
theorem dX12_today_25 : decode cX12_today 25 = .ok (.aload_n 0, 1) := by decide +kernel
theorem dX12_today_26 : decode cX12_today 26 = .ok (.getfield 8, 3) := by decide +kernel
theorem dX12_today_29 : decode cX12_today 29 = .ok (.sipush 6897, 3) := by decide +kernel
theorem dX12_today_32 : decode cX12_today 32 = .ok (.iload_n 1, 1) := by decide +kernel
theorem dX12_today_33 : decode cX12_today 33 = .ok (.iastore, 1) := by decide +kernel
theorem dX12_today_34 : decode cX12_today 34 = .ok (.iconst 1, 1) := by decide +kernel
theorem dX12_today_35 : decode cX12_today 35 = .ok (.ireturn, 1) := by decide +kernel
def f_X12_today (N : Nat) (l0 : Nat) (l1 : Int32) (h : zH) : Option (Int32 × zH) := (f_X12_isDay N l1 h).bind fun x1 => if x1 = 0 then some ((0 : Int32), h) else (zgR h 12 (some l0) 0).bind fun x2 => (zld h 0 x2 (6897 : Int32)).bind fun x3 => if x3 ≤ l1 then (zck h 12 (some l0)).bind fun q1 => (f_X12_keeps N q1 h).bind fun h1 => (zgR h1 12 (some l0) 0).bind fun x4 => (zst h1 0 x4 (6897 : Int32) l1).bind fun h2 => some ((1 : Int32), h2) else some ((0 : Int32), h)
set_option maxHeartbeats 4000000 in
set_option maxRecDepth 100000 in
theorem s_X12_today {g : zG} (hg : g.2.1.map (fun q => q.2) = zty) {h0 : zH} (N : Nat) (l0 : Nat) (l1 : Int32) (h : zH) (r : Int32) (h' : zH) (hf : f_X12_today N l0 l1 h = some (r, h')) : zR g jX12_today h0 0 [some (zr (some l0)), some (zi l1)] [] h (some (zi r)) h' := by
  unfold f_X12_today at hf
  refine zr_iload_n (x := l1) dX12_today_0 rfl rfl ?_
  revert hf; refine zbi (fun x1 e_x1 hf => ?_)
  refine zq_callS (J' := jX12_isDay) (as := [zi l1]) (rest := []) (r1 := (some (zi x1))) kw_731 km_X12_isDay kt_641 dX12_today_1 rfl (Nat.le_of_ble_eq_true rfl) rfl (c_X12_isDay hg e_x1) ?_
  by_cases hc1 : x1 = 0
  · rw [if_pos hc1] at hf
    refine zr_ifeq_t (tgt := 19) dX12_today_4 (by decide) hc1 ?_
    refine zr_iconst (v := (0 : Int32)) dX12_today_19 (by decide) ?_
    cases hf
    exact zr_ret _ rfl dX12_today_20
  · rw [if_neg hc1] at hf
    refine zr_ifeq_f 19 dX12_today_4 (by decide) hc1 ?_
    refine zr_iload_n (x := l1) dX12_today_7 rfl rfl ?_
    refine zr_aload_n (v := .inl (some l0)) dX12_today_8 rfl rfl ?_
    revert hf; refine zbi (fun x2 e_x2 hf => ?_)
    refine zq_getR kg_490 dX12_today_9 e_x2 ?_
    refine zr_sipush (v := (6897 : Int32)) dX12_today_12 (by decide) ?_
    revert hf; refine zbi (fun x3 e_x3 hf => ?_)
    refine zq_iald dX12_today_15 e_x3 ?_
    by_cases hc2 : x3 ≤ l1
    · rw [if_pos hc2] at hf
      refine zr_icge_t (tgt := 21) dX12_today_16 (by decide) hc2 ?_
      refine zr_aload_n (v := .inl (some l0)) dX12_today_21 rfl rfl ?_
      revert hf; refine zbi (fun q1 e_q1 hf => ?_)
      revert hf; refine zbi (fun h1 e_h1 hf => ?_)
      refine zq_callV (J' := jX12_keeps) (as := []) (rest := []) (r1 := none) (q := (RX12, TX12, 31)) kw_674 km_X12_keeps kt_642 dX12_today_22 rfl (Nat.le_of_ble_eq_true rfl) rfl rfl e_q1 rfl (c_X12_keeps hg e_h1) ?_
      refine zr_aload_n (v := .inl (some l0)) dX12_today_25 rfl rfl ?_
      revert hf; refine zbi (fun x4 e_x4 hf => ?_)
      refine zq_getR kg_490 dX12_today_26 e_x4 ?_
      refine zr_sipush (v := (6897 : Int32)) dX12_today_29 (by decide) ?_
      refine zr_iload_n (x := l1) dX12_today_32 rfl rfl ?_
      revert hf; refine zbi (fun h2 e_h2 hf => ?_)
      refine zq_iast dX12_today_33 e_h2 ?_
      refine zr_iconst (v := (1 : Int32)) dX12_today_34 (by decide) ?_
      cases hf
      exact zr_ret _ rfl dX12_today_35
    · rw [if_neg hc2] at hf
      refine zr_icge_f 21 dX12_today_16 (by decide) hc2 ?_
      refine zr_iconst (v := (0 : Int32)) dX12_today_19 (by decide) ?_
      cases hf
      exact zr_ret _ rfl dX12_today_20
theorem c_X12_today {g : zG} (hg : g.2.1.map (fun q => q.2) = zty) {N : Nat} {l0 : Nat} {l1 : Int32} {h : zH} {r : Int32} {h' : zH} (hf : f_X12_today N l0 l1 h = some (r, h')) : zCa g jX12_today [zr (some l0), zi l1] h (some (zi r)) h' :=
  zCa.of hg (by decide +kernel) (Nat.le_of_ble_eq_true rfl) (s_X12_today hg N l0 l1 h r h' hf)
theorem dX12_score_0 : decode cX12_score 0 = .ok (.aload_n 0, 1) := by decide +kernel
theorem dX12_score_1 : decode cX12_score 1 = .ok (.iload_n 1, 1) := by decide +kernel
theorem dX12_score_2 : decode cX12_score 2 = .ok (.invokevirtual 151, 3) := by decide +kernel
theorem dX12_score_5 : decode cX12_score 5 = .ok (.ifCond .eq 36, 3) := by decide +kernel
theorem dX12_score_8 : decode cX12_score 8 = .ok (.iload_n 2, 1) := by decide +kernel
theorem dX12_score_9 : decode cX12_score 9 = .ok (.invokestatic 193, 3) := by decide +kernel
theorem dX12_score_12 : decode cX12_score 12 = .ok (.ifCond .eq 29, 3) := by decide +kernel
theorem dX12_score_15 : decode cX12_score 15 = .ok (.iload_n 3, 1) := by decide +kernel
theorem dX12_score_16 : decode cX12_score 16 = .ok (.ifCond .lt 25, 3) := by decide +kernel
theorem dX12_score_19 : decode cX12_score 19 = .ok (.iload_n 3, 1) := by decide +kernel
theorem dX12_score_20 : decode cX12_score 20 = .ok (.sipush 2000, 3) := by decide +kernel
theorem dX12_score_23 : decode cX12_score 23 = .ok (.if_icmp .gt 18, 3) := by decide +kernel
theorem dX12_score_26 : decode cX12_score 26 = .ok (.aload_n 0, 1) := by decide +kernel
theorem dX12_score_27 : decode cX12_score 27 = .ok (.getfield 8, 3) := by decide +kernel
theorem dX12_score_30 : decode cX12_score 30 = .ok (.sipush 4909, 3) := by decide +kernel
theorem dX12_score_33 : decode cX12_score 33 = .ok (.iload_n 1, 1) := by decide +kernel
theorem dX12_score_34 : decode cX12_score 34 = .ok (.iadd, 1) := by decide +kernel
theorem dX12_score_35 : decode cX12_score 35 = .ok (.iaload, 1) := by decide +kernel
theorem dX12_score_36 : decode cX12_score 36 = .ok (.bipush 30, 2) := by decide +kernel
theorem dX12_score_38 : decode cX12_score 38 = .ok (.if_icmp .ne 5, 3) := by decide +kernel
theorem dX12_score_41 : decode cX12_score 41 = .ok (.iconst (-1), 1) := by decide +kernel
theorem dX12_score_42 : decode cX12_score 42 = .ok (.ireturn, 1) := by decide +kernel
theorem dX12_score_43 : decode cX12_score 43 = .ok (.aload_n 0, 1) := by decide +kernel
theorem dX12_score_44 : decode cX12_score 44 = .ok (.invokevirtual 144, 3) := by decide +kernel
theorem dX12_score_47 : decode cX12_score 47 = .ok (.sipush 4925, 3) := by decide +kernel
theorem dX12_score_50 : decode cX12_score 50 = .ok (.iconst 4, 1) := by decide +kernel
theorem dX12_score_51 : decode cX12_score 51 = .ok (.bipush 30, 2) := by decide +kernel
theorem dX12_score_53 : decode cX12_score 53 = .ok (.iload_n 1, 1) := by decide +kernel
theorem dX12_score_54 : decode cX12_score 54 = .ok (.imul, 1) := by decide +kernel
theorem dX12_score_55 : decode cX12_score 55 = .ok (.aload_n 0, 1) := by decide +kernel
theorem dX12_score_56 : decode cX12_score 56 = .ok (.getfield 8, 3) := by decide +kernel
theorem dX12_score_59 : decode cX12_score 59 = .ok (.sipush 4909, 3) := by decide +kernel
theorem dX12_score_62 : decode cX12_score 62 = .ok (.iload_n 1, 1) := by decide +kernel
theorem dX12_score_63 : decode cX12_score 63 = .ok (.iadd, 1) := by decide +kernel
theorem dX12_score_64 : decode cX12_score 64 = .ok (.iaload, 1) := by decide +kernel
theorem dX12_score_65 : decode cX12_score 65 = .ok (.iadd, 1) := by decide +kernel
theorem dX12_score_66 : decode cX12_score 66 = .ok (.imul, 1) := by decide +kernel
theorem dX12_score_67 : decode cX12_score 67 = .ok (.iadd, 1) := by decide +kernel
theorem dX12_score_68 : decode cX12_score 68 = .ok (.istore 4, 2) := by decide +kernel
theorem dX12_score_70 : decode cX12_score 70 = .ok (.aload_n 0, 1) := by decide +kernel
theorem dX12_score_71 : decode cX12_score 71 = .ok (.getfield 8, 3) := by decide +kernel
theorem dX12_score_74 : decode cX12_score 74 = .ok (.iload 4, 2) := by decide +kernel
theorem dX12_score_76 : decode cX12_score 76 = .ok (.iload_n 2, 1) := by decide +kernel
theorem dX12_score_77 : decode cX12_score 77 = .ok (.iastore, 1) := by decide +kernel
theorem dX12_score_78 : decode cX12_score 78 = .ok (.aload_n 0, 1) := by decide +kernel
theorem dX12_score_79 : decode cX12_score 79 = .ok (.getfield 8, 3) := by decide +kernel
theorem dX12_score_82 : decode cX12_score 82 = .ok (.iload 4, 2) := by decide +kernel
theorem dX12_score_84 : decode cX12_score 84 = .ok (.iconst 1, 1) := by decide +kernel
theorem dX12_score_85 : decode cX12_score 85 = .ok (.iadd, 1) := by decide +kernel
theorem dX12_score_86 : decode cX12_score 86 = .ok (.iload_n 3, 1) := by decide +kernel
theorem dX12_score_87 : decode cX12_score 87 = .ok (.iastore, 1) := by decide +kernel
theorem dX12_score_88 : decode cX12_score 88 = .ok (.aload_n 0, 1) := by decide +kernel
theorem dX12_score_89 : decode cX12_score 89 = .ok (.getfield 8, 3) := by decide +kernel
theorem dX12_score_92 : decode cX12_score 92 = .ok (.iload 4, 2) := by decide +kernel
theorem dX12_score_94 : decode cX12_score 94 = .ok (.iconst 2, 1) := by decide +kernel
theorem dX12_score_95 : decode cX12_score 95 = .ok (.iadd, 1) := by decide +kernel
theorem dX12_score_96 : decode cX12_score 96 = .ok (.aload_n 0, 1) := by decide +kernel
theorem dX12_score_97 : decode cX12_score 97 = .ok (.getfield 8, 3) := by decide +kernel
theorem dX12_score_100 : decode cX12_score 100 = .ok (.sipush 6897, 3) := by decide +kernel
theorem dX12_score_103 : decode cX12_score 103 = .ok (.iaload, 1) := by decide +kernel
theorem dX12_score_104 : decode cX12_score 104 = .ok (.iastore, 1) := by decide +kernel
theorem dX12_score_105 : decode cX12_score 105 = .ok (.aload_n 0, 1) := by decide +kernel
theorem dX12_score_106 : decode cX12_score 106 = .ok (.getfield 8, 3) := by decide +kernel
theorem dX12_score_109 : decode cX12_score 109 = .ok (.iload 4, 2) := by decide +kernel
theorem dX12_score_111 : decode cX12_score 111 = .ok (.iconst 3, 1) := by decide +kernel
theorem dX12_score_112 : decode cX12_score 112 = .ok (.iadd, 1) := by decide +kernel
theorem dX12_score_113 : decode cX12_score 113 = .ok (.iconst (-1), 1) := by decide +kernel
theorem dX12_score_114 : decode cX12_score 114 = .ok (.iastore, 1) := by decide +kernel
theorem dX12_score_115 : decode cX12_score 115 = .ok (.aload_n 0, 1) := by decide +kernel
theorem dX12_score_116 : decode cX12_score 116 = .ok (.getfield 8, 3) := by decide +kernel
theorem dX12_score_119 : decode cX12_score 119 = .ok (.sipush 4909, 3) := by decide +kernel
theorem dX12_score_122 : decode cX12_score 122 = .ok (.iload_n 1, 1) := by decide +kernel
theorem dX12_score_123 : decode cX12_score 123 = .ok (.iadd, 1) := by decide +kernel
theorem dX12_score_124 : decode cX12_score 124 = .ok (.dup2, 1) := by decide +kernel
theorem dX12_score_125 : decode cX12_score 125 = .ok (.iaload, 1) := by decide +kernel
theorem dX12_score_126 : decode cX12_score 126 = .ok (.iconst 1, 1) := by decide +kernel
theorem dX12_score_127 : decode cX12_score 127 = .ok (.iadd, 1) := by decide +kernel
theorem dX12_score_128 : decode cX12_score 128 = .ok (.iastore, 1) := by decide +kernel
theorem dX12_score_129 : decode cX12_score 129 = .ok (.aload_n 0, 1) := by decide +kernel
theorem dX12_score_130 : decode cX12_score 130 = .ok (.getfield 8, 3) := by decide +kernel
theorem dX12_score_133 : decode cX12_score 133 = .ok (.sipush 4909, 3) := by decide +kernel
theorem dX12_score_136 : decode cX12_score 136 = .ok (.iload_n 1, 1) := by decide +kernel
theorem dX12_score_137 : decode cX12_score 137 = .ok (.iadd, 1) := by decide +kernel
theorem dX12_score_138 : decode cX12_score 138 = .ok (.iaload, 1) := by decide +kernel
theorem dX12_score_139 : decode cX12_score 139 = .ok (.iconst 1, 1) := by decide +kernel
theorem dX12_score_140 : decode cX12_score 140 = .ok (.isub, 1) := by decide +kernel
theorem dX12_score_141 : decode cX12_score 141 = .ok (.ireturn, 1) := by decide +kernel
def f_X12_score (N : Nat) (l0 : Nat) (l1 : Int32) (l2 : Int32) (l3 : Int32) (h : zH) : Option (Int32 × zH) := (zck h 12 (some l0)).bind fun q1 => (f_X12_isArcher N q1 l1 h).bind fun x1 => if x1 = 0 then some (((-1) : Int32), h) else (f_X12_isDay N l2 h).bind fun x2 => if x2 = 0 then some (((-1) : Int32), h) else if l3 < 0 then some (((-1) : Int32), h) else if (2000 : Int32) < l3 then some (((-1) : Int32), h) else (zgR h 12 (some l0) 0).bind fun x3 => (zld h 0 x3 ((4909 : Int32) + l1)).bind fun x4 => if x4 = (30 : Int32) then some (((-1) : Int32), h) else (zck h 12 (some l0)).bind fun q2 => (f_X12_keeps N q2 h).bind fun h1 => (zgR h1 12 (some l0) 0).bind fun x5 => (zld h1 0 x5 ((4909 : Int32) + l1)).bind fun x6 => (zgR h1 12 (some l0) 0).bind fun x7 => (zst h1 0 x7 ((4925 : Int32) + ((4 : Int32) * (((30 : Int32) * l1) + x6))) l2).bind fun h2 => (zgR h2 12 (some l0) 0).bind fun x8 => (zst h2 0 x8 (((4925 : Int32) + ((4 : Int32) * (((30 : Int32) * l1) + x6))) + (1 : Int32)) l3).bind fun h3 => (zgR h3 12 (some l0) 0).bind fun x9 => (zgR h3 12 (some l0) 0).bind fun x10 => (zld h3 0 x10 (6897 : Int32)).bind fun x11 => (zst h3 0 x9 (((4925 : Int32) + ((4 : Int32) * (((30 : Int32) * l1) + x6))) + (2 : Int32)) x11).bind fun h4 => (zgR h4 12 (some l0) 0).bind fun x12 => (zst h4 0 x12 (((4925 : Int32) + ((4 : Int32) * (((30 : Int32) * l1) + x6))) + (3 : Int32)) ((-1) : Int32)).bind fun h5 => (zgR h5 12 (some l0) 0).bind fun x13 => (zld h5 0 x13 ((4909 : Int32) + l1)).bind fun x14 => (zst h5 0 x13 ((4909 : Int32) + l1) (x14 + (1 : Int32))).bind fun h6 => (zgR h6 12 (some l0) 0).bind fun x15 => (zld h6 0 x15 ((4909 : Int32) + l1)).bind fun x16 => some ((x16 - (1 : Int32)), h6)
set_option maxHeartbeats 4000000 in
set_option maxRecDepth 100000 in
theorem s_X12_score {g : zG} (hg : g.2.1.map (fun q => q.2) = zty) {h0 : zH} (N : Nat) (l0 : Nat) (l1 : Int32) (l2 : Int32) (l3 : Int32) (h : zH) (r : Int32) (h' : zH) (hf : f_X12_score N l0 l1 l2 l3 h = some (r, h')) : zR g jX12_score h0 0 [some (zr (some l0)), some (zi l1), some (zi l2), some (zi l3), none] [] h (some (zi r)) h' := by
  unfold f_X12_score at hf
  refine zr_aload_n (v := .inl (some l0)) dX12_score_0 rfl rfl ?_
  refine zr_iload_n (x := l1) dX12_score_1 rfl rfl ?_
  revert hf; refine zbi (fun q1 e_q1 hf => ?_)
  revert hf; refine zbi (fun x1 e_x1 hf => ?_)
  refine zq_callV (J' := jX12_isArcher) (as := [zi l1]) (rest := []) (r1 := (some (zi x1))) (q := (RX12, TX12, 31)) kw_682 km_X12_isArcher kt_643 dX12_score_2 rfl (Nat.le_of_ble_eq_true rfl) rfl rfl e_q1 rfl (c_X12_isArcher hg e_x1) ?_
  by_cases hc1 : x1 = 0
  · rw [if_pos hc1] at hf
    refine zr_ifeq_t (tgt := 41) dX12_score_5 (by decide) hc1 ?_
    refine zr_iconst (v := ((-1) : Int32)) dX12_score_41 (by decide) ?_
    cases hf
    exact zr_ret _ rfl dX12_score_42
  · rw [if_neg hc1] at hf
    refine zr_ifeq_f 41 dX12_score_5 (by decide) hc1 ?_
    refine zr_iload_n (x := l2) dX12_score_8 rfl rfl ?_
    revert hf; refine zbi (fun x2 e_x2 hf => ?_)
    refine zq_callS (J' := jX12_isDay) (as := [zi l2]) (rest := []) (r1 := (some (zi x2))) kw_731 km_X12_isDay kt_644 dX12_score_9 rfl (Nat.le_of_ble_eq_true rfl) rfl (c_X12_isDay hg e_x2) ?_
    by_cases hc2 : x2 = 0
    · rw [if_pos hc2] at hf
      refine zr_ifeq_t (tgt := 41) dX12_score_12 (by decide) hc2 ?_
      refine zr_iconst (v := ((-1) : Int32)) dX12_score_41 (by decide) ?_
      cases hf
      exact zr_ret _ rfl dX12_score_42
    · rw [if_neg hc2] at hf
      refine zr_ifeq_f 41 dX12_score_12 (by decide) hc2 ?_
      refine zr_iload_n (x := l3) dX12_score_15 rfl rfl ?_
      by_cases hc3 : l3 < 0
      · rw [if_pos hc3] at hf
        refine zr_iflt_t (tgt := 41) dX12_score_16 (by decide) hc3 ?_
        refine zr_iconst (v := ((-1) : Int32)) dX12_score_41 (by decide) ?_
        cases hf
        exact zr_ret _ rfl dX12_score_42
      · rw [if_neg hc3] at hf
        refine zr_iflt_f 41 dX12_score_16 (by decide) hc3 ?_
        refine zr_iload_n (x := l3) dX12_score_19 rfl rfl ?_
        refine zr_sipush (v := (2000 : Int32)) dX12_score_20 (by decide) ?_
        by_cases hc4 : (2000 : Int32) < l3
        · rw [if_pos hc4] at hf
          refine zr_icgt_t (tgt := 41) dX12_score_23 (by decide) hc4 ?_
          refine zr_iconst (v := ((-1) : Int32)) dX12_score_41 (by decide) ?_
          cases hf
          exact zr_ret _ rfl dX12_score_42
        · rw [if_neg hc4] at hf
          refine zr_icgt_f 41 dX12_score_23 (by decide) hc4 ?_
          refine zr_aload_n (v := .inl (some l0)) dX12_score_26 rfl rfl ?_
          revert hf; refine zbi (fun x3 e_x3 hf => ?_)
          refine zq_getR kg_490 dX12_score_27 e_x3 ?_
          refine zr_sipush (v := (4909 : Int32)) dX12_score_30 (by decide) ?_
          refine zr_iload_n (x := l1) dX12_score_33 rfl rfl ?_
          refine zr_iadd dX12_score_34 ?_
          revert hf; refine zbi (fun x4 e_x4 hf => ?_)
          refine zq_iald dX12_score_35 e_x4 ?_
          refine zr_bipush (v := (30 : Int32)) dX12_score_36 (by decide) ?_
          by_cases hc5 : x4 = (30 : Int32)
          · rw [if_pos hc5] at hf
            refine zr_icne_f 43 dX12_score_38 (by decide) hc5 ?_
            refine zr_iconst (v := ((-1) : Int32)) dX12_score_41 (by decide) ?_
            cases hf
            exact zr_ret _ rfl dX12_score_42
          · rw [if_neg hc5] at hf
            refine zr_icne_t (tgt := 43) dX12_score_38 (by decide) hc5 ?_
            refine zr_aload_n (v := .inl (some l0)) dX12_score_43 rfl rfl ?_
            revert hf; refine zbi (fun q2 e_q2 hf => ?_)
            revert hf; refine zbi (fun h1 e_h1 hf => ?_)
            refine zq_callV (J' := jX12_keeps) (as := []) (rest := []) (r1 := none) (q := (RX12, TX12, 31)) kw_674 km_X12_keeps kt_645 dX12_score_44 rfl (Nat.le_of_ble_eq_true rfl) rfl rfl e_q2 rfl (c_X12_keeps hg e_h1) ?_
            refine zr_sipush (v := (4925 : Int32)) dX12_score_47 (by decide) ?_
            refine zr_iconst (v := (4 : Int32)) dX12_score_50 (by decide) ?_
            refine zr_bipush (v := (30 : Int32)) dX12_score_51 (by decide) ?_
            refine zr_iload_n (x := l1) dX12_score_53 rfl rfl ?_
            refine zr_imul dX12_score_54 ?_
            refine zr_aload_n (v := .inl (some l0)) dX12_score_55 rfl rfl ?_
            revert hf; refine zbi (fun x5 e_x5 hf => ?_)
            refine zq_getR kg_490 dX12_score_56 e_x5 ?_
            refine zr_sipush (v := (4909 : Int32)) dX12_score_59 (by decide) ?_
            refine zr_iload_n (x := l1) dX12_score_62 rfl rfl ?_
            refine zr_iadd dX12_score_63 ?_
            revert hf; refine zbi (fun x6 e_x6 hf => ?_)
            refine zq_iald dX12_score_64 e_x6 ?_
            refine zr_iadd dX12_score_65 ?_
            refine zr_imul dX12_score_66 ?_
            refine zr_iadd dX12_score_67 ?_
            refine zq_istore (x := ((4925 : Int32) + ((4 : Int32) * (((30 : Int32) * l1) + x6)))) (L' := [some (zr (some l0)), some (zi l1), some (zi l2), some (zi l3), some (zi ((4925 : Int32) + ((4 : Int32) * (((30 : Int32) * l1) + x6))))]) dX12_score_68 (by decide) rfl ?_
            refine zr_aload_n (v := .inl (some l0)) dX12_score_70 rfl rfl ?_
            revert hf; refine zbi (fun x7 e_x7 hf => ?_)
            refine zq_getR kg_490 dX12_score_71 e_x7 ?_
            refine zr_iload (x := ((4925 : Int32) + ((4 : Int32) * (((30 : Int32) * l1) + x6)))) dX12_score_74 rfl ?_
            refine zr_iload_n (x := l2) dX12_score_76 rfl rfl ?_
            revert hf; refine zbi (fun h2 e_h2 hf => ?_)
            refine zq_iast dX12_score_77 e_h2 ?_
            refine zr_aload_n (v := .inl (some l0)) dX12_score_78 rfl rfl ?_
            revert hf; refine zbi (fun x8 e_x8 hf => ?_)
            refine zq_getR kg_490 dX12_score_79 e_x8 ?_
            refine zr_iload (x := ((4925 : Int32) + ((4 : Int32) * (((30 : Int32) * l1) + x6)))) dX12_score_82 rfl ?_
            refine zr_iconst (v := (1 : Int32)) dX12_score_84 (by decide) ?_
            refine zr_iadd dX12_score_85 ?_
            refine zr_iload_n (x := l3) dX12_score_86 rfl rfl ?_
            revert hf; refine zbi (fun h3 e_h3 hf => ?_)
            refine zq_iast dX12_score_87 e_h3 ?_
            refine zr_aload_n (v := .inl (some l0)) dX12_score_88 rfl rfl ?_
            revert hf; refine zbi (fun x9 e_x9 hf => ?_)
            refine zq_getR kg_490 dX12_score_89 e_x9 ?_
            refine zr_iload (x := ((4925 : Int32) + ((4 : Int32) * (((30 : Int32) * l1) + x6)))) dX12_score_92 rfl ?_
            refine zr_iconst (v := (2 : Int32)) dX12_score_94 (by decide) ?_
            refine zr_iadd dX12_score_95 ?_
            refine zr_aload_n (v := .inl (some l0)) dX12_score_96 rfl rfl ?_
            revert hf; refine zbi (fun x10 e_x10 hf => ?_)
            refine zq_getR kg_490 dX12_score_97 e_x10 ?_
            refine zr_sipush (v := (6897 : Int32)) dX12_score_100 (by decide) ?_
            revert hf; refine zbi (fun x11 e_x11 hf => ?_)
            refine zq_iald dX12_score_103 e_x11 ?_
            revert hf; refine zbi (fun h4 e_h4 hf => ?_)
            refine zq_iast dX12_score_104 e_h4 ?_
            refine zr_aload_n (v := .inl (some l0)) dX12_score_105 rfl rfl ?_
            revert hf; refine zbi (fun x12 e_x12 hf => ?_)
            refine zq_getR kg_490 dX12_score_106 e_x12 ?_
            refine zr_iload (x := ((4925 : Int32) + ((4 : Int32) * (((30 : Int32) * l1) + x6)))) dX12_score_109 rfl ?_
            refine zr_iconst (v := (3 : Int32)) dX12_score_111 (by decide) ?_
            refine zr_iadd dX12_score_112 ?_
            refine zr_iconst (v := ((-1) : Int32)) dX12_score_113 (by decide) ?_
            revert hf; refine zbi (fun h5 e_h5 hf => ?_)
            refine zq_iast dX12_score_114 e_h5 ?_
            refine zr_aload_n (v := .inl (some l0)) dX12_score_115 rfl rfl ?_
            revert hf; refine zbi (fun x13 e_x13 hf => ?_)
            refine zq_getR kg_490 dX12_score_116 e_x13 ?_
            refine zr_sipush (v := (4909 : Int32)) dX12_score_119 (by decide) ?_
            refine zr_iload_n (x := l1) dX12_score_122 rfl rfl ?_
            refine zr_iadd dX12_score_123 ?_
            refine zr_dup2 dX12_score_124 ?_
            revert hf; refine zbi (fun x14 e_x14 hf => ?_)
            refine zq_iald dX12_score_125 e_x14 ?_
            refine zr_iconst (v := (1 : Int32)) dX12_score_126 (by decide) ?_
            refine zr_iadd dX12_score_127 ?_
            revert hf; refine zbi (fun h6 e_h6 hf => ?_)
            refine zq_iast dX12_score_128 e_h6 ?_
            refine zr_aload_n (v := .inl (some l0)) dX12_score_129 rfl rfl ?_
            revert hf; refine zbi (fun x15 e_x15 hf => ?_)
            refine zq_getR kg_490 dX12_score_130 e_x15 ?_
            refine zr_sipush (v := (4909 : Int32)) dX12_score_133 (by decide) ?_
            refine zr_iload_n (x := l1) dX12_score_136 rfl rfl ?_
            refine zr_iadd dX12_score_137 ?_
            revert hf; refine zbi (fun x16 e_x16 hf => ?_)
            refine zq_iald dX12_score_138 e_x16 ?_
            refine zr_iconst (v := (1 : Int32)) dX12_score_139 (by decide) ?_
            refine zr_isub dX12_score_140 ?_
            cases hf
            exact zr_ret _ rfl dX12_score_141
theorem c_X12_score {g : zG} (hg : g.2.1.map (fun q => q.2) = zty) {N : Nat} {l0 : Nat} {l1 : Int32} {l2 : Int32} {l3 : Int32} {h : zH} {r : Int32} {h' : zH} (hf : f_X12_score N l0 l1 l2 l3 h = some (r, h')) : zCa g jX12_score [zr (some l0), zi l1, zi l2, zi l3] h (some (zi r)) h' :=
  zCa.of hg (by decide +kernel) (Nat.le_of_ble_eq_true rfl) (s_X12_score hg N l0 l1 l2 l3 h r h' hf)
theorem dX12_strike_0 : decode cX12_strike 0 = .ok (.aload_n 0, 1) := by decide +kernel
theorem dX12_strike_1 : decode cX12_strike 1 = .ok (.iload_n 1, 1) := by decide +kernel
theorem dX12_strike_2 : decode cX12_strike 2 = .ok (.invokevirtual 151, 3) := by decide +kernel
theorem dX12_strike_5 : decode cX12_strike 5 = .ok (.ifCond .eq 44, 3) := by decide +kernel
theorem dX12_strike_8 : decode cX12_strike 8 = .ok (.iload_n 2, 1) := by decide +kernel
theorem dX12_strike_9 : decode cX12_strike 9 = .ok (.ifCond .lt 40, 3) := by decide +kernel
theorem dX12_strike_12 : decode cX12_strike 12 = .ok (.iload_n 2, 1) := by decide +kernel
theorem dX12_strike_13 : decode cX12_strike 13 = .ok (.aload_n 0, 1) := by decide +kernel
theorem dX12_strike_14 : decode cX12_strike 14 = .ok (.getfield 8, 3) := by decide +kernel
theorem dX12_strike_17 : decode cX12_strike 17 = .ok (.sipush 4909, 3) := by decide +kernel
theorem dX12_strike_20 : decode cX12_strike 20 = .ok (.iload_n 1, 1) := by decide +kernel
theorem dX12_strike_21 : decode cX12_strike 21 = .ok (.iadd, 1) := by decide +kernel
theorem dX12_strike_22 : decode cX12_strike 22 = .ok (.iaload, 1) := by decide +kernel
theorem dX12_strike_23 : decode cX12_strike 23 = .ok (.if_icmp .ge 26, 3) := by decide +kernel
theorem dX12_strike_26 : decode cX12_strike 26 = .ok (.aload_n 0, 1) := by decide +kernel
theorem dX12_strike_27 : decode cX12_strike 27 = .ok (.getfield 8, 3) := by decide +kernel
theorem dX12_strike_30 : decode cX12_strike 30 = .ok (.sipush 4925, 3) := by decide +kernel
theorem dX12_strike_33 : decode cX12_strike 33 = .ok (.iconst 4, 1) := by decide +kernel
theorem dX12_strike_34 : decode cX12_strike 34 = .ok (.bipush 30, 2) := by decide +kernel
theorem dX12_strike_36 : decode cX12_strike 36 = .ok (.iload_n 1, 1) := by decide +kernel
theorem dX12_strike_37 : decode cX12_strike 37 = .ok (.imul, 1) := by decide +kernel
theorem dX12_strike_38 : decode cX12_strike 38 = .ok (.iload_n 2, 1) := by decide +kernel
theorem dX12_strike_39 : decode cX12_strike 39 = .ok (.iadd, 1) := by decide +kernel
theorem dX12_strike_40 : decode cX12_strike 40 = .ok (.imul, 1) := by decide +kernel
theorem dX12_strike_41 : decode cX12_strike 41 = .ok (.iadd, 1) := by decide +kernel
theorem dX12_strike_42 : decode cX12_strike 42 = .ok (.iconst 3, 1) := by decide +kernel
theorem dX12_strike_43 : decode cX12_strike 43 = .ok (.iadd, 1) := by decide +kernel
theorem dX12_strike_44 : decode cX12_strike 44 = .ok (.iaload, 1) := by decide +kernel
theorem dX12_strike_45 : decode cX12_strike 45 = .ok (.iconst (-1), 1) := by decide +kernel
theorem dX12_strike_46 : decode cX12_strike 46 = .ok (.if_icmp .eq 5, 3) := by decide +kernel
theorem dX12_strike_49 : decode cX12_strike 49 = .ok (.iconst 0, 1) := by decide +kernel
theorem dX12_strike_50 : decode cX12_strike 50 = .ok (.ireturn, 1) := by decide +kernel
theorem dX12_strike_51 : decode cX12_strike 51 = .ok (.aload_n 0, 1) := by decide +kernel
theorem dX12_strike_52 : decode cX12_strike 52 = .ok (.invokevirtual 144, 3) := by decide +kernel
theorem dX12_strike_55 : decode cX12_strike 55 = .ok (.aload_n 0, 1) := by decide +kernel
theorem dX12_strike_56 : decode cX12_strike 56 = .ok (.getfield 8, 3) := by decide +kernel
theorem dX12_strike_59 : decode cX12_strike 59 = .ok (.sipush 4925, 3) := by decide +kernel
theorem dX12_strike_62 : decode cX12_strike 62 = .ok (.iconst 4, 1) := by decide +kernel
theorem dX12_strike_63 : decode cX12_strike 63 = .ok (.bipush 30, 2) := by decide +kernel
theorem dX12_strike_65 : decode cX12_strike 65 = .ok (.iload_n 1, 1) := by decide +kernel
theorem dX12_strike_66 : decode cX12_strike 66 = .ok (.imul, 1) := by decide +kernel
theorem dX12_strike_67 : decode cX12_strike 67 = .ok (.iload_n 2, 1) := by decide +kernel
theorem dX12_strike_68 : decode cX12_strike 68 = .ok (.iadd, 1) := by decide +kernel
theorem dX12_strike_69 : decode cX12_strike 69 = .ok (.imul, 1) := by decide +kernel
theorem dX12_strike_70 : decode cX12_strike 70 = .ok (.iadd, 1) := by decide +kernel
theorem dX12_strike_71 : decode cX12_strike 71 = .ok (.iconst 3, 1) := by decide +kernel
theorem dX12_strike_72 : decode cX12_strike 72 = .ok (.iadd, 1) := by decide +kernel
theorem dX12_strike_73 : decode cX12_strike 73 = .ok (.aload_n 0, 1) := by decide +kernel
theorem dX12_strike_74 : decode cX12_strike 74 = .ok (.getfield 8, 3) := by decide +kernel
theorem dX12_strike_77 : decode cX12_strike 77 = .ok (.sipush 6897, 3) := by decide +kernel
theorem dX12_strike_80 : decode cX12_strike 80 = .ok (.iaload, 1) := by decide +kernel
theorem dX12_strike_81 : decode cX12_strike 81 = .ok (.iastore, 1) := by decide +kernel
theorem dX12_strike_82 : decode cX12_strike 82 = .ok (.iconst 1, 1) := by decide +kernel
theorem dX12_strike_83 : decode cX12_strike 83 = .ok (.ireturn, 1) := by decide +kernel
def f_X12_strike (N : Nat) (l0 : Nat) (l1 : Int32) (l2 : Int32) (h : zH) : Option (Int32 × zH) := (zck h 12 (some l0)).bind fun q1 => (f_X12_isArcher N q1 l1 h).bind fun x1 => if x1 = 0 then some ((0 : Int32), h) else if l2 < 0 then some ((0 : Int32), h) else (zgR h 12 (some l0) 0).bind fun x2 => (zld h 0 x2 ((4909 : Int32) + l1)).bind fun x3 => if x3 ≤ l2 then some ((0 : Int32), h) else (zgR h 12 (some l0) 0).bind fun x4 => (zld h 0 x4 (((4925 : Int32) + ((4 : Int32) * (((30 : Int32) * l1) + l2))) + (3 : Int32))).bind fun x5 => if x5 = ((-1) : Int32) then (zck h 12 (some l0)).bind fun q2 => (f_X12_keeps N q2 h).bind fun h1 => (zgR h1 12 (some l0) 0).bind fun x6 => (zgR h1 12 (some l0) 0).bind fun x7 => (zld h1 0 x7 (6897 : Int32)).bind fun x8 => (zst h1 0 x6 (((4925 : Int32) + ((4 : Int32) * (((30 : Int32) * l1) + l2))) + (3 : Int32)) x8).bind fun h2 => some ((1 : Int32), h2) else some ((0 : Int32), h)
set_option maxHeartbeats 4000000 in
set_option maxRecDepth 100000 in
theorem s_X12_strike {g : zG} (hg : g.2.1.map (fun q => q.2) = zty) {h0 : zH} (N : Nat) (l0 : Nat) (l1 : Int32) (l2 : Int32) (h : zH) (r : Int32) (h' : zH) (hf : f_X12_strike N l0 l1 l2 h = some (r, h')) : zR g jX12_strike h0 0 [some (zr (some l0)), some (zi l1), some (zi l2)] [] h (some (zi r)) h' := by
  unfold f_X12_strike at hf
  refine zr_aload_n (v := .inl (some l0)) dX12_strike_0 rfl rfl ?_
  refine zr_iload_n (x := l1) dX12_strike_1 rfl rfl ?_
  revert hf; refine zbi (fun q1 e_q1 hf => ?_)
  revert hf; refine zbi (fun x1 e_x1 hf => ?_)
  refine zq_callV (J' := jX12_isArcher) (as := [zi l1]) (rest := []) (r1 := (some (zi x1))) (q := (RX12, TX12, 31)) kw_682 km_X12_isArcher kt_646 dX12_strike_2 rfl (Nat.le_of_ble_eq_true rfl) rfl rfl e_q1 rfl (c_X12_isArcher hg e_x1) ?_
  by_cases hc1 : x1 = 0
  · rw [if_pos hc1] at hf
    refine zr_ifeq_t (tgt := 49) dX12_strike_5 (by decide) hc1 ?_
    refine zr_iconst (v := (0 : Int32)) dX12_strike_49 (by decide) ?_
    cases hf
    exact zr_ret _ rfl dX12_strike_50
  · rw [if_neg hc1] at hf
    refine zr_ifeq_f 49 dX12_strike_5 (by decide) hc1 ?_
    refine zr_iload_n (x := l2) dX12_strike_8 rfl rfl ?_
    by_cases hc2 : l2 < 0
    · rw [if_pos hc2] at hf
      refine zr_iflt_t (tgt := 49) dX12_strike_9 (by decide) hc2 ?_
      refine zr_iconst (v := (0 : Int32)) dX12_strike_49 (by decide) ?_
      cases hf
      exact zr_ret _ rfl dX12_strike_50
    · rw [if_neg hc2] at hf
      refine zr_iflt_f 49 dX12_strike_9 (by decide) hc2 ?_
      refine zr_iload_n (x := l2) dX12_strike_12 rfl rfl ?_
      refine zr_aload_n (v := .inl (some l0)) dX12_strike_13 rfl rfl ?_
      revert hf; refine zbi (fun x2 e_x2 hf => ?_)
      refine zq_getR kg_490 dX12_strike_14 e_x2 ?_
      refine zr_sipush (v := (4909 : Int32)) dX12_strike_17 (by decide) ?_
      refine zr_iload_n (x := l1) dX12_strike_20 rfl rfl ?_
      refine zr_iadd dX12_strike_21 ?_
      revert hf; refine zbi (fun x3 e_x3 hf => ?_)
      refine zq_iald dX12_strike_22 e_x3 ?_
      by_cases hc3 : x3 ≤ l2
      · rw [if_pos hc3] at hf
        refine zr_icge_t (tgt := 49) dX12_strike_23 (by decide) hc3 ?_
        refine zr_iconst (v := (0 : Int32)) dX12_strike_49 (by decide) ?_
        cases hf
        exact zr_ret _ rfl dX12_strike_50
      · rw [if_neg hc3] at hf
        refine zr_icge_f 49 dX12_strike_23 (by decide) hc3 ?_
        refine zr_aload_n (v := .inl (some l0)) dX12_strike_26 rfl rfl ?_
        revert hf; refine zbi (fun x4 e_x4 hf => ?_)
        refine zq_getR kg_490 dX12_strike_27 e_x4 ?_
        refine zr_sipush (v := (4925 : Int32)) dX12_strike_30 (by decide) ?_
        refine zr_iconst (v := (4 : Int32)) dX12_strike_33 (by decide) ?_
        refine zr_bipush (v := (30 : Int32)) dX12_strike_34 (by decide) ?_
        refine zr_iload_n (x := l1) dX12_strike_36 rfl rfl ?_
        refine zr_imul dX12_strike_37 ?_
        refine zr_iload_n (x := l2) dX12_strike_38 rfl rfl ?_
        refine zr_iadd dX12_strike_39 ?_
        refine zr_imul dX12_strike_40 ?_
        refine zr_iadd dX12_strike_41 ?_
        refine zr_iconst (v := (3 : Int32)) dX12_strike_42 (by decide) ?_
        refine zr_iadd dX12_strike_43 ?_
        revert hf; refine zbi (fun x5 e_x5 hf => ?_)
        refine zq_iald dX12_strike_44 e_x5 ?_
        refine zr_iconst (v := ((-1) : Int32)) dX12_strike_45 (by decide) ?_
        by_cases hc4 : x5 = ((-1) : Int32)
        · rw [if_pos hc4] at hf
          refine zr_iceq_t (tgt := 51) dX12_strike_46 (by decide) hc4 ?_
          refine zr_aload_n (v := .inl (some l0)) dX12_strike_51 rfl rfl ?_
          revert hf; refine zbi (fun q2 e_q2 hf => ?_)
          revert hf; refine zbi (fun h1 e_h1 hf => ?_)
          refine zq_callV (J' := jX12_keeps) (as := []) (rest := []) (r1 := none) (q := (RX12, TX12, 31)) kw_674 km_X12_keeps kt_647 dX12_strike_52 rfl (Nat.le_of_ble_eq_true rfl) rfl rfl e_q2 rfl (c_X12_keeps hg e_h1) ?_
          refine zr_aload_n (v := .inl (some l0)) dX12_strike_55 rfl rfl ?_
          revert hf; refine zbi (fun x6 e_x6 hf => ?_)
          refine zq_getR kg_490 dX12_strike_56 e_x6 ?_
          refine zr_sipush (v := (4925 : Int32)) dX12_strike_59 (by decide) ?_
          refine zr_iconst (v := (4 : Int32)) dX12_strike_62 (by decide) ?_
          refine zr_bipush (v := (30 : Int32)) dX12_strike_63 (by decide) ?_
          refine zr_iload_n (x := l1) dX12_strike_65 rfl rfl ?_
          refine zr_imul dX12_strike_66 ?_
          refine zr_iload_n (x := l2) dX12_strike_67 rfl rfl ?_
          refine zr_iadd dX12_strike_68 ?_
          refine zr_imul dX12_strike_69 ?_
          refine zr_iadd dX12_strike_70 ?_
          refine zr_iconst (v := (3 : Int32)) dX12_strike_71 (by decide) ?_
          refine zr_iadd dX12_strike_72 ?_
          refine zr_aload_n (v := .inl (some l0)) dX12_strike_73 rfl rfl ?_
          revert hf; refine zbi (fun x7 e_x7 hf => ?_)
          refine zq_getR kg_490 dX12_strike_74 e_x7 ?_
          refine zr_sipush (v := (6897 : Int32)) dX12_strike_77 (by decide) ?_
          revert hf; refine zbi (fun x8 e_x8 hf => ?_)
          refine zq_iald dX12_strike_80 e_x8 ?_
          revert hf; refine zbi (fun h2 e_h2 hf => ?_)
          refine zq_iast dX12_strike_81 e_h2 ?_
          refine zr_iconst (v := (1 : Int32)) dX12_strike_82 (by decide) ?_
          cases hf
          exact zr_ret _ rfl dX12_strike_83
        · rw [if_neg hc4] at hf
          refine zr_iceq_f 51 dX12_strike_46 (by decide) hc4 ?_
          refine zr_iconst (v := (0 : Int32)) dX12_strike_49 (by decide) ?_
          cases hf
          exact zr_ret _ rfl dX12_strike_50
theorem c_X12_strike {g : zG} (hg : g.2.1.map (fun q => q.2) = zty) {N : Nat} {l0 : Nat} {l1 : Int32} {l2 : Int32} {h : zH} {r : Int32} {h' : zH} (hf : f_X12_strike N l0 l1 l2 h = some (r, h')) : zCa g jX12_strike [zr (some l0), zi l1, zi l2] h (some (zi r)) h' :=
  zCa.of hg (by decide +kernel) (Nat.le_of_ble_eq_true rfl) (s_X12_strike hg N l0 l1 l2 h r h' hf)
theorem dX12_law_0 : decode cX12_law 0 = .ok (.iload_n 1, 1) := by decide +kernel
theorem dX12_law_1 : decode cX12_law 1 = .ok (.iconst 1, 1) := by decide +kernel
theorem dX12_law_2 : decode cX12_law 2 = .ok (.if_icmp .lt 43, 3) := by decide +kernel
theorem dX12_law_5 : decode cX12_law 5 = .ok (.iload_n 1, 1) := by decide +kernel
theorem dX12_law_6 : decode cX12_law 6 = .ok (.bipush 9, 2) := by decide +kernel
theorem dX12_law_8 : decode cX12_law 8 = .ok (.if_icmp .gt 37, 3) := by decide +kernel
theorem dX12_law_11 : decode cX12_law 11 = .ok (.iload_n 2, 1) := by decide +kernel
theorem dX12_law_12 : decode cX12_law 12 = .ok (.iconst 1, 1) := by decide +kernel
theorem dX12_law_13 : decode cX12_law 13 = .ok (.if_icmp .lt 32, 3) := by decide +kernel
theorem dX12_law_16 : decode cX12_law 16 = .ok (.iload_n 2, 1) := by decide +kernel
theorem dX12_law_17 : decode cX12_law 17 = .ok (.iconst 5, 1) := by decide +kernel
theorem dX12_law_18 : decode cX12_law 18 = .ok (.if_icmp .gt 27, 3) := by decide +kernel
theorem dX12_law_21 : decode cX12_law 21 = .ok (.iload_n 3, 1) := by decide +kernel
theorem dX12_law_22 : decode cX12_law 22 = .ok (.ifCond .lt 23, 3) := by decide +kernel
theorem dX12_law_25 : decode cX12_law 25 = .ok (.iload_n 3, 1) := by decide +kernel
theorem dX12_law_26 : decode cX12_law 26 = .ok (.sipush 2000, 3) := by decide +kernel
theorem dX12_law_29 : decode cX12_law 29 = .ok (.if_icmp .gt 16, 3) := by decide +kernel
theorem dX12_law_32 : decode cX12_law 32 = .ok (.aload_n 0, 1) := by decide +kernel
theorem dX12_law_33 : decode cX12_law 33 = .ok (.getfield 8, 3) := by decide +kernel
theorem dX12_law_36 : decode cX12_law 36 = .ok (.sipush 6845, 3) := by decide +kernel
theorem dX12_law_39 : decode cX12_law 39 = .ok (.iaload, 1) := by decide +kernel
theorem dX12_law_40 : decode cX12_law 40 = .ok (.bipush 6, 2) := by decide +kernel
theorem dX12_law_42 : decode cX12_law 42 = .ok (.if_icmp .ne 5, 3) := by decide +kernel
theorem dX12_law_45 : decode cX12_law 45 = .ok (.iconst (-1), 1) := by decide +kernel
theorem dX12_law_46 : decode cX12_law 46 = .ok (.ireturn, 1) := by decide +kernel
theorem dX12_law_47 : decode cX12_law 47 = .ok (.aload_n 0, 1) := by decide +kernel
theorem dX12_law_48 : decode cX12_law 48 = .ok (.invokevirtual 144, 3) := by decide +kernel
theorem dX12_law_51 : decode cX12_law 51 = .ok (.aload_n 0, 1) := by decide +kernel
theorem dX12_law_52 : decode cX12_law 52 = .ok (.getfield 8, 3) := by decide +kernel
theorem dX12_law_55 : decode cX12_law 55 = .ok (.sipush 6846, 3) := by decide +kernel
theorem dX12_law_58 : decode cX12_law 58 = .ok (.iconst 3, 1) := by decide +kernel
theorem dX12_law_59 : decode cX12_law 59 = .ok (.aload_n 0, 1) := by decide +kernel
theorem dX12_law_60 : decode cX12_law 60 = .ok (.getfield 8, 3) := by decide +kernel
theorem dX12_law_63 : decode cX12_law 63 = .ok (.sipush 6845, 3) := by decide +kernel
theorem dX12_law_66 : decode cX12_law 66 = .ok (.iaload, 1) := by decide +kernel
theorem dX12_law_67 : decode cX12_law 67 = .ok (.imul, 1) := by decide +kernel
theorem dX12_law_68 : decode cX12_law 68 = .ok (.iadd, 1) := by decide +kernel
theorem dX12_law_69 : decode cX12_law 69 = .ok (.iload_n 1, 1) := by decide +kernel
theorem dX12_law_70 : decode cX12_law 70 = .ok (.iastore, 1) := by decide +kernel
theorem dX12_law_71 : decode cX12_law 71 = .ok (.aload_n 0, 1) := by decide +kernel
theorem dX12_law_72 : decode cX12_law 72 = .ok (.getfield 8, 3) := by decide +kernel
theorem dX12_law_75 : decode cX12_law 75 = .ok (.sipush 6846, 3) := by decide +kernel
theorem dX12_law_78 : decode cX12_law 78 = .ok (.iconst 3, 1) := by decide +kernel
theorem dX12_law_79 : decode cX12_law 79 = .ok (.aload_n 0, 1) := by decide +kernel
theorem dX12_law_80 : decode cX12_law 80 = .ok (.getfield 8, 3) := by decide +kernel
theorem dX12_law_83 : decode cX12_law 83 = .ok (.sipush 6845, 3) := by decide +kernel
theorem dX12_law_86 : decode cX12_law 86 = .ok (.iaload, 1) := by decide +kernel
theorem dX12_law_87 : decode cX12_law 87 = .ok (.imul, 1) := by decide +kernel
theorem dX12_law_88 : decode cX12_law 88 = .ok (.iadd, 1) := by decide +kernel
theorem dX12_law_89 : decode cX12_law 89 = .ok (.iconst 1, 1) := by decide +kernel
theorem dX12_law_90 : decode cX12_law 90 = .ok (.iadd, 1) := by decide +kernel
theorem dX12_law_91 : decode cX12_law 91 = .ok (.iload_n 2, 1) := by decide +kernel
theorem dX12_law_92 : decode cX12_law 92 = .ok (.iastore, 1) := by decide +kernel
theorem dX12_law_93 : decode cX12_law 93 = .ok (.aload_n 0, 1) := by decide +kernel
theorem dX12_law_94 : decode cX12_law 94 = .ok (.getfield 8, 3) := by decide +kernel
theorem dX12_law_97 : decode cX12_law 97 = .ok (.sipush 6846, 3) := by decide +kernel
theorem dX12_law_100 : decode cX12_law 100 = .ok (.iconst 3, 1) := by decide +kernel
theorem dX12_law_101 : decode cX12_law 101 = .ok (.aload_n 0, 1) := by decide +kernel
theorem dX12_law_102 : decode cX12_law 102 = .ok (.getfield 8, 3) := by decide +kernel
theorem dX12_law_105 : decode cX12_law 105 = .ok (.sipush 6845, 3) := by decide +kernel
theorem dX12_law_108 : decode cX12_law 108 = .ok (.iaload, 1) := by decide +kernel
theorem dX12_law_109 : decode cX12_law 109 = .ok (.imul, 1) := by decide +kernel
theorem dX12_law_110 : decode cX12_law 110 = .ok (.iadd, 1) := by decide +kernel
theorem dX12_law_111 : decode cX12_law 111 = .ok (.iconst 2, 1) := by decide +kernel
theorem dX12_law_112 : decode cX12_law 112 = .ok (.iadd, 1) := by decide +kernel
theorem dX12_law_113 : decode cX12_law 113 = .ok (.iload_n 3, 1) := by decide +kernel
theorem dX12_law_114 : decode cX12_law 114 = .ok (.iastore, 1) := by decide +kernel
theorem dX12_law_115 : decode cX12_law 115 = .ok (.aload_n 0, 1) := by decide +kernel
theorem dX12_law_116 : decode cX12_law 116 = .ok (.getfield 8, 3) := by decide +kernel
theorem dX12_law_119 : decode cX12_law 119 = .ok (.sipush 6845, 3) := by decide +kernel
theorem dX12_law_122 : decode cX12_law 122 = .ok (.dup2, 1) := by decide +kernel
theorem dX12_law_123 : decode cX12_law 123 = .ok (.iaload, 1) := by decide +kernel
theorem dX12_law_124 : decode cX12_law 124 = .ok (.iconst 1, 1) := by decide +kernel
theorem dX12_law_125 : decode cX12_law 125 = .ok (.iadd, 1) := by decide +kernel
theorem dX12_law_126 : decode cX12_law 126 = .ok (.iastore, 1) := by decide +kernel
theorem dX12_law_127 : decode cX12_law 127 = .ok (.aload_n 0, 1) := by decide +kernel
theorem dX12_law_128 : decode cX12_law 128 = .ok (.getfield 8, 3) := by decide +kernel
theorem dX12_law_131 : decode cX12_law 131 = .ok (.sipush 6845, 3) := by decide +kernel
theorem dX12_law_134 : decode cX12_law 134 = .ok (.iaload, 1) := by decide +kernel
theorem dX12_law_135 : decode cX12_law 135 = .ok (.ireturn, 1) := by decide +kernel
def f_X12_law (N : Nat) (l0 : Nat) (l1 : Int32) (l2 : Int32) (l3 : Int32) (h : zH) : Option (Int32 × zH) := if l1 < (1 : Int32) then some (((-1) : Int32), h) else if (9 : Int32) < l1 then some (((-1) : Int32), h) else if l2 < (1 : Int32) then some (((-1) : Int32), h) else if (5 : Int32) < l2 then some (((-1) : Int32), h) else if l3 < 0 then some (((-1) : Int32), h) else if (2000 : Int32) < l3 then some (((-1) : Int32), h) else (zgR h 12 (some l0) 0).bind fun x1 => (zld h 0 x1 (6845 : Int32)).bind fun x2 => if x2 = (6 : Int32) then some (((-1) : Int32), h) else (zck h 12 (some l0)).bind fun q1 => (f_X12_keeps N q1 h).bind fun h1 => (zgR h1 12 (some l0) 0).bind fun x3 => (zgR h1 12 (some l0) 0).bind fun x4 => (zld h1 0 x4 (6845 : Int32)).bind fun x5 => (zst h1 0 x3 ((6846 : Int32) + ((3 : Int32) * x5)) l1).bind fun h2 => (zgR h2 12 (some l0) 0).bind fun x6 => (zgR h2 12 (some l0) 0).bind fun x7 => (zld h2 0 x7 (6845 : Int32)).bind fun x8 => (zst h2 0 x6 (((6846 : Int32) + ((3 : Int32) * x8)) + (1 : Int32)) l2).bind fun h3 => (zgR h3 12 (some l0) 0).bind fun x9 => (zgR h3 12 (some l0) 0).bind fun x10 => (zld h3 0 x10 (6845 : Int32)).bind fun x11 => (zst h3 0 x9 (((6846 : Int32) + ((3 : Int32) * x11)) + (2 : Int32)) l3).bind fun h4 => (zgR h4 12 (some l0) 0).bind fun x12 => (zld h4 0 x12 (6845 : Int32)).bind fun x13 => (zst h4 0 x12 (6845 : Int32) (x13 + (1 : Int32))).bind fun h5 => (zgR h5 12 (some l0) 0).bind fun x14 => (zld h5 0 x14 (6845 : Int32)).bind fun x15 => some (x15, h5)
set_option maxHeartbeats 4000000 in
set_option maxRecDepth 100000 in
theorem s_X12_law {g : zG} (hg : g.2.1.map (fun q => q.2) = zty) {h0 : zH} (N : Nat) (l0 : Nat) (l1 : Int32) (l2 : Int32) (l3 : Int32) (h : zH) (r : Int32) (h' : zH) (hf : f_X12_law N l0 l1 l2 l3 h = some (r, h')) : zR g jX12_law h0 0 [some (zr (some l0)), some (zi l1), some (zi l2), some (zi l3)] [] h (some (zi r)) h' := by
  unfold f_X12_law at hf
  refine zr_iload_n (x := l1) dX12_law_0 rfl rfl ?_
  refine zr_iconst (v := (1 : Int32)) dX12_law_1 (by decide) ?_
  by_cases hc1 : l1 < (1 : Int32)
  · rw [if_pos hc1] at hf
    refine zr_iclt_t (tgt := 45) dX12_law_2 (by decide) hc1 ?_
    refine zr_iconst (v := ((-1) : Int32)) dX12_law_45 (by decide) ?_
    cases hf
    exact zr_ret _ rfl dX12_law_46
  · rw [if_neg hc1] at hf
    refine zr_iclt_f 45 dX12_law_2 (by decide) hc1 ?_
    refine zr_iload_n (x := l1) dX12_law_5 rfl rfl ?_
    refine zr_bipush (v := (9 : Int32)) dX12_law_6 (by decide) ?_
    by_cases hc2 : (9 : Int32) < l1
    · rw [if_pos hc2] at hf
      refine zr_icgt_t (tgt := 45) dX12_law_8 (by decide) hc2 ?_
      refine zr_iconst (v := ((-1) : Int32)) dX12_law_45 (by decide) ?_
      cases hf
      exact zr_ret _ rfl dX12_law_46
    · rw [if_neg hc2] at hf
      refine zr_icgt_f 45 dX12_law_8 (by decide) hc2 ?_
      refine zr_iload_n (x := l2) dX12_law_11 rfl rfl ?_
      refine zr_iconst (v := (1 : Int32)) dX12_law_12 (by decide) ?_
      by_cases hc3 : l2 < (1 : Int32)
      · rw [if_pos hc3] at hf
        refine zr_iclt_t (tgt := 45) dX12_law_13 (by decide) hc3 ?_
        refine zr_iconst (v := ((-1) : Int32)) dX12_law_45 (by decide) ?_
        cases hf
        exact zr_ret _ rfl dX12_law_46
      · rw [if_neg hc3] at hf
        refine zr_iclt_f 45 dX12_law_13 (by decide) hc3 ?_
        refine zr_iload_n (x := l2) dX12_law_16 rfl rfl ?_
        refine zr_iconst (v := (5 : Int32)) dX12_law_17 (by decide) ?_
        by_cases hc4 : (5 : Int32) < l2
        · rw [if_pos hc4] at hf
          refine zr_icgt_t (tgt := 45) dX12_law_18 (by decide) hc4 ?_
          refine zr_iconst (v := ((-1) : Int32)) dX12_law_45 (by decide) ?_
          cases hf
          exact zr_ret _ rfl dX12_law_46
        · rw [if_neg hc4] at hf
          refine zr_icgt_f 45 dX12_law_18 (by decide) hc4 ?_
          refine zr_iload_n (x := l3) dX12_law_21 rfl rfl ?_
          by_cases hc5 : l3 < 0
          · rw [if_pos hc5] at hf
            refine zr_iflt_t (tgt := 45) dX12_law_22 (by decide) hc5 ?_
            refine zr_iconst (v := ((-1) : Int32)) dX12_law_45 (by decide) ?_
            cases hf
            exact zr_ret _ rfl dX12_law_46
          · rw [if_neg hc5] at hf
            refine zr_iflt_f 45 dX12_law_22 (by decide) hc5 ?_
            refine zr_iload_n (x := l3) dX12_law_25 rfl rfl ?_
            refine zr_sipush (v := (2000 : Int32)) dX12_law_26 (by decide) ?_
            by_cases hc6 : (2000 : Int32) < l3
            · rw [if_pos hc6] at hf
              refine zr_icgt_t (tgt := 45) dX12_law_29 (by decide) hc6 ?_
              refine zr_iconst (v := ((-1) : Int32)) dX12_law_45 (by decide) ?_
              cases hf
              exact zr_ret _ rfl dX12_law_46
            · rw [if_neg hc6] at hf
              refine zr_icgt_f 45 dX12_law_29 (by decide) hc6 ?_
              refine zr_aload_n (v := .inl (some l0)) dX12_law_32 rfl rfl ?_
              revert hf; refine zbi (fun x1 e_x1 hf => ?_)
              refine zq_getR kg_490 dX12_law_33 e_x1 ?_
              refine zr_sipush (v := (6845 : Int32)) dX12_law_36 (by decide) ?_
              revert hf; refine zbi (fun x2 e_x2 hf => ?_)
              refine zq_iald dX12_law_39 e_x2 ?_
              refine zr_bipush (v := (6 : Int32)) dX12_law_40 (by decide) ?_
              by_cases hc7 : x2 = (6 : Int32)
              · rw [if_pos hc7] at hf
                refine zr_icne_f 47 dX12_law_42 (by decide) hc7 ?_
                refine zr_iconst (v := ((-1) : Int32)) dX12_law_45 (by decide) ?_
                cases hf
                exact zr_ret _ rfl dX12_law_46
              · rw [if_neg hc7] at hf
                refine zr_icne_t (tgt := 47) dX12_law_42 (by decide) hc7 ?_
                refine zr_aload_n (v := .inl (some l0)) dX12_law_47 rfl rfl ?_
                revert hf; refine zbi (fun q1 e_q1 hf => ?_)
                revert hf; refine zbi (fun h1 e_h1 hf => ?_)
                refine zq_callV (J' := jX12_keeps) (as := []) (rest := []) (r1 := none) (q := (RX12, TX12, 31)) kw_674 km_X12_keeps kt_648 dX12_law_48 rfl (Nat.le_of_ble_eq_true rfl) rfl rfl e_q1 rfl (c_X12_keeps hg e_h1) ?_
                refine zr_aload_n (v := .inl (some l0)) dX12_law_51 rfl rfl ?_
                revert hf; refine zbi (fun x3 e_x3 hf => ?_)
                refine zq_getR kg_490 dX12_law_52 e_x3 ?_
                refine zr_sipush (v := (6846 : Int32)) dX12_law_55 (by decide) ?_
                refine zr_iconst (v := (3 : Int32)) dX12_law_58 (by decide) ?_
                refine zr_aload_n (v := .inl (some l0)) dX12_law_59 rfl rfl ?_
                revert hf; refine zbi (fun x4 e_x4 hf => ?_)
                refine zq_getR kg_490 dX12_law_60 e_x4 ?_
                refine zr_sipush (v := (6845 : Int32)) dX12_law_63 (by decide) ?_
                revert hf; refine zbi (fun x5 e_x5 hf => ?_)
                refine zq_iald dX12_law_66 e_x5 ?_
                refine zr_imul dX12_law_67 ?_
                refine zr_iadd dX12_law_68 ?_
                refine zr_iload_n (x := l1) dX12_law_69 rfl rfl ?_
                revert hf; refine zbi (fun h2 e_h2 hf => ?_)
                refine zq_iast dX12_law_70 e_h2 ?_
                refine zr_aload_n (v := .inl (some l0)) dX12_law_71 rfl rfl ?_
                revert hf; refine zbi (fun x6 e_x6 hf => ?_)
                refine zq_getR kg_490 dX12_law_72 e_x6 ?_
                refine zr_sipush (v := (6846 : Int32)) dX12_law_75 (by decide) ?_
                refine zr_iconst (v := (3 : Int32)) dX12_law_78 (by decide) ?_
                refine zr_aload_n (v := .inl (some l0)) dX12_law_79 rfl rfl ?_
                revert hf; refine zbi (fun x7 e_x7 hf => ?_)
                refine zq_getR kg_490 dX12_law_80 e_x7 ?_
                refine zr_sipush (v := (6845 : Int32)) dX12_law_83 (by decide) ?_
                revert hf; refine zbi (fun x8 e_x8 hf => ?_)
                refine zq_iald dX12_law_86 e_x8 ?_
                refine zr_imul dX12_law_87 ?_
                refine zr_iadd dX12_law_88 ?_
                refine zr_iconst (v := (1 : Int32)) dX12_law_89 (by decide) ?_
                refine zr_iadd dX12_law_90 ?_
                refine zr_iload_n (x := l2) dX12_law_91 rfl rfl ?_
                revert hf; refine zbi (fun h3 e_h3 hf => ?_)
                refine zq_iast dX12_law_92 e_h3 ?_
                refine zr_aload_n (v := .inl (some l0)) dX12_law_93 rfl rfl ?_
                revert hf; refine zbi (fun x9 e_x9 hf => ?_)
                refine zq_getR kg_490 dX12_law_94 e_x9 ?_
                refine zr_sipush (v := (6846 : Int32)) dX12_law_97 (by decide) ?_
                refine zr_iconst (v := (3 : Int32)) dX12_law_100 (by decide) ?_
                refine zr_aload_n (v := .inl (some l0)) dX12_law_101 rfl rfl ?_
                revert hf; refine zbi (fun x10 e_x10 hf => ?_)
                refine zq_getR kg_490 dX12_law_102 e_x10 ?_
                refine zr_sipush (v := (6845 : Int32)) dX12_law_105 (by decide) ?_
                revert hf; refine zbi (fun x11 e_x11 hf => ?_)
                refine zq_iald dX12_law_108 e_x11 ?_
                refine zr_imul dX12_law_109 ?_
                refine zr_iadd dX12_law_110 ?_
                refine zr_iconst (v := (2 : Int32)) dX12_law_111 (by decide) ?_
                refine zr_iadd dX12_law_112 ?_
                refine zr_iload_n (x := l3) dX12_law_113 rfl rfl ?_
                revert hf; refine zbi (fun h4 e_h4 hf => ?_)
                refine zq_iast dX12_law_114 e_h4 ?_
                refine zr_aload_n (v := .inl (some l0)) dX12_law_115 rfl rfl ?_
                revert hf; refine zbi (fun x12 e_x12 hf => ?_)
                refine zq_getR kg_490 dX12_law_116 e_x12 ?_
                refine zr_sipush (v := (6845 : Int32)) dX12_law_119 (by decide) ?_
                refine zr_dup2 dX12_law_122 ?_
                revert hf; refine zbi (fun x13 e_x13 hf => ?_)
                refine zq_iald dX12_law_123 e_x13 ?_
                refine zr_iconst (v := (1 : Int32)) dX12_law_124 (by decide) ?_
                refine zr_iadd dX12_law_125 ?_
                revert hf; refine zbi (fun h5 e_h5 hf => ?_)
                refine zq_iast dX12_law_126 e_h5 ?_
                refine zr_aload_n (v := .inl (some l0)) dX12_law_127 rfl rfl ?_
                revert hf; refine zbi (fun x14 e_x14 hf => ?_)
                refine zq_getR kg_490 dX12_law_128 e_x14 ?_
                refine zr_sipush (v := (6845 : Int32)) dX12_law_131 (by decide) ?_
                revert hf; refine zbi (fun x15 e_x15 hf => ?_)
                refine zq_iald dX12_law_134 e_x15 ?_
                cases hf
                exact zr_ret _ rfl dX12_law_135
theorem c_X12_law {g : zG} (hg : g.2.1.map (fun q => q.2) = zty) {N : Nat} {l0 : Nat} {l1 : Int32} {l2 : Int32} {l3 : Int32} {h : zH} {r : Int32} {h' : zH} (hf : f_X12_law N l0 l1 l2 l3 h = some (r, h')) : zCa g jX12_law [zr (some l0), zi l1, zi l2, zi l3] h (some (zi r)) h' :=
  zCa.of hg (by decide +kernel) (Nat.le_of_ble_eq_true rfl) (s_X12_law hg N l0 l1 l2 l3 h r h' hf)
theorem dX12_kind_0 : decode cX12_kind 0 = .ok (.aload_n 0, 1) := by decide +kernel
theorem dX12_kind_1 : decode cX12_kind 1 = .ok (.iload_n 1, 1) := by decide +kernel
theorem dX12_kind_2 : decode cX12_kind 2 = .ok (.invokevirtual 151, 3) := by decide +kernel
theorem dX12_kind_5 : decode cX12_kind 5 = .ok (.ifCond .eq 17, 3) := by decide +kernel
theorem dX12_kind_8 : decode cX12_kind 8 = .ok (.iload_n 2, 1) := by decide +kernel
theorem dX12_kind_9 : decode cX12_kind 9 = .ok (.invokestatic 193, 3) := by decide +kernel
theorem dX12_kind_12 : decode cX12_kind 12 = .ok (.ifCond .eq 10, 3) := by decide +kernel
theorem dX12_kind_15 : decode cX12_kind 15 = .ok (.iload_n 3, 1) := by decide +kernel
theorem dX12_kind_16 : decode cX12_kind 16 = .ok (.invokestatic 193, 3) := by decide +kernel
theorem dX12_kind_19 : decode cX12_kind 19 = .ok (.ifCond .ne 5, 3) := by decide +kernel
theorem dX12_kind_22 : decode cX12_kind 22 = .ok (.iconst (-1), 1) := by decide +kernel
theorem dX12_kind_23 : decode cX12_kind 23 = .ok (.ireturn, 1) := by decide +kernel
theorem dX12_kind_24 : decode cX12_kind 24 = .ok (.iconst 0, 1) := by decide +kernel
theorem dX12_kind_25 : decode cX12_kind 25 = .ok (.istore 4, 2) := by decide +kernel
theorem dX12_kind_27 : decode cX12_kind 27 = .ok (.iload 4, 2) := by decide +kernel
theorem dX12_kind_29 : decode cX12_kind 29 = .ok (.aload_n 0, 1) := by decide +kernel
theorem dX12_kind_30 : decode cX12_kind 30 = .ok (.getfield 8, 3) := by decide +kernel
theorem dX12_kind_33 : decode cX12_kind 33 = .ok (.sipush 6845, 3) := by decide +kernel
theorem dX12_kind_36 : decode cX12_kind 36 = .ok (.iaload, 1) := by decide +kernel
theorem dX12_kind_37 : decode cX12_kind 37 = .ok (.if_icmp .ge 192, 3) := by decide +kernel
theorem dX12_kind_40 : decode cX12_kind 40 = .ok (.iconst 0, 1) := by decide +kernel
theorem dX12_kind_41 : decode cX12_kind 41 = .ok (.istore 5, 2) := by decide +kernel
theorem dX12_kind_43 : decode cX12_kind 43 = .ok (.iconst 0, 1) := by decide +kernel
theorem dX12_kind_44 : decode cX12_kind 44 = .ok (.istore 6, 2) := by decide +kernel
theorem dX12_kind_46 : decode cX12_kind 46 = .ok (.iload 6, 2) := by decide +kernel
theorem dX12_kind_48 : decode cX12_kind 48 = .ok (.aload_n 0, 1) := by decide +kernel
theorem dX12_kind_49 : decode cX12_kind 49 = .ok (.getfield 8, 3) := by decide +kernel
theorem dX12_kind_52 : decode cX12_kind 52 = .ok (.sipush 4909, 3) := by decide +kernel
theorem dX12_kind_55 : decode cX12_kind 55 = .ok (.iload_n 1, 1) := by decide +kernel
theorem dX12_kind_56 : decode cX12_kind 56 = .ok (.iadd, 1) := by decide +kernel
theorem dX12_kind_57 : decode cX12_kind 57 = .ok (.iaload, 1) := by decide +kernel
theorem dX12_kind_58 : decode cX12_kind 58 = .ok (.if_icmp .ge 131, 3) := by decide +kernel
theorem dX12_kind_61 : decode cX12_kind 61 = .ok (.sipush 4925, 3) := by decide +kernel
theorem dX12_kind_64 : decode cX12_kind 64 = .ok (.iconst 4, 1) := by decide +kernel
theorem dX12_kind_65 : decode cX12_kind 65 = .ok (.bipush 30, 2) := by decide +kernel
theorem dX12_kind_67 : decode cX12_kind 67 = .ok (.iload_n 1, 1) := by decide +kernel
theorem dX12_kind_68 : decode cX12_kind 68 = .ok (.imul, 1) := by decide +kernel
theorem dX12_kind_69 : decode cX12_kind 69 = .ok (.iload 6, 2) := by decide +kernel
theorem dX12_kind_71 : decode cX12_kind 71 = .ok (.iadd, 1) := by decide +kernel
theorem dX12_kind_72 : decode cX12_kind 72 = .ok (.imul, 1) := by decide +kernel
theorem dX12_kind_73 : decode cX12_kind 73 = .ok (.iadd, 1) := by decide +kernel
theorem dX12_kind_74 : decode cX12_kind 74 = .ok (.istore 7, 2) := by decide +kernel
theorem dX12_kind_76 : decode cX12_kind 76 = .ok (.aload_n 0, 1) := by decide +kernel
theorem dX12_kind_77 : decode cX12_kind 77 = .ok (.getfield 8, 3) := by decide +kernel
theorem dX12_kind_80 : decode cX12_kind 80 = .ok (.iload 7, 2) := by decide +kernel
theorem dX12_kind_82 : decode cX12_kind 82 = .ok (.iaload, 1) := by decide +kernel
theorem dX12_kind_83 : decode cX12_kind 83 = .ok (.iload_n 2, 1) := by decide +kernel
theorem dX12_kind_84 : decode cX12_kind 84 = .ok (.if_icmp .gt 61, 3) := by decide +kernel
theorem dX12_kind_87 : decode cX12_kind 87 = .ok (.aload_n 0, 1) := by decide +kernel
theorem dX12_kind_88 : decode cX12_kind 88 = .ok (.getfield 8, 3) := by decide +kernel
theorem dX12_kind_91 : decode cX12_kind 91 = .ok (.iload 7, 2) := by decide +kernel
theorem dX12_kind_93 : decode cX12_kind 93 = .ok (.iaload, 1) := by decide +kernel
theorem dX12_kind_94 : decode cX12_kind 94 = .ok (.iload_n 2, 1) := by decide +kernel
theorem dX12_kind_95 : decode cX12_kind 95 = .ok (.sipush 365, 3) := by decide +kernel
theorem dX12_kind_98 : decode cX12_kind 98 = .ok (.isub, 1) := by decide +kernel
theorem dX12_kind_99 : decode cX12_kind 99 = .ok (.if_icmp .le 46, 3) := by decide +kernel
theorem dX12_kind_102 : decode cX12_kind 102 = .ok (.aload_n 0, 1) := by decide +kernel
theorem dX12_kind_103 : decode cX12_kind 103 = .ok (.getfield 8, 3) := by decide +kernel
theorem dX12_kind_106 : decode cX12_kind 106 = .ok (.iload 7, 2) := by decide +kernel
theorem dX12_kind_108 : decode cX12_kind 108 = .ok (.iconst 2, 1) := by decide +kernel
theorem dX12_kind_109 : decode cX12_kind 109 = .ok (.iadd, 1) := by decide +kernel
theorem dX12_kind_110 : decode cX12_kind 110 = .ok (.iaload, 1) := by decide +kernel
theorem dX12_kind_111 : decode cX12_kind 111 = .ok (.iload_n 3, 1) := by decide +kernel
theorem dX12_kind_112 : decode cX12_kind 112 = .ok (.if_icmp .gt 33, 3) := by decide +kernel
theorem dX12_kind_115 : decode cX12_kind 115 = .ok (.aload_n 0, 1) := by decide +kernel
theorem dX12_kind_116 : decode cX12_kind 116 = .ok (.getfield 8, 3) := by decide +kernel
theorem dX12_kind_119 : decode cX12_kind 119 = .ok (.iload 7, 2) := by decide +kernel
theorem dX12_kind_121 : decode cX12_kind 121 = .ok (.iconst 3, 1) := by decide +kernel
theorem dX12_kind_122 : decode cX12_kind 122 = .ok (.iadd, 1) := by decide +kernel
theorem dX12_kind_123 : decode cX12_kind 123 = .ok (.iaload, 1) := by decide +kernel
theorem dX12_kind_124 : decode cX12_kind 124 = .ok (.iconst (-1), 1) := by decide +kernel
theorem dX12_kind_125 : decode cX12_kind 125 = .ok (.if_icmp .eq 16, 3) := by decide +kernel
theorem dX12_kind_128 : decode cX12_kind 128 = .ok (.aload_n 0, 1) := by decide +kernel
theorem dX12_kind_129 : decode cX12_kind 129 = .ok (.getfield 8, 3) := by decide +kernel
theorem dX12_kind_132 : decode cX12_kind 132 = .ok (.iload 7, 2) := by decide +kernel
theorem dX12_kind_134 : decode cX12_kind 134 = .ok (.iconst 3, 1) := by decide +kernel
theorem dX12_kind_135 : decode cX12_kind 135 = .ok (.iadd, 1) := by decide +kernel
theorem dX12_kind_136 : decode cX12_kind 136 = .ok (.iaload, 1) := by decide +kernel
theorem dX12_kind_137 : decode cX12_kind 137 = .ok (.iload_n 3, 1) := by decide +kernel
theorem dX12_kind_138 : decode cX12_kind 138 = .ok (.if_icmp .le 7, 3) := by decide +kernel
theorem dX12_kind_141 : decode cX12_kind 141 = .ok (.iconst 1, 1) := by decide +kernel
theorem dX12_kind_142 : decode cX12_kind 142 = .ok (.goto 4, 3) := by decide +kernel
theorem dX12_kind_145 : decode cX12_kind 145 = .ok (.iconst 0, 1) := by decide +kernel
theorem dX12_kind_146 : decode cX12_kind 146 = .ok (.istore 8, 2) := by decide +kernel
theorem dX12_kind_148 : decode cX12_kind 148 = .ok (.iload 8, 2) := by decide +kernel
theorem dX12_kind_150 : decode cX12_kind 150 = .ok (.ifCond .eq 33, 3) := by decide +kernel
theorem dX12_kind_153 : decode cX12_kind 153 = .ok (.aload_n 0, 1) := by decide +kernel
theorem dX12_kind_154 : decode cX12_kind 154 = .ok (.getfield 8, 3) := by decide +kernel
theorem dX12_kind_157 : decode cX12_kind 157 = .ok (.iload 7, 2) := by decide +kernel
theorem dX12_kind_159 : decode cX12_kind 159 = .ok (.iconst 1, 1) := by decide +kernel
theorem dX12_kind_160 : decode cX12_kind 160 = .ok (.iadd, 1) := by decide +kernel
theorem dX12_kind_161 : decode cX12_kind 161 = .ok (.iaload, 1) := by decide +kernel
theorem dX12_kind_162 : decode cX12_kind 162 = .ok (.aload_n 0, 1) := by decide +kernel
theorem dX12_kind_163 : decode cX12_kind 163 = .ok (.getfield 8, 3) := by decide +kernel
theorem dX12_kind_166 : decode cX12_kind 166 = .ok (.sipush 6846, 3) := by decide +kernel
theorem dX12_kind_169 : decode cX12_kind 169 = .ok (.iconst 3, 1) := by decide +kernel
theorem dX12_kind_170 : decode cX12_kind 170 = .ok (.iload 4, 2) := by decide +kernel
theorem dX12_kind_172 : decode cX12_kind 172 = .ok (.imul, 1) := by decide +kernel
theorem dX12_kind_173 : decode cX12_kind 173 = .ok (.iadd, 1) := by decide +kernel
theorem dX12_kind_174 : decode cX12_kind 174 = .ok (.iconst 2, 1) := by decide +kernel
theorem dX12_kind_175 : decode cX12_kind 175 = .ok (.iadd, 1) := by decide +kernel
theorem dX12_kind_176 : decode cX12_kind 176 = .ok (.iaload, 1) := by decide +kernel
theorem dX12_kind_177 : decode cX12_kind 177 = .ok (.if_icmp .lt 6, 3) := by decide +kernel
theorem dX12_kind_180 : decode cX12_kind 180 = .ok (.iinc 5 1, 3) := by decide +kernel
theorem dX12_kind_183 : decode cX12_kind 183 = .ok (.iinc 6 1, 3) := by decide +kernel
theorem dX12_kind_186 : decode cX12_kind 186 = .ok (.goto (-140), 3) := by decide +kernel
theorem dX12_kind_189 : decode cX12_kind 189 = .ok (.iload 5, 2) := by decide +kernel
theorem dX12_kind_191 : decode cX12_kind 191 = .ok (.aload_n 0, 1) := by decide +kernel
theorem dX12_kind_192 : decode cX12_kind 192 = .ok (.getfield 8, 3) := by decide +kernel
theorem dX12_kind_195 : decode cX12_kind 195 = .ok (.sipush 6846, 3) := by decide +kernel
theorem dX12_kind_198 : decode cX12_kind 198 = .ok (.iconst 3, 1) := by decide +kernel
theorem dX12_kind_199 : decode cX12_kind 199 = .ok (.iload 4, 2) := by decide +kernel
theorem dX12_kind_201 : decode cX12_kind 201 = .ok (.imul, 1) := by decide +kernel
theorem dX12_kind_202 : decode cX12_kind 202 = .ok (.iadd, 1) := by decide +kernel
theorem dX12_kind_203 : decode cX12_kind 203 = .ok (.iconst 1, 1) := by decide +kernel
theorem dX12_kind_204 : decode cX12_kind 204 = .ok (.iadd, 1) := by decide +kernel
theorem dX12_kind_205 : decode cX12_kind 205 = .ok (.iaload, 1) := by decide +kernel
theorem dX12_kind_206 : decode cX12_kind 206 = .ok (.if_icmp .lt 17, 3) := by decide +kernel
theorem dX12_kind_209 : decode cX12_kind 209 = .ok (.aload_n 0, 1) := by decide +kernel
theorem dX12_kind_210 : decode cX12_kind 210 = .ok (.getfield 8, 3) := by decide +kernel
theorem dX12_kind_213 : decode cX12_kind 213 = .ok (.sipush 6846, 3) := by decide +kernel
theorem dX12_kind_216 : decode cX12_kind 216 = .ok (.iconst 3, 1) := by decide +kernel
theorem dX12_kind_217 : decode cX12_kind 217 = .ok (.iload 4, 2) := by decide +kernel
theorem dX12_kind_219 : decode cX12_kind 219 = .ok (.imul, 1) := by decide +kernel
theorem dX12_kind_220 : decode cX12_kind 220 = .ok (.iadd, 1) := by decide +kernel
theorem dX12_kind_221 : decode cX12_kind 221 = .ok (.iaload, 1) := by decide +kernel
theorem dX12_kind_222 : decode cX12_kind 222 = .ok (.ireturn, 1) := by decide +kernel
theorem dX12_kind_223 : decode cX12_kind 223 = .ok (.iinc 4 1, 3) := by decide +kernel
theorem dX12_kind_226 : decode cX12_kind 226 = .ok (.goto (-199), 3) := by decide +kernel
theorem dX12_kind_229 : decode cX12_kind 229 = .ok (.iconst 0, 1) := by decide +kernel
theorem dX12_kind_230 : decode cX12_kind 230 = .ok (.ireturn, 1) := by decide +kernel
def f_X12_kind_146 (N : Nat) (k46 : Nat → Int32 → Int32 → Int32 → Int32 → Int32 → Int32 → zH → Option Int32) (l0 : Nat) (l1 : Int32) (l2 : Int32) (l3 : Int32) (l4 : Int32) (l5 : Int32) (l6 : Int32) (l7 : Int32) (s0 : Int32) (h : zH) : Option Int32 := if s0 = 0 then k46 l0 l1 l2 l3 l4 l5 (l6 + (1 : Int32)) h else (zgR h 12 (some l0) 0).bind fun x1 => (zld h 0 x1 (l7 + (1 : Int32))).bind fun x2 => (zgR h 12 (some l0) 0).bind fun x3 => (zld h 0 x3 (((6846 : Int32) + ((3 : Int32) * l4)) + (2 : Int32))).bind fun x4 => if x2 < x4 then k46 l0 l1 l2 l3 l4 l5 (l6 + (1 : Int32)) h else k46 l0 l1 l2 l3 l4 (l5 + (1 : Int32)) (l6 + (1 : Int32)) h
set_option maxHeartbeats 4000000 in
set_option maxRecDepth 100000 in
theorem s_X12_kind_146 {g : zG} (hg : g.2.1.map (fun q => q.2) = zty) {h0 : zH} (N : Nat) (k46 : Nat → Int32 → Int32 → Int32 → Int32 → Int32 → Int32 → zH → Option Int32) (hk46 : ∀ (l0 : Nat) (l1 : Int32) (l2 : Int32) (l3 : Int32) (l4 : Int32) (l5 : Int32) (l6 : Int32) (h : zH) (r : Int32), k46 l0 l1 l2 l3 l4 l5 l6 h = some r → zR g jX12_kind h0 46 [some (zr (some l0)), some (zi l1), some (zi l2), some (zi l3), some (zi l4), some (zi l5), some (zi l6), none, none] [] h (some (zi r)) h) (l0 : Nat) (l1 : Int32) (l2 : Int32) (l3 : Int32) (l4 : Int32) (l5 : Int32) (l6 : Int32) (l7 : Int32) (s0 : Int32) (h : zH) (r : Int32) (hf : f_X12_kind_146 N k46 l0 l1 l2 l3 l4 l5 l6 l7 s0 h = some r) : zR g jX12_kind h0 146 [some (zr (some l0)), some (zi l1), some (zi l2), some (zi l3), some (zi l4), some (zi l5), some (zi l6), some (zi l7), none] [zi s0] h (some (zi r)) h := by
  unfold f_X12_kind_146 at hf
  refine zq_istore (x := s0) (L' := [some (zr (some l0)), some (zi l1), some (zi l2), some (zi l3), some (zi l4), some (zi l5), some (zi l6), some (zi l7), some (zi s0)]) dX12_kind_146 (by decide) rfl ?_
  refine zr_iload (x := s0) dX12_kind_148 rfl ?_
  by_cases hc1 : s0 = 0
  · rw [if_pos hc1] at hf
    refine zr_ifeq_t (tgt := 183) dX12_kind_150 (by decide) hc1 ?_
    refine zq_iinc (x := l6) (y := (1 : Int32)) (L' := [some (zr (some l0)), some (zi l1), some (zi l2), some (zi l3), some (zi l4), some (zi l5), some (zi (l6 + (1 : Int32))), some (zi l7), some (zi s0)]) dX12_kind_183 rfl (by decide) (by decide) rfl ?_
    refine zr_goto (tgt := 46) dX12_kind_186 (by decide) ?_
    refine zr_forget 7 (L' := [some (zr (some l0)), some (zi l1), some (zi l2), some (zi l3), some (zi l4), some (zi l5), some (zi (l6 + (1 : Int32))), none, some (zi s0)]) rfl ?_
    refine zr_forget 8 (L' := [some (zr (some l0)), some (zi l1), some (zi l2), some (zi l3), some (zi l4), some (zi l5), some (zi (l6 + (1 : Int32))), none, none]) rfl ?_
    exact hk46 l0 l1 l2 l3 l4 l5 (l6 + (1 : Int32)) h r hf
  · rw [if_neg hc1] at hf
    refine zr_ifeq_f 183 dX12_kind_150 (by decide) hc1 ?_
    refine zr_aload_n (v := .inl (some l0)) dX12_kind_153 rfl rfl ?_
    revert hf; refine zbi (fun x1 e_x1 hf => ?_)
    refine zq_getR kg_490 dX12_kind_154 e_x1 ?_
    refine zr_iload (x := l7) dX12_kind_157 rfl ?_
    refine zr_iconst (v := (1 : Int32)) dX12_kind_159 (by decide) ?_
    refine zr_iadd dX12_kind_160 ?_
    revert hf; refine zbi (fun x2 e_x2 hf => ?_)
    refine zq_iald dX12_kind_161 e_x2 ?_
    refine zr_aload_n (v := .inl (some l0)) dX12_kind_162 rfl rfl ?_
    revert hf; refine zbi (fun x3 e_x3 hf => ?_)
    refine zq_getR kg_490 dX12_kind_163 e_x3 ?_
    refine zr_sipush (v := (6846 : Int32)) dX12_kind_166 (by decide) ?_
    refine zr_iconst (v := (3 : Int32)) dX12_kind_169 (by decide) ?_
    refine zr_iload (x := l4) dX12_kind_170 rfl ?_
    refine zr_imul dX12_kind_172 ?_
    refine zr_iadd dX12_kind_173 ?_
    refine zr_iconst (v := (2 : Int32)) dX12_kind_174 (by decide) ?_
    refine zr_iadd dX12_kind_175 ?_
    revert hf; refine zbi (fun x4 e_x4 hf => ?_)
    refine zq_iald dX12_kind_176 e_x4 ?_
    by_cases hc2 : x2 < x4
    · rw [if_pos hc2] at hf
      refine zr_iclt_t (tgt := 183) dX12_kind_177 (by decide) hc2 ?_
      refine zq_iinc (x := l6) (y := (1 : Int32)) (L' := [some (zr (some l0)), some (zi l1), some (zi l2), some (zi l3), some (zi l4), some (zi l5), some (zi (l6 + (1 : Int32))), some (zi l7), some (zi s0)]) dX12_kind_183 rfl (by decide) (by decide) rfl ?_
      refine zr_goto (tgt := 46) dX12_kind_186 (by decide) ?_
      refine zr_forget 7 (L' := [some (zr (some l0)), some (zi l1), some (zi l2), some (zi l3), some (zi l4), some (zi l5), some (zi (l6 + (1 : Int32))), none, some (zi s0)]) rfl ?_
      refine zr_forget 8 (L' := [some (zr (some l0)), some (zi l1), some (zi l2), some (zi l3), some (zi l4), some (zi l5), some (zi (l6 + (1 : Int32))), none, none]) rfl ?_
      exact hk46 l0 l1 l2 l3 l4 l5 (l6 + (1 : Int32)) h r hf
    · rw [if_neg hc2] at hf
      refine zr_iclt_f 183 dX12_kind_177 (by decide) hc2 ?_
      refine zq_iinc (x := l5) (y := (1 : Int32)) (L' := [some (zr (some l0)), some (zi l1), some (zi l2), some (zi l3), some (zi l4), some (zi (l5 + (1 : Int32))), some (zi l6), some (zi l7), some (zi s0)]) dX12_kind_180 rfl (by decide) (by decide) rfl ?_
      refine zq_iinc (x := l6) (y := (1 : Int32)) (L' := [some (zr (some l0)), some (zi l1), some (zi l2), some (zi l3), some (zi l4), some (zi (l5 + (1 : Int32))), some (zi (l6 + (1 : Int32))), some (zi l7), some (zi s0)]) dX12_kind_183 rfl (by decide) (by decide) rfl ?_
      refine zr_goto (tgt := 46) dX12_kind_186 (by decide) ?_
      refine zr_forget 7 (L' := [some (zr (some l0)), some (zi l1), some (zi l2), some (zi l3), some (zi l4), some (zi (l5 + (1 : Int32))), some (zi (l6 + (1 : Int32))), none, some (zi s0)]) rfl ?_
      refine zr_forget 8 (L' := [some (zr (some l0)), some (zi l1), some (zi l2), some (zi l3), some (zi l4), some (zi (l5 + (1 : Int32))), some (zi (l6 + (1 : Int32))), none, none]) rfl ?_
      exact hk46 l0 l1 l2 l3 l4 (l5 + (1 : Int32)) (l6 + (1 : Int32)) h r hf
def f_X12_kind_141 (N : Nat) (k46 : Nat → Int32 → Int32 → Int32 → Int32 → Int32 → Int32 → zH → Option Int32) (l0 : Nat) (l1 : Int32) (l2 : Int32) (l3 : Int32) (l4 : Int32) (l5 : Int32) (l6 : Int32) (l7 : Int32) (h : zH) : Option Int32 := f_X12_kind_146 N k46 l0 l1 l2 l3 l4 l5 l6 l7 (1 : Int32) h
set_option maxHeartbeats 4000000 in
set_option maxRecDepth 100000 in
theorem s_X12_kind_141 {g : zG} (hg : g.2.1.map (fun q => q.2) = zty) {h0 : zH} (N : Nat) (k46 : Nat → Int32 → Int32 → Int32 → Int32 → Int32 → Int32 → zH → Option Int32) (hk46 : ∀ (l0 : Nat) (l1 : Int32) (l2 : Int32) (l3 : Int32) (l4 : Int32) (l5 : Int32) (l6 : Int32) (h : zH) (r : Int32), k46 l0 l1 l2 l3 l4 l5 l6 h = some r → zR g jX12_kind h0 46 [some (zr (some l0)), some (zi l1), some (zi l2), some (zi l3), some (zi l4), some (zi l5), some (zi l6), none, none] [] h (some (zi r)) h) (l0 : Nat) (l1 : Int32) (l2 : Int32) (l3 : Int32) (l4 : Int32) (l5 : Int32) (l6 : Int32) (l7 : Int32) (h : zH) (r : Int32) (hf : f_X12_kind_141 N k46 l0 l1 l2 l3 l4 l5 l6 l7 h = some r) : zR g jX12_kind h0 141 [some (zr (some l0)), some (zi l1), some (zi l2), some (zi l3), some (zi l4), some (zi l5), some (zi l6), some (zi l7), none] [] h (some (zi r)) h := by
  unfold f_X12_kind_141 at hf
  refine zr_iconst (v := (1 : Int32)) dX12_kind_141 (by decide) ?_
  refine zr_goto (tgt := 146) dX12_kind_142 (by decide) ?_
  exact s_X12_kind_146 hg N _ hk46 l0 l1 l2 l3 l4 l5 l6 l7 (1 : Int32) h r hf
def f_X12_kind_145 (N : Nat) (k46 : Nat → Int32 → Int32 → Int32 → Int32 → Int32 → Int32 → zH → Option Int32) (l0 : Nat) (l1 : Int32) (l2 : Int32) (l3 : Int32) (l4 : Int32) (l5 : Int32) (l6 : Int32) (l7 : Int32) (h : zH) : Option Int32 := f_X12_kind_146 N k46 l0 l1 l2 l3 l4 l5 l6 l7 (0 : Int32) h
set_option maxHeartbeats 4000000 in
set_option maxRecDepth 100000 in
theorem s_X12_kind_145 {g : zG} (hg : g.2.1.map (fun q => q.2) = zty) {h0 : zH} (N : Nat) (k46 : Nat → Int32 → Int32 → Int32 → Int32 → Int32 → Int32 → zH → Option Int32) (hk46 : ∀ (l0 : Nat) (l1 : Int32) (l2 : Int32) (l3 : Int32) (l4 : Int32) (l5 : Int32) (l6 : Int32) (h : zH) (r : Int32), k46 l0 l1 l2 l3 l4 l5 l6 h = some r → zR g jX12_kind h0 46 [some (zr (some l0)), some (zi l1), some (zi l2), some (zi l3), some (zi l4), some (zi l5), some (zi l6), none, none] [] h (some (zi r)) h) (l0 : Nat) (l1 : Int32) (l2 : Int32) (l3 : Int32) (l4 : Int32) (l5 : Int32) (l6 : Int32) (l7 : Int32) (h : zH) (r : Int32) (hf : f_X12_kind_145 N k46 l0 l1 l2 l3 l4 l5 l6 l7 h = some r) : zR g jX12_kind h0 145 [some (zr (some l0)), some (zi l1), some (zi l2), some (zi l3), some (zi l4), some (zi l5), some (zi l6), some (zi l7), none] [] h (some (zi r)) h := by
  unfold f_X12_kind_145 at hf
  refine zr_iconst (v := (0 : Int32)) dX12_kind_145 (by decide) ?_
  exact s_X12_kind_146 hg N _ hk46 l0 l1 l2 l3 l4 l5 l6 l7 (0 : Int32) h r hf
def f_X12_kind_46 (N : Nat) (k27 : Nat → Int32 → Int32 → Int32 → Int32 → zH → Option Int32) : Nat → Nat → Int32 → Int32 → Int32 → Int32 → Int32 → Int32 → zH → Option Int32
  | 0, _, _, _, _, _, _, _, _ => none
  | n + 1, l0, l1, l2, l3, l4, l5, l6, h => (zgR h 12 (some l0) 0).bind fun x1 => (zld h 0 x1 ((4909 : Int32) + l1)).bind fun x2 => if x2 ≤ l6 then (zgR h 12 (some l0) 0).bind fun x3 => (zld h 0 x3 (((6846 : Int32) + ((3 : Int32) * l4)) + (1 : Int32))).bind fun x4 => if l5 < x4 then k27 l0 l1 l2 l3 (l4 + (1 : Int32)) h else (zgR h 12 (some l0) 0).bind fun x5 => (zld h 0 x5 ((6846 : Int32) + ((3 : Int32) * l4))).bind fun x6 => some x6 else (zgR h 12 (some l0) 0).bind fun x7 => (zld h 0 x7 ((4925 : Int32) + ((4 : Int32) * (((30 : Int32) * l1) + l6)))).bind fun x8 => if l2 < x8 then f_X12_kind_145 N (fun l0 l1 l2 l3 l4 l5 l6 h => f_X12_kind_46 N k27 n l0 l1 l2 l3 l4 l5 l6 h) l0 l1 l2 l3 l4 l5 l6 ((4925 : Int32) + ((4 : Int32) * (((30 : Int32) * l1) + l6))) h else (zgR h 12 (some l0) 0).bind fun x9 => (zld h 0 x9 ((4925 : Int32) + ((4 : Int32) * (((30 : Int32) * l1) + l6)))).bind fun x10 => if x10 ≤ (l2 - (365 : Int32)) then f_X12_kind_145 N (fun l0 l1 l2 l3 l4 l5 l6 h => f_X12_kind_46 N k27 n l0 l1 l2 l3 l4 l5 l6 h) l0 l1 l2 l3 l4 l5 l6 ((4925 : Int32) + ((4 : Int32) * (((30 : Int32) * l1) + l6))) h else (zgR h 12 (some l0) 0).bind fun x11 => (zld h 0 x11 (((4925 : Int32) + ((4 : Int32) * (((30 : Int32) * l1) + l6))) + (2 : Int32))).bind fun x12 => if l3 < x12 then f_X12_kind_145 N (fun l0 l1 l2 l3 l4 l5 l6 h => f_X12_kind_46 N k27 n l0 l1 l2 l3 l4 l5 l6 h) l0 l1 l2 l3 l4 l5 l6 ((4925 : Int32) + ((4 : Int32) * (((30 : Int32) * l1) + l6))) h else (zgR h 12 (some l0) 0).bind fun x13 => (zld h 0 x13 (((4925 : Int32) + ((4 : Int32) * (((30 : Int32) * l1) + l6))) + (3 : Int32))).bind fun x14 => if x14 = ((-1) : Int32) then f_X12_kind_141 N (fun l0 l1 l2 l3 l4 l5 l6 h => f_X12_kind_46 N k27 n l0 l1 l2 l3 l4 l5 l6 h) l0 l1 l2 l3 l4 l5 l6 ((4925 : Int32) + ((4 : Int32) * (((30 : Int32) * l1) + l6))) h else (zgR h 12 (some l0) 0).bind fun x15 => (zld h 0 x15 (((4925 : Int32) + ((4 : Int32) * (((30 : Int32) * l1) + l6))) + (3 : Int32))).bind fun x16 => if x16 ≤ l3 then f_X12_kind_145 N (fun l0 l1 l2 l3 l4 l5 l6 h => f_X12_kind_46 N k27 n l0 l1 l2 l3 l4 l5 l6 h) l0 l1 l2 l3 l4 l5 l6 ((4925 : Int32) + ((4 : Int32) * (((30 : Int32) * l1) + l6))) h else f_X12_kind_141 N (fun l0 l1 l2 l3 l4 l5 l6 h => f_X12_kind_46 N k27 n l0 l1 l2 l3 l4 l5 l6 h) l0 l1 l2 l3 l4 l5 l6 ((4925 : Int32) + ((4 : Int32) * (((30 : Int32) * l1) + l6))) h
set_option maxHeartbeats 4000000 in
set_option maxRecDepth 100000 in
theorem s_X12_kind_46 {g : zG} (hg : g.2.1.map (fun q => q.2) = zty) {h0 : zH} (N : Nat) (k27 : Nat → Int32 → Int32 → Int32 → Int32 → zH → Option Int32) (hk27 : ∀ (l0 : Nat) (l1 : Int32) (l2 : Int32) (l3 : Int32) (l4 : Int32) (h : zH) (r : Int32), k27 l0 l1 l2 l3 l4 h = some r → zR g jX12_kind h0 27 [some (zr (some l0)), some (zi l1), some (zi l2), some (zi l3), some (zi l4), none, none, none, none] [] h (some (zi r)) h) : ∀ (n : Nat) (l0 : Nat) (l1 : Int32) (l2 : Int32) (l3 : Int32) (l4 : Int32) (l5 : Int32) (l6 : Int32) (h : zH) (r : Int32), f_X12_kind_46 N k27 n l0 l1 l2 l3 l4 l5 l6 h = some r → zR g jX12_kind h0 46 [some (zr (some l0)), some (zi l1), some (zi l2), some (zi l3), some (zi l4), some (zi l5), some (zi l6), none, none] [] h (some (zi r)) h := by
  intro n
  induction n with
  | zero =>
    intro l0 l1 l2 l3 l4 l5 l6 h r hf
    cases hf
  | succ n ih =>
    intro l0 l1 l2 l3 l4 l5 l6 h r hf
    rw [f_X12_kind_46] at hf
    refine zr_iload (x := l6) dX12_kind_46 rfl ?_
    refine zr_aload_n (v := .inl (some l0)) dX12_kind_48 rfl rfl ?_
    revert hf; refine zbi (fun x1 e_x1 hf => ?_)
    refine zq_getR kg_490 dX12_kind_49 e_x1 ?_
    refine zr_sipush (v := (4909 : Int32)) dX12_kind_52 (by decide) ?_
    refine zr_iload_n (x := l1) dX12_kind_55 rfl rfl ?_
    refine zr_iadd dX12_kind_56 ?_
    revert hf; refine zbi (fun x2 e_x2 hf => ?_)
    refine zq_iald dX12_kind_57 e_x2 ?_
    by_cases hc1 : x2 ≤ l6
    · rw [if_pos hc1] at hf
      refine zr_icge_t (tgt := 189) dX12_kind_58 (by decide) hc1 ?_
      refine zr_iload (x := l5) dX12_kind_189 rfl ?_
      refine zr_aload_n (v := .inl (some l0)) dX12_kind_191 rfl rfl ?_
      revert hf; refine zbi (fun x3 e_x3 hf => ?_)
      refine zq_getR kg_490 dX12_kind_192 e_x3 ?_
      refine zr_sipush (v := (6846 : Int32)) dX12_kind_195 (by decide) ?_
      refine zr_iconst (v := (3 : Int32)) dX12_kind_198 (by decide) ?_
      refine zr_iload (x := l4) dX12_kind_199 rfl ?_
      refine zr_imul dX12_kind_201 ?_
      refine zr_iadd dX12_kind_202 ?_
      refine zr_iconst (v := (1 : Int32)) dX12_kind_203 (by decide) ?_
      refine zr_iadd dX12_kind_204 ?_
      revert hf; refine zbi (fun x4 e_x4 hf => ?_)
      refine zq_iald dX12_kind_205 e_x4 ?_
      by_cases hc2 : l5 < x4
      · rw [if_pos hc2] at hf
        refine zr_iclt_t (tgt := 223) dX12_kind_206 (by decide) hc2 ?_
        refine zq_iinc (x := l4) (y := (1 : Int32)) (L' := [some (zr (some l0)), some (zi l1), some (zi l2), some (zi l3), some (zi (l4 + (1 : Int32))), some (zi l5), some (zi l6), none, none]) dX12_kind_223 rfl (by decide) (by decide) rfl ?_
        refine zr_goto (tgt := 27) dX12_kind_226 (by decide) ?_
        refine zr_forget 5 (L' := [some (zr (some l0)), some (zi l1), some (zi l2), some (zi l3), some (zi (l4 + (1 : Int32))), none, some (zi l6), none, none]) rfl ?_
        refine zr_forget 6 (L' := [some (zr (some l0)), some (zi l1), some (zi l2), some (zi l3), some (zi (l4 + (1 : Int32))), none, none, none, none]) rfl ?_
        exact hk27 l0 l1 l2 l3 (l4 + (1 : Int32)) h r hf
      · rw [if_neg hc2] at hf
        refine zr_iclt_f 223 dX12_kind_206 (by decide) hc2 ?_
        refine zr_aload_n (v := .inl (some l0)) dX12_kind_209 rfl rfl ?_
        revert hf; refine zbi (fun x5 e_x5 hf => ?_)
        refine zq_getR kg_490 dX12_kind_210 e_x5 ?_
        refine zr_sipush (v := (6846 : Int32)) dX12_kind_213 (by decide) ?_
        refine zr_iconst (v := (3 : Int32)) dX12_kind_216 (by decide) ?_
        refine zr_iload (x := l4) dX12_kind_217 rfl ?_
        refine zr_imul dX12_kind_219 ?_
        refine zr_iadd dX12_kind_220 ?_
        revert hf; refine zbi (fun x6 e_x6 hf => ?_)
        refine zq_iald dX12_kind_221 e_x6 ?_
        cases hf
        exact zr_ret _ rfl dX12_kind_222
    · rw [if_neg hc1] at hf
      refine zr_icge_f 189 dX12_kind_58 (by decide) hc1 ?_
      refine zr_sipush (v := (4925 : Int32)) dX12_kind_61 (by decide) ?_
      refine zr_iconst (v := (4 : Int32)) dX12_kind_64 (by decide) ?_
      refine zr_bipush (v := (30 : Int32)) dX12_kind_65 (by decide) ?_
      refine zr_iload_n (x := l1) dX12_kind_67 rfl rfl ?_
      refine zr_imul dX12_kind_68 ?_
      refine zr_iload (x := l6) dX12_kind_69 rfl ?_
      refine zr_iadd dX12_kind_71 ?_
      refine zr_imul dX12_kind_72 ?_
      refine zr_iadd dX12_kind_73 ?_
      refine zq_istore (x := ((4925 : Int32) + ((4 : Int32) * (((30 : Int32) * l1) + l6)))) (L' := [some (zr (some l0)), some (zi l1), some (zi l2), some (zi l3), some (zi l4), some (zi l5), some (zi l6), some (zi ((4925 : Int32) + ((4 : Int32) * (((30 : Int32) * l1) + l6)))), none]) dX12_kind_74 (by decide) rfl ?_
      refine zr_aload_n (v := .inl (some l0)) dX12_kind_76 rfl rfl ?_
      revert hf; refine zbi (fun x7 e_x7 hf => ?_)
      refine zq_getR kg_490 dX12_kind_77 e_x7 ?_
      refine zr_iload (x := ((4925 : Int32) + ((4 : Int32) * (((30 : Int32) * l1) + l6)))) dX12_kind_80 rfl ?_
      revert hf; refine zbi (fun x8 e_x8 hf => ?_)
      refine zq_iald dX12_kind_82 e_x8 ?_
      refine zr_iload_n (x := l2) dX12_kind_83 rfl rfl ?_
      by_cases hc3 : l2 < x8
      · rw [if_pos hc3] at hf
        refine zr_icgt_t (tgt := 145) dX12_kind_84 (by decide) hc3 ?_
        exact s_X12_kind_145 hg N _ ih l0 l1 l2 l3 l4 l5 l6 ((4925 : Int32) + ((4 : Int32) * (((30 : Int32) * l1) + l6))) h r hf
      · rw [if_neg hc3] at hf
        refine zr_icgt_f 145 dX12_kind_84 (by decide) hc3 ?_
        refine zr_aload_n (v := .inl (some l0)) dX12_kind_87 rfl rfl ?_
        revert hf; refine zbi (fun x9 e_x9 hf => ?_)
        refine zq_getR kg_490 dX12_kind_88 e_x9 ?_
        refine zr_iload (x := ((4925 : Int32) + ((4 : Int32) * (((30 : Int32) * l1) + l6)))) dX12_kind_91 rfl ?_
        revert hf; refine zbi (fun x10 e_x10 hf => ?_)
        refine zq_iald dX12_kind_93 e_x10 ?_
        refine zr_iload_n (x := l2) dX12_kind_94 rfl rfl ?_
        refine zr_sipush (v := (365 : Int32)) dX12_kind_95 (by decide) ?_
        refine zr_isub dX12_kind_98 ?_
        by_cases hc4 : x10 ≤ (l2 - (365 : Int32))
        · rw [if_pos hc4] at hf
          refine zr_icle_t (tgt := 145) dX12_kind_99 (by decide) hc4 ?_
          exact s_X12_kind_145 hg N _ ih l0 l1 l2 l3 l4 l5 l6 ((4925 : Int32) + ((4 : Int32) * (((30 : Int32) * l1) + l6))) h r hf
        · rw [if_neg hc4] at hf
          refine zr_icle_f 145 dX12_kind_99 (by decide) hc4 ?_
          refine zr_aload_n (v := .inl (some l0)) dX12_kind_102 rfl rfl ?_
          revert hf; refine zbi (fun x11 e_x11 hf => ?_)
          refine zq_getR kg_490 dX12_kind_103 e_x11 ?_
          refine zr_iload (x := ((4925 : Int32) + ((4 : Int32) * (((30 : Int32) * l1) + l6)))) dX12_kind_106 rfl ?_
          refine zr_iconst (v := (2 : Int32)) dX12_kind_108 (by decide) ?_
          refine zr_iadd dX12_kind_109 ?_
          revert hf; refine zbi (fun x12 e_x12 hf => ?_)
          refine zq_iald dX12_kind_110 e_x12 ?_
          refine zr_iload_n (x := l3) dX12_kind_111 rfl rfl ?_
          by_cases hc5 : l3 < x12
          · rw [if_pos hc5] at hf
            refine zr_icgt_t (tgt := 145) dX12_kind_112 (by decide) hc5 ?_
            exact s_X12_kind_145 hg N _ ih l0 l1 l2 l3 l4 l5 l6 ((4925 : Int32) + ((4 : Int32) * (((30 : Int32) * l1) + l6))) h r hf
          · rw [if_neg hc5] at hf
            refine zr_icgt_f 145 dX12_kind_112 (by decide) hc5 ?_
            refine zr_aload_n (v := .inl (some l0)) dX12_kind_115 rfl rfl ?_
            revert hf; refine zbi (fun x13 e_x13 hf => ?_)
            refine zq_getR kg_490 dX12_kind_116 e_x13 ?_
            refine zr_iload (x := ((4925 : Int32) + ((4 : Int32) * (((30 : Int32) * l1) + l6)))) dX12_kind_119 rfl ?_
            refine zr_iconst (v := (3 : Int32)) dX12_kind_121 (by decide) ?_
            refine zr_iadd dX12_kind_122 ?_
            revert hf; refine zbi (fun x14 e_x14 hf => ?_)
            refine zq_iald dX12_kind_123 e_x14 ?_
            refine zr_iconst (v := ((-1) : Int32)) dX12_kind_124 (by decide) ?_
            by_cases hc6 : x14 = ((-1) : Int32)
            · rw [if_pos hc6] at hf
              refine zr_iceq_t (tgt := 141) dX12_kind_125 (by decide) hc6 ?_
              exact s_X12_kind_141 hg N _ ih l0 l1 l2 l3 l4 l5 l6 ((4925 : Int32) + ((4 : Int32) * (((30 : Int32) * l1) + l6))) h r hf
            · rw [if_neg hc6] at hf
              refine zr_iceq_f 141 dX12_kind_125 (by decide) hc6 ?_
              refine zr_aload_n (v := .inl (some l0)) dX12_kind_128 rfl rfl ?_
              revert hf; refine zbi (fun x15 e_x15 hf => ?_)
              refine zq_getR kg_490 dX12_kind_129 e_x15 ?_
              refine zr_iload (x := ((4925 : Int32) + ((4 : Int32) * (((30 : Int32) * l1) + l6)))) dX12_kind_132 rfl ?_
              refine zr_iconst (v := (3 : Int32)) dX12_kind_134 (by decide) ?_
              refine zr_iadd dX12_kind_135 ?_
              revert hf; refine zbi (fun x16 e_x16 hf => ?_)
              refine zq_iald dX12_kind_136 e_x16 ?_
              refine zr_iload_n (x := l3) dX12_kind_137 rfl rfl ?_
              by_cases hc7 : x16 ≤ l3
              · rw [if_pos hc7] at hf
                refine zr_icle_t (tgt := 145) dX12_kind_138 (by decide) hc7 ?_
                exact s_X12_kind_145 hg N _ ih l0 l1 l2 l3 l4 l5 l6 ((4925 : Int32) + ((4 : Int32) * (((30 : Int32) * l1) + l6))) h r hf
              · rw [if_neg hc7] at hf
                refine zr_icle_f 145 dX12_kind_138 (by decide) hc7 ?_
                exact s_X12_kind_141 hg N _ ih l0 l1 l2 l3 l4 l5 l6 ((4925 : Int32) + ((4 : Int32) * (((30 : Int32) * l1) + l6))) h r hf
def f_X12_kind_27 (N : Nat) : Nat → Nat → Int32 → Int32 → Int32 → Int32 → zH → Option Int32
  | 0, _, _, _, _, _, _ => none
  | n + 1, l0, l1, l2, l3, l4, h => (zgR h 12 (some l0) 0).bind fun x1 => (zld h 0 x1 (6845 : Int32)).bind fun x2 => if x2 ≤ l4 then some (0 : Int32) else f_X12_kind_46 N (fun l0 l1 l2 l3 l4 h => f_X12_kind_27 N n l0 l1 l2 l3 l4 h) N l0 l1 l2 l3 l4 (0 : Int32) (0 : Int32) h
set_option maxHeartbeats 4000000 in
set_option maxRecDepth 100000 in
theorem s_X12_kind_27 {g : zG} (hg : g.2.1.map (fun q => q.2) = zty) {h0 : zH} (N : Nat) : ∀ (n : Nat) (l0 : Nat) (l1 : Int32) (l2 : Int32) (l3 : Int32) (l4 : Int32) (h : zH) (r : Int32), f_X12_kind_27 N n l0 l1 l2 l3 l4 h = some r → zR g jX12_kind h0 27 [some (zr (some l0)), some (zi l1), some (zi l2), some (zi l3), some (zi l4), none, none, none, none] [] h (some (zi r)) h := by
  intro n
  induction n with
  | zero =>
    intro l0 l1 l2 l3 l4 h r hf
    cases hf
  | succ n ih =>
    intro l0 l1 l2 l3 l4 h r hf
    rw [f_X12_kind_27] at hf
    refine zr_iload (x := l4) dX12_kind_27 rfl ?_
    refine zr_aload_n (v := .inl (some l0)) dX12_kind_29 rfl rfl ?_
    revert hf; refine zbi (fun x1 e_x1 hf => ?_)
    refine zq_getR kg_490 dX12_kind_30 e_x1 ?_
    refine zr_sipush (v := (6845 : Int32)) dX12_kind_33 (by decide) ?_
    revert hf; refine zbi (fun x2 e_x2 hf => ?_)
    refine zq_iald dX12_kind_36 e_x2 ?_
    by_cases hc1 : x2 ≤ l4
    · rw [if_pos hc1] at hf
      refine zr_icge_t (tgt := 229) dX12_kind_37 (by decide) hc1 ?_
      refine zr_iconst (v := (0 : Int32)) dX12_kind_229 (by decide) ?_
      cases hf
      exact zr_ret _ rfl dX12_kind_230
    · rw [if_neg hc1] at hf
      refine zr_icge_f 229 dX12_kind_37 (by decide) hc1 ?_
      refine zr_iconst (v := (0 : Int32)) dX12_kind_40 (by decide) ?_
      refine zq_istore (x := (0 : Int32)) (L' := [some (zr (some l0)), some (zi l1), some (zi l2), some (zi l3), some (zi l4), some (zi (0 : Int32)), none, none, none]) dX12_kind_41 (by decide) rfl ?_
      refine zr_iconst (v := (0 : Int32)) dX12_kind_43 (by decide) ?_
      refine zq_istore (x := (0 : Int32)) (L' := [some (zr (some l0)), some (zi l1), some (zi l2), some (zi l3), some (zi l4), some (zi (0 : Int32)), some (zi (0 : Int32)), none, none]) dX12_kind_44 (by decide) rfl ?_
      exact s_X12_kind_46 hg N _ ih N l0 l1 l2 l3 l4 (0 : Int32) (0 : Int32) h r hf
def f_X12_kind (N : Nat) (l0 : Nat) (l1 : Int32) (l2 : Int32) (l3 : Int32) (h : zH) : Option Int32 := (zck h 12 (some l0)).bind fun q1 => (f_X12_isArcher N q1 l1 h).bind fun x1 => if x1 = 0 then some ((-1) : Int32) else (f_X12_isDay N l2 h).bind fun x2 => if x2 = 0 then some ((-1) : Int32) else (f_X12_isDay N l3 h).bind fun x3 => if x3 = 0 then some ((-1) : Int32) else f_X12_kind_27 N N l0 l1 l2 l3 (0 : Int32) h
set_option maxHeartbeats 4000000 in
set_option maxRecDepth 100000 in
theorem s_X12_kind {g : zG} (hg : g.2.1.map (fun q => q.2) = zty) {h0 : zH} (N : Nat) (l0 : Nat) (l1 : Int32) (l2 : Int32) (l3 : Int32) (h : zH) (r : Int32) (hf : f_X12_kind N l0 l1 l2 l3 h = some r) : zR g jX12_kind h0 0 [some (zr (some l0)), some (zi l1), some (zi l2), some (zi l3), none, none, none, none, none] [] h (some (zi r)) h := by
  unfold f_X12_kind at hf
  refine zr_aload_n (v := .inl (some l0)) dX12_kind_0 rfl rfl ?_
  refine zr_iload_n (x := l1) dX12_kind_1 rfl rfl ?_
  revert hf; refine zbi (fun q1 e_q1 hf => ?_)
  revert hf; refine zbi (fun x1 e_x1 hf => ?_)
  refine zq_callV (J' := jX12_isArcher) (as := [zi l1]) (rest := []) (r1 := (some (zi x1))) (q := (RX12, TX12, 31)) kw_682 km_X12_isArcher kt_649 dX12_kind_2 rfl (Nat.le_of_ble_eq_true rfl) rfl rfl e_q1 rfl (c_X12_isArcher hg e_x1) ?_
  by_cases hc1 : x1 = 0
  · rw [if_pos hc1] at hf
    refine zr_ifeq_t (tgt := 22) dX12_kind_5 (by decide) hc1 ?_
    refine zr_iconst (v := ((-1) : Int32)) dX12_kind_22 (by decide) ?_
    cases hf
    exact zr_ret _ rfl dX12_kind_23
  · rw [if_neg hc1] at hf
    refine zr_ifeq_f 22 dX12_kind_5 (by decide) hc1 ?_
    refine zr_iload_n (x := l2) dX12_kind_8 rfl rfl ?_
    revert hf; refine zbi (fun x2 e_x2 hf => ?_)
    refine zq_callS (J' := jX12_isDay) (as := [zi l2]) (rest := []) (r1 := (some (zi x2))) kw_731 km_X12_isDay kt_650 dX12_kind_9 rfl (Nat.le_of_ble_eq_true rfl) rfl (c_X12_isDay hg e_x2) ?_
    by_cases hc2 : x2 = 0
    · rw [if_pos hc2] at hf
      refine zr_ifeq_t (tgt := 22) dX12_kind_12 (by decide) hc2 ?_
      refine zr_iconst (v := ((-1) : Int32)) dX12_kind_22 (by decide) ?_
      cases hf
      exact zr_ret _ rfl dX12_kind_23
    · rw [if_neg hc2] at hf
      refine zr_ifeq_f 22 dX12_kind_12 (by decide) hc2 ?_
      refine zr_iload_n (x := l3) dX12_kind_15 rfl rfl ?_
      revert hf; refine zbi (fun x3 e_x3 hf => ?_)
      refine zq_callS (J' := jX12_isDay) (as := [zi l3]) (rest := []) (r1 := (some (zi x3))) kw_731 km_X12_isDay kt_650 dX12_kind_16 rfl (Nat.le_of_ble_eq_true rfl) rfl (c_X12_isDay hg e_x3) ?_
      by_cases hc3 : x3 = 0
      · rw [if_pos hc3] at hf
        refine zr_ifne_f 24 dX12_kind_19 (by decide) hc3 ?_
        refine zr_iconst (v := ((-1) : Int32)) dX12_kind_22 (by decide) ?_
        cases hf
        exact zr_ret _ rfl dX12_kind_23
      · rw [if_neg hc3] at hf
        refine zr_ifne_t (tgt := 24) dX12_kind_19 (by decide) hc3 ?_
        refine zr_iconst (v := (0 : Int32)) dX12_kind_24 (by decide) ?_
        refine zq_istore (x := (0 : Int32)) (L' := [some (zr (some l0)), some (zi l1), some (zi l2), some (zi l3), some (zi (0 : Int32)), none, none, none, none]) dX12_kind_25 (by decide) rfl ?_
        exact s_X12_kind_27 hg N N l0 l1 l2 l3 (0 : Int32) h r hf
theorem c_X12_kind {g : zG} (hg : g.2.1.map (fun q => q.2) = zty) {N : Nat} {l0 : Nat} {l1 : Int32} {l2 : Int32} {l3 : Int32} {h : zH} {r : Int32} (hf : f_X12_kind N l0 l1 l2 l3 h = some r) : zCa g jX12_kind [zr (some l0), zi l1, zi l2, zi l3] h (some (zi r)) h :=
  zCa.of hg (by decide +kernel) (Nat.le_of_ble_eq_true rfl) (s_X12_kind hg N l0 l1 l2 l3 h r hf)
theorem dX12_bay_0 : decode cX12_bay 0 = .ok (.iload_n 1, 1) := by decide +kernel
theorem dX12_bay_1 : decode cX12_bay 1 = .ok (.iconst 1, 1) := by decide +kernel
theorem dX12_bay_2 : decode cX12_bay 2 = .ok (.if_icmp .lt 23, 3) := by decide +kernel
theorem dX12_bay_5 : decode cX12_bay 5 = .ok (.iload_n 1, 1) := by decide +kernel
theorem dX12_bay_6 : decode cX12_bay 6 = .ok (.iconst 4, 1) := by decide +kernel
theorem dX12_bay_7 : decode cX12_bay 7 = .ok (.if_icmp .gt 18, 3) := by decide +kernel
theorem dX12_bay_10 : decode cX12_bay 10 = .ok (.aload_n 0, 1) := by decide +kernel
theorem dX12_bay_11 : decode cX12_bay 11 = .ok (.getfield 8, 3) := by decide +kernel
theorem dX12_bay_14 : decode cX12_bay 14 = .ok (.sipush 6864, 3) := by decide +kernel
theorem dX12_bay_17 : decode cX12_bay 17 = .ok (.iaload, 1) := by decide +kernel
theorem dX12_bay_18 : decode cX12_bay 18 = .ok (.iload_n 1, 1) := by decide +kernel
theorem dX12_bay_19 : decode cX12_bay 19 = .ok (.iadd, 1) := by decide +kernel
theorem dX12_bay_20 : decode cX12_bay 20 = .ok (.bipush 8, 2) := by decide +kernel
theorem dX12_bay_22 : decode cX12_bay 22 = .ok (.if_icmp .le 5, 3) := by decide +kernel
theorem dX12_bay_25 : decode cX12_bay 25 = .ok (.iconst (-1), 1) := by decide +kernel
theorem dX12_bay_26 : decode cX12_bay 26 = .ok (.ireturn, 1) := by decide +kernel
theorem dX12_bay_27 : decode cX12_bay 27 = .ok (.aload_n 0, 1) := by decide +kernel
theorem dX12_bay_28 : decode cX12_bay 28 = .ok (.invokevirtual 144, 3) := by decide +kernel
theorem dX12_bay_31 : decode cX12_bay 31 = .ok (.aload_n 0, 1) := by decide +kernel
theorem dX12_bay_32 : decode cX12_bay 32 = .ok (.getfield 8, 3) := by decide +kernel
theorem dX12_bay_35 : decode cX12_bay 35 = .ok (.sipush 6864, 3) := by decide +kernel
theorem dX12_bay_38 : decode cX12_bay 38 = .ok (.iaload, 1) := by decide +kernel
theorem dX12_bay_39 : decode cX12_bay 39 = .ok (.ifCond .ne 7, 3) := by decide +kernel
theorem dX12_bay_42 : decode cX12_bay 42 = .ok (.iconst 0, 1) := by decide +kernel
theorem dX12_bay_43 : decode cX12_bay 43 = .ok (.goto 24, 3) := by decide +kernel
theorem dX12_bay_46 : decode cX12_bay 46 = .ok (.aload_n 0, 1) := by decide +kernel
theorem dX12_bay_47 : decode cX12_bay 47 = .ok (.getfield 8, 3) := by decide +kernel
theorem dX12_bay_50 : decode cX12_bay 50 = .ok (.sipush 6865, 3) := by decide +kernel
theorem dX12_bay_53 : decode cX12_bay 53 = .ok (.aload_n 0, 1) := by decide +kernel
theorem dX12_bay_54 : decode cX12_bay 54 = .ok (.getfield 8, 3) := by decide +kernel
theorem dX12_bay_57 : decode cX12_bay 57 = .ok (.sipush 6864, 3) := by decide +kernel
theorem dX12_bay_60 : decode cX12_bay 60 = .ok (.iaload, 1) := by decide +kernel
theorem dX12_bay_61 : decode cX12_bay 61 = .ok (.iadd, 1) := by decide +kernel
theorem dX12_bay_62 : decode cX12_bay 62 = .ok (.iconst 1, 1) := by decide +kernel
theorem dX12_bay_63 : decode cX12_bay 63 = .ok (.isub, 1) := by decide +kernel
theorem dX12_bay_64 : decode cX12_bay 64 = .ok (.iaload, 1) := by decide +kernel
theorem dX12_bay_65 : decode cX12_bay 65 = .ok (.iconst 1, 1) := by decide +kernel
theorem dX12_bay_66 : decode cX12_bay 66 = .ok (.iadd, 1) := by decide +kernel
theorem dX12_bay_67 : decode cX12_bay 67 = .ok (.istore_n 2, 1) := by decide +kernel
theorem dX12_bay_68 : decode cX12_bay 68 = .ok (.iconst 0, 1) := by decide +kernel
theorem dX12_bay_69 : decode cX12_bay 69 = .ok (.istore_n 3, 1) := by decide +kernel
theorem dX12_bay_70 : decode cX12_bay 70 = .ok (.iload_n 3, 1) := by decide +kernel
theorem dX12_bay_71 : decode cX12_bay 71 = .ok (.iload_n 1, 1) := by decide +kernel
theorem dX12_bay_72 : decode cX12_bay 72 = .ok (.if_icmp .ge 57, 3) := by decide +kernel
theorem dX12_bay_75 : decode cX12_bay 75 = .ok (.aload_n 0, 1) := by decide +kernel
theorem dX12_bay_76 : decode cX12_bay 76 = .ok (.getfield 8, 3) := by decide +kernel
theorem dX12_bay_79 : decode cX12_bay 79 = .ok (.sipush 6865, 3) := by decide +kernel
theorem dX12_bay_82 : decode cX12_bay 82 = .ok (.aload_n 0, 1) := by decide +kernel
theorem dX12_bay_83 : decode cX12_bay 83 = .ok (.getfield 8, 3) := by decide +kernel
theorem dX12_bay_86 : decode cX12_bay 86 = .ok (.sipush 6864, 3) := by decide +kernel
theorem dX12_bay_89 : decode cX12_bay 89 = .ok (.iaload, 1) := by decide +kernel
theorem dX12_bay_90 : decode cX12_bay 90 = .ok (.iadd, 1) := by decide +kernel
theorem dX12_bay_91 : decode cX12_bay 91 = .ok (.iload_n 2, 1) := by decide +kernel
theorem dX12_bay_92 : decode cX12_bay 92 = .ok (.iastore, 1) := by decide +kernel
theorem dX12_bay_93 : decode cX12_bay 93 = .ok (.aload_n 0, 1) := by decide +kernel
theorem dX12_bay_94 : decode cX12_bay 94 = .ok (.getfield 8, 3) := by decide +kernel
theorem dX12_bay_97 : decode cX12_bay 97 = .ok (.sipush 6873, 3) := by decide +kernel
theorem dX12_bay_100 : decode cX12_bay 100 = .ok (.aload_n 0, 1) := by decide +kernel
theorem dX12_bay_101 : decode cX12_bay 101 = .ok (.getfield 8, 3) := by decide +kernel
theorem dX12_bay_104 : decode cX12_bay 104 = .ok (.sipush 6864, 3) := by decide +kernel
theorem dX12_bay_107 : decode cX12_bay 107 = .ok (.iaload, 1) := by decide +kernel
theorem dX12_bay_108 : decode cX12_bay 108 = .ok (.iadd, 1) := by decide +kernel
theorem dX12_bay_109 : decode cX12_bay 109 = .ok (.iconst 0, 1) := by decide +kernel
theorem dX12_bay_110 : decode cX12_bay 110 = .ok (.iastore, 1) := by decide +kernel
theorem dX12_bay_111 : decode cX12_bay 111 = .ok (.aload_n 0, 1) := by decide +kernel
theorem dX12_bay_112 : decode cX12_bay 112 = .ok (.getfield 8, 3) := by decide +kernel
theorem dX12_bay_115 : decode cX12_bay 115 = .ok (.sipush 6864, 3) := by decide +kernel
theorem dX12_bay_118 : decode cX12_bay 118 = .ok (.dup2, 1) := by decide +kernel
theorem dX12_bay_119 : decode cX12_bay 119 = .ok (.iaload, 1) := by decide +kernel
theorem dX12_bay_120 : decode cX12_bay 120 = .ok (.iconst 1, 1) := by decide +kernel
theorem dX12_bay_121 : decode cX12_bay 121 = .ok (.iadd, 1) := by decide +kernel
theorem dX12_bay_122 : decode cX12_bay 122 = .ok (.iastore, 1) := by decide +kernel
theorem dX12_bay_123 : decode cX12_bay 123 = .ok (.iinc 3 1, 3) := by decide +kernel
theorem dX12_bay_126 : decode cX12_bay 126 = .ok (.goto (-56), 3) := by decide +kernel
theorem dX12_bay_129 : decode cX12_bay 129 = .ok (.iconst 0, 1) := by decide +kernel
theorem dX12_bay_130 : decode cX12_bay 130 = .ok (.istore_n 3, 1) := by decide +kernel
theorem dX12_bay_131 : decode cX12_bay 131 = .ok (.iload_n 3, 1) := by decide +kernel
theorem dX12_bay_132 : decode cX12_bay 132 = .ok (.bipush 16, 2) := by decide +kernel
theorem dX12_bay_134 : decode cX12_bay 134 = .ok (.if_icmp .ge 20, 3) := by decide +kernel
theorem dX12_bay_137 : decode cX12_bay 137 = .ok (.aload_n 0, 1) := by decide +kernel
theorem dX12_bay_138 : decode cX12_bay 138 = .ok (.getfield 8, 3) := by decide +kernel
theorem dX12_bay_141 : decode cX12_bay 141 = .ok (.sipush 6881, 3) := by decide +kernel
theorem dX12_bay_144 : decode cX12_bay 144 = .ok (.iload_n 3, 1) := by decide +kernel
theorem dX12_bay_145 : decode cX12_bay 145 = .ok (.iadd, 1) := by decide +kernel
theorem dX12_bay_146 : decode cX12_bay 146 = .ok (.iconst (-1), 1) := by decide +kernel
theorem dX12_bay_147 : decode cX12_bay 147 = .ok (.iastore, 1) := by decide +kernel
theorem dX12_bay_148 : decode cX12_bay 148 = .ok (.iinc 3 1, 3) := by decide +kernel
theorem dX12_bay_151 : decode cX12_bay 151 = .ok (.goto (-20), 3) := by decide +kernel
theorem dX12_bay_154 : decode cX12_bay 154 = .ok (.aload_n 0, 1) := by decide +kernel
theorem dX12_bay_155 : decode cX12_bay 155 = .ok (.getfield 8, 3) := by decide +kernel
theorem dX12_bay_158 : decode cX12_bay 158 = .ok (.sipush 6864, 3) := by decide +kernel
theorem dX12_bay_161 : decode cX12_bay 161 = .ok (.iaload, 1) := by decide +kernel
theorem dX12_bay_162 : decode cX12_bay 162 = .ok (.ireturn, 1) := by decide +kernel
def f_X12_bay_131 (N : Nat) : Nat → Nat → Int32 → zH → Option (Int32 × zH)
  | 0, _, _, _ => none
  | n + 1, l0, l3, h => if (16 : Int32) ≤ l3 then (zgR h 12 (some l0) 0).bind fun x1 => (zld h 0 x1 (6864 : Int32)).bind fun x2 => some (x2, h) else (zgR h 12 (some l0) 0).bind fun x3 => (zst h 0 x3 ((6881 : Int32) + l3) ((-1) : Int32)).bind fun h1 => f_X12_bay_131 N n l0 (l3 + (1 : Int32)) h1
set_option maxHeartbeats 4000000 in
set_option maxRecDepth 100000 in
theorem s_X12_bay_131 {g : zG} (hg : g.2.1.map (fun q => q.2) = zty) {h0 : zH} (N : Nat) : ∀ (n : Nat) (l0 : Nat) (l3 : Int32) (h : zH) (r : Int32) (h' : zH), f_X12_bay_131 N n l0 l3 h = some (r, h') → zR g jX12_bay h0 131 [some (zr (some l0)), none, none, some (zi l3)] [] h (some (zi r)) h' := by
  intro n
  induction n with
  | zero =>
    intro l0 l3 h r h' hf
    cases hf
  | succ n ih =>
    intro l0 l3 h r h' hf
    rw [f_X12_bay_131] at hf
    refine zr_iload_n (x := l3) dX12_bay_131 rfl rfl ?_
    refine zr_bipush (v := (16 : Int32)) dX12_bay_132 (by decide) ?_
    by_cases hc1 : (16 : Int32) ≤ l3
    · rw [if_pos hc1] at hf
      refine zr_icge_t (tgt := 154) dX12_bay_134 (by decide) hc1 ?_
      refine zr_aload_n (v := .inl (some l0)) dX12_bay_154 rfl rfl ?_
      revert hf; refine zbi (fun x1 e_x1 hf => ?_)
      refine zq_getR kg_490 dX12_bay_155 e_x1 ?_
      refine zr_sipush (v := (6864 : Int32)) dX12_bay_158 (by decide) ?_
      revert hf; refine zbi (fun x2 e_x2 hf => ?_)
      refine zq_iald dX12_bay_161 e_x2 ?_
      cases hf
      exact zr_ret _ rfl dX12_bay_162
    · rw [if_neg hc1] at hf
      refine zr_icge_f 154 dX12_bay_134 (by decide) hc1 ?_
      refine zr_aload_n (v := .inl (some l0)) dX12_bay_137 rfl rfl ?_
      revert hf; refine zbi (fun x3 e_x3 hf => ?_)
      refine zq_getR kg_490 dX12_bay_138 e_x3 ?_
      refine zr_sipush (v := (6881 : Int32)) dX12_bay_141 (by decide) ?_
      refine zr_iload_n (x := l3) dX12_bay_144 rfl rfl ?_
      refine zr_iadd dX12_bay_145 ?_
      refine zr_iconst (v := ((-1) : Int32)) dX12_bay_146 (by decide) ?_
      revert hf; refine zbi (fun h1 e_h1 hf => ?_)
      refine zq_iast dX12_bay_147 e_h1 ?_
      refine zq_iinc (x := l3) (y := (1 : Int32)) (L' := [some (zr (some l0)), none, none, some (zi (l3 + (1 : Int32)))]) dX12_bay_148 rfl (by decide) (by decide) rfl ?_
      refine zr_goto (tgt := 131) dX12_bay_151 (by decide) ?_
      exact ih l0 (l3 + (1 : Int32)) h1 r h' hf
def f_X12_bay_70 (N : Nat) : Nat → Nat → Int32 → Int32 → Int32 → zH → Option (Int32 × zH)
  | 0, _, _, _, _, _ => none
  | n + 1, l0, l1, l2, l3, h => if l1 ≤ l3 then f_X12_bay_131 N N l0 (0 : Int32) h else (zgR h 12 (some l0) 0).bind fun x1 => (zgR h 12 (some l0) 0).bind fun x2 => (zld h 0 x2 (6864 : Int32)).bind fun x3 => (zst h 0 x1 ((6865 : Int32) + x3) l2).bind fun h1 => (zgR h1 12 (some l0) 0).bind fun x4 => (zgR h1 12 (some l0) 0).bind fun x5 => (zld h1 0 x5 (6864 : Int32)).bind fun x6 => (zst h1 0 x4 ((6873 : Int32) + x6) (0 : Int32)).bind fun h2 => (zgR h2 12 (some l0) 0).bind fun x7 => (zld h2 0 x7 (6864 : Int32)).bind fun x8 => (zst h2 0 x7 (6864 : Int32) (x8 + (1 : Int32))).bind fun h3 => f_X12_bay_70 N n l0 l1 l2 (l3 + (1 : Int32)) h3
set_option maxHeartbeats 4000000 in
set_option maxRecDepth 100000 in
theorem s_X12_bay_70 {g : zG} (hg : g.2.1.map (fun q => q.2) = zty) {h0 : zH} (N : Nat) : ∀ (n : Nat) (l0 : Nat) (l1 : Int32) (l2 : Int32) (l3 : Int32) (h : zH) (r : Int32) (h' : zH), f_X12_bay_70 N n l0 l1 l2 l3 h = some (r, h') → zR g jX12_bay h0 70 [some (zr (some l0)), some (zi l1), some (zi l2), some (zi l3)] [] h (some (zi r)) h' := by
  intro n
  induction n with
  | zero =>
    intro l0 l1 l2 l3 h r h' hf
    cases hf
  | succ n ih =>
    intro l0 l1 l2 l3 h r h' hf
    rw [f_X12_bay_70] at hf
    refine zr_iload_n (x := l3) dX12_bay_70 rfl rfl ?_
    refine zr_iload_n (x := l1) dX12_bay_71 rfl rfl ?_
    by_cases hc1 : l1 ≤ l3
    · rw [if_pos hc1] at hf
      refine zr_icge_t (tgt := 129) dX12_bay_72 (by decide) hc1 ?_
      refine zr_iconst (v := (0 : Int32)) dX12_bay_129 (by decide) ?_
      refine zq_istore_n (x := (0 : Int32)) (L' := [some (zr (some l0)), some (zi l1), some (zi l2), some (zi (0 : Int32))]) dX12_bay_130 rfl (by decide) rfl ?_
      refine zr_forget 1 (L' := [some (zr (some l0)), none, some (zi l2), some (zi (0 : Int32))]) rfl ?_
      refine zr_forget 2 (L' := [some (zr (some l0)), none, none, some (zi (0 : Int32))]) rfl ?_
      exact s_X12_bay_131 hg N N l0 (0 : Int32) h r h' hf
    · rw [if_neg hc1] at hf
      refine zr_icge_f 129 dX12_bay_72 (by decide) hc1 ?_
      refine zr_aload_n (v := .inl (some l0)) dX12_bay_75 rfl rfl ?_
      revert hf; refine zbi (fun x1 e_x1 hf => ?_)
      refine zq_getR kg_490 dX12_bay_76 e_x1 ?_
      refine zr_sipush (v := (6865 : Int32)) dX12_bay_79 (by decide) ?_
      refine zr_aload_n (v := .inl (some l0)) dX12_bay_82 rfl rfl ?_
      revert hf; refine zbi (fun x2 e_x2 hf => ?_)
      refine zq_getR kg_490 dX12_bay_83 e_x2 ?_
      refine zr_sipush (v := (6864 : Int32)) dX12_bay_86 (by decide) ?_
      revert hf; refine zbi (fun x3 e_x3 hf => ?_)
      refine zq_iald dX12_bay_89 e_x3 ?_
      refine zr_iadd dX12_bay_90 ?_
      refine zr_iload_n (x := l2) dX12_bay_91 rfl rfl ?_
      revert hf; refine zbi (fun h1 e_h1 hf => ?_)
      refine zq_iast dX12_bay_92 e_h1 ?_
      refine zr_aload_n (v := .inl (some l0)) dX12_bay_93 rfl rfl ?_
      revert hf; refine zbi (fun x4 e_x4 hf => ?_)
      refine zq_getR kg_490 dX12_bay_94 e_x4 ?_
      refine zr_sipush (v := (6873 : Int32)) dX12_bay_97 (by decide) ?_
      refine zr_aload_n (v := .inl (some l0)) dX12_bay_100 rfl rfl ?_
      revert hf; refine zbi (fun x5 e_x5 hf => ?_)
      refine zq_getR kg_490 dX12_bay_101 e_x5 ?_
      refine zr_sipush (v := (6864 : Int32)) dX12_bay_104 (by decide) ?_
      revert hf; refine zbi (fun x6 e_x6 hf => ?_)
      refine zq_iald dX12_bay_107 e_x6 ?_
      refine zr_iadd dX12_bay_108 ?_
      refine zr_iconst (v := (0 : Int32)) dX12_bay_109 (by decide) ?_
      revert hf; refine zbi (fun h2 e_h2 hf => ?_)
      refine zq_iast dX12_bay_110 e_h2 ?_
      refine zr_aload_n (v := .inl (some l0)) dX12_bay_111 rfl rfl ?_
      revert hf; refine zbi (fun x7 e_x7 hf => ?_)
      refine zq_getR kg_490 dX12_bay_112 e_x7 ?_
      refine zr_sipush (v := (6864 : Int32)) dX12_bay_115 (by decide) ?_
      refine zr_dup2 dX12_bay_118 ?_
      revert hf; refine zbi (fun x8 e_x8 hf => ?_)
      refine zq_iald dX12_bay_119 e_x8 ?_
      refine zr_iconst (v := (1 : Int32)) dX12_bay_120 (by decide) ?_
      refine zr_iadd dX12_bay_121 ?_
      revert hf; refine zbi (fun h3 e_h3 hf => ?_)
      refine zq_iast dX12_bay_122 e_h3 ?_
      refine zq_iinc (x := l3) (y := (1 : Int32)) (L' := [some (zr (some l0)), some (zi l1), some (zi l2), some (zi (l3 + (1 : Int32)))]) dX12_bay_123 rfl (by decide) (by decide) rfl ?_
      refine zr_goto (tgt := 70) dX12_bay_126 (by decide) ?_
      exact ih l0 l1 l2 (l3 + (1 : Int32)) h3 r h' hf
def f_X12_bay (N : Nat) (l0 : Nat) (l1 : Int32) (h : zH) : Option (Int32 × zH) := if l1 < (1 : Int32) then some (((-1) : Int32), h) else if (4 : Int32) < l1 then some (((-1) : Int32), h) else (zgR h 12 (some l0) 0).bind fun x1 => (zld h 0 x1 (6864 : Int32)).bind fun x2 => if (x2 + l1) ≤ (8 : Int32) then (zck h 12 (some l0)).bind fun q1 => (f_X12_keeps N q1 h).bind fun h1 => (zgR h1 12 (some l0) 0).bind fun x3 => (zld h1 0 x3 (6864 : Int32)).bind fun x4 => if x4 = 0 then f_X12_bay_70 N N l0 l1 (0 : Int32) (0 : Int32) h1 else (zgR h1 12 (some l0) 0).bind fun x5 => (zgR h1 12 (some l0) 0).bind fun x6 => (zld h1 0 x6 (6864 : Int32)).bind fun x7 => (zld h1 0 x5 (((6865 : Int32) + x7) - (1 : Int32))).bind fun x8 => f_X12_bay_70 N N l0 l1 (x8 + (1 : Int32)) (0 : Int32) h1 else some (((-1) : Int32), h)
set_option maxHeartbeats 4000000 in
set_option maxRecDepth 100000 in
theorem s_X12_bay {g : zG} (hg : g.2.1.map (fun q => q.2) = zty) {h0 : zH} (N : Nat) (l0 : Nat) (l1 : Int32) (h : zH) (r : Int32) (h' : zH) (hf : f_X12_bay N l0 l1 h = some (r, h')) : zR g jX12_bay h0 0 [some (zr (some l0)), some (zi l1), none, none] [] h (some (zi r)) h' := by
  unfold f_X12_bay at hf
  refine zr_iload_n (x := l1) dX12_bay_0 rfl rfl ?_
  refine zr_iconst (v := (1 : Int32)) dX12_bay_1 (by decide) ?_
  by_cases hc1 : l1 < (1 : Int32)
  · rw [if_pos hc1] at hf
    refine zr_iclt_t (tgt := 25) dX12_bay_2 (by decide) hc1 ?_
    refine zr_iconst (v := ((-1) : Int32)) dX12_bay_25 (by decide) ?_
    cases hf
    exact zr_ret _ rfl dX12_bay_26
  · rw [if_neg hc1] at hf
    refine zr_iclt_f 25 dX12_bay_2 (by decide) hc1 ?_
    refine zr_iload_n (x := l1) dX12_bay_5 rfl rfl ?_
    refine zr_iconst (v := (4 : Int32)) dX12_bay_6 (by decide) ?_
    by_cases hc2 : (4 : Int32) < l1
    · rw [if_pos hc2] at hf
      refine zr_icgt_t (tgt := 25) dX12_bay_7 (by decide) hc2 ?_
      refine zr_iconst (v := ((-1) : Int32)) dX12_bay_25 (by decide) ?_
      cases hf
      exact zr_ret _ rfl dX12_bay_26
    · rw [if_neg hc2] at hf
      refine zr_icgt_f 25 dX12_bay_7 (by decide) hc2 ?_
      refine zr_aload_n (v := .inl (some l0)) dX12_bay_10 rfl rfl ?_
      revert hf; refine zbi (fun x1 e_x1 hf => ?_)
      refine zq_getR kg_490 dX12_bay_11 e_x1 ?_
      refine zr_sipush (v := (6864 : Int32)) dX12_bay_14 (by decide) ?_
      revert hf; refine zbi (fun x2 e_x2 hf => ?_)
      refine zq_iald dX12_bay_17 e_x2 ?_
      refine zr_iload_n (x := l1) dX12_bay_18 rfl rfl ?_
      refine zr_iadd dX12_bay_19 ?_
      refine zr_bipush (v := (8 : Int32)) dX12_bay_20 (by decide) ?_
      by_cases hc3 : (x2 + l1) ≤ (8 : Int32)
      · rw [if_pos hc3] at hf
        refine zr_icle_t (tgt := 27) dX12_bay_22 (by decide) hc3 ?_
        refine zr_aload_n (v := .inl (some l0)) dX12_bay_27 rfl rfl ?_
        revert hf; refine zbi (fun q1 e_q1 hf => ?_)
        revert hf; refine zbi (fun h1 e_h1 hf => ?_)
        refine zq_callV (J' := jX12_keeps) (as := []) (rest := []) (r1 := none) (q := (RX12, TX12, 31)) kw_674 km_X12_keeps kt_651 dX12_bay_28 rfl (Nat.le_of_ble_eq_true rfl) rfl rfl e_q1 rfl (c_X12_keeps hg e_h1) ?_
        refine zr_aload_n (v := .inl (some l0)) dX12_bay_31 rfl rfl ?_
        revert hf; refine zbi (fun x3 e_x3 hf => ?_)
        refine zq_getR kg_490 dX12_bay_32 e_x3 ?_
        refine zr_sipush (v := (6864 : Int32)) dX12_bay_35 (by decide) ?_
        revert hf; refine zbi (fun x4 e_x4 hf => ?_)
        refine zq_iald dX12_bay_38 e_x4 ?_
        by_cases hc4 : x4 = 0
        · rw [if_pos hc4] at hf
          refine zr_ifne_f 46 dX12_bay_39 (by decide) hc4 ?_
          refine zr_iconst (v := (0 : Int32)) dX12_bay_42 (by decide) ?_
          refine zr_goto (tgt := 67) dX12_bay_43 (by decide) ?_
          refine zq_istore_n (x := (0 : Int32)) (L' := [some (zr (some l0)), some (zi l1), some (zi (0 : Int32)), none]) dX12_bay_67 rfl (by decide) rfl ?_
          refine zr_iconst (v := (0 : Int32)) dX12_bay_68 (by decide) ?_
          refine zq_istore_n (x := (0 : Int32)) (L' := [some (zr (some l0)), some (zi l1), some (zi (0 : Int32)), some (zi (0 : Int32))]) dX12_bay_69 rfl (by decide) rfl ?_
          exact s_X12_bay_70 hg N N l0 l1 (0 : Int32) (0 : Int32) h1 r h' hf
        · rw [if_neg hc4] at hf
          refine zr_ifne_t (tgt := 46) dX12_bay_39 (by decide) hc4 ?_
          refine zr_aload_n (v := .inl (some l0)) dX12_bay_46 rfl rfl ?_
          revert hf; refine zbi (fun x5 e_x5 hf => ?_)
          refine zq_getR kg_490 dX12_bay_47 e_x5 ?_
          refine zr_sipush (v := (6865 : Int32)) dX12_bay_50 (by decide) ?_
          refine zr_aload_n (v := .inl (some l0)) dX12_bay_53 rfl rfl ?_
          revert hf; refine zbi (fun x6 e_x6 hf => ?_)
          refine zq_getR kg_490 dX12_bay_54 e_x6 ?_
          refine zr_sipush (v := (6864 : Int32)) dX12_bay_57 (by decide) ?_
          revert hf; refine zbi (fun x7 e_x7 hf => ?_)
          refine zq_iald dX12_bay_60 e_x7 ?_
          refine zr_iadd dX12_bay_61 ?_
          refine zr_iconst (v := (1 : Int32)) dX12_bay_62 (by decide) ?_
          refine zr_isub dX12_bay_63 ?_
          revert hf; refine zbi (fun x8 e_x8 hf => ?_)
          refine zq_iald dX12_bay_64 e_x8 ?_
          refine zr_iconst (v := (1 : Int32)) dX12_bay_65 (by decide) ?_
          refine zr_iadd dX12_bay_66 ?_
          refine zq_istore_n (x := (x8 + (1 : Int32))) (L' := [some (zr (some l0)), some (zi l1), some (zi (x8 + (1 : Int32))), none]) dX12_bay_67 rfl (by decide) rfl ?_
          refine zr_iconst (v := (0 : Int32)) dX12_bay_68 (by decide) ?_
          refine zq_istore_n (x := (0 : Int32)) (L' := [some (zr (some l0)), some (zi l1), some (zi (x8 + (1 : Int32))), some (zi (0 : Int32))]) dX12_bay_69 rfl (by decide) rfl ?_
          exact s_X12_bay_70 hg N N l0 l1 (x8 + (1 : Int32)) (0 : Int32) h1 r h' hf
      · rw [if_neg hc3] at hf
        refine zr_icle_f 27 dX12_bay_22 (by decide) hc3 ?_
        refine zr_iconst (v := ((-1) : Int32)) dX12_bay_25 (by decide) ?_
        cases hf
        exact zr_ret _ rfl dX12_bay_26
theorem c_X12_bay {g : zG} (hg : g.2.1.map (fun q => q.2) = zty) {N : Nat} {l0 : Nat} {l1 : Int32} {h : zH} {r : Int32} {h' : zH} (hf : f_X12_bay N l0 l1 h = some (r, h')) : zCa g jX12_bay [zr (some l0), zi l1] h (some (zi r)) h' :=
  zCa.of hg (by decide +kernel) (Nat.le_of_ble_eq_true rfl) (s_X12_bay hg N l0 l1 h r h' hf)
