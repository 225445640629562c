theorem dX12_isWord_0 : decode cX12_isWord 0 = .ok (.aload_n 0, 1) := by decide +kernel
theorem dX12_isWord_1 : decode cX12_isWord 1 = .ok (.getfield 99, 3) := by decide +kernel
theorem dX12_isWord_4 : decode cX12_isWord 4 = .ok (.iconst 1, 1) := by decide +kernel
theorem dX12_isWord_5 : decode cX12_isWord 5 = .ok (.if_icmp .ne 17, 3) := by decide +kernel
theorem dX12_isWord_8 : decode cX12_isWord 8 = .ok (.aload_n 0, 1) := by decide +kernel
theorem dX12_isWord_9 : decode cX12_isWord 9 = .ok (.getfield 83, 3) := by decide +kernel
theorem dX12_isWord_12 : decode cX12_isWord 12 = .ok (.aload_n 0, 1) := by decide +kernel
theorem dX12_isWord_13 : decode cX12_isWord 13 = .ok (.getfield 89, 3) := by decide +kernel
theorem dX12_isWord_16 : decode cX12_isWord 16 = .ok (.isub, 1) := by decide +kernel
theorem dX12_isWord_17 : decode cX12_isWord 17 = .ok (.aload_n 1, 1) := by decide +kernel
theorem dX12_isWord_18 : decode cX12_isWord 18 = .ok (.arraylength, 1) := by decide +kernel
theorem dX12_isWord_19 : decode cX12_isWord 19 = .ok (.if_icmp .eq 5, 3) := by decide +kernel
theorem dX12_isWord_22 : decode cX12_isWord 22 = .ok (.iconst 0, 1) := by decide +kernel
theorem dX12_isWord_23 : decode cX12_isWord 23 = .ok (.ireturn, 1) := by decide +kernel
theorem dX12_isWord_24 : decode cX12_isWord 24 = .ok (.iconst 0, 1) := by decide +kernel
theorem dX12_isWord_25 : decode cX12_isWord 25 = .ok (.istore_n 2, 1) := by decide +kernel
theorem dX12_isWord_26 : decode cX12_isWord 26 = .ok (.iload_n 2, 1) := by decide +kernel
theorem dX12_isWord_27 : decode cX12_isWord 27 = .ok (.aload_n 1, 1) := by decide +kernel
theorem dX12_isWord_28 : decode cX12_isWord 28 = .ok (.arraylength, 1) := by decide +kernel
theorem dX12_isWord_29 : decode cX12_isWord 29 = .ok (.if_icmp .ge 28, 3) := by decide +kernel
theorem dX12_isWord_32 : decode cX12_isWord 32 = .ok (.aload_n 0, 1) := by decide +kernel
theorem dX12_isWord_33 : decode cX12_isWord 33 = .ok (.getfield 14, 3) := by decide +kernel
theorem dX12_isWord_36 : decode cX12_isWord 36 = .ok (.aload_n 0, 1) := by decide +kernel
theorem dX12_isWord_37 : decode cX12_isWord 37 = .ok (.getfield 89, 3) := by decide +kernel
theorem dX12_isWord_40 : decode cX12_isWord 40 = .ok (.iload_n 2, 1) := by decide +kernel
theorem dX12_isWord_41 : decode cX12_isWord 41 = .ok (.iadd, 1) := by decide +kernel
theorem dX12_isWord_42 : decode cX12_isWord 42 = .ok (.iaload, 1) := by decide +kernel
theorem dX12_isWord_43 : decode cX12_isWord 43 = .ok (.aload_n 1, 1) := by decide +kernel
theorem dX12_isWord_44 : decode cX12_isWord 44 = .ok (.iload_n 2, 1) := by decide +kernel
theorem dX12_isWord_45 : decode cX12_isWord 45 = .ok (.caload, 1) := by decide +kernel
theorem dX12_isWord_46 : decode cX12_isWord 46 = .ok (.if_icmp .eq 5, 3) := by decide +kernel
theorem dX12_isWord_49 : decode cX12_isWord 49 = .ok (.iconst 0, 1) := by decide +kernel
theorem dX12_isWord_50 : decode cX12_isWord 50 = .ok (.ireturn, 1) := by decide +kernel
theorem dX12_isWord_51 : decode cX12_isWord 51 = .ok (.iinc 2 1, 3) := by decide +kernel
theorem dX12_isWord_54 : decode cX12_isWord 54 = .ok (.goto (-28), 3) := by decide +kernel
theorem dX12_isWord_57 : decode cX12_isWord 57 = .ok (.iconst 1, 1) := by decide +kernel
theorem dX12_isWord_58 : decode cX12_isWord 58 = .ok (.ireturn, 1) := by decide +kernel
def f_X12_isWord_26 (N : Nat) : Nat → Nat → Option Nat → Int32 → zH → Option Int32
  | 0, _, _, _, _ => none
  | n + 1, l0, l1, l2, h => (zlen h l1).bind fun x1 => if x1 ≤ l2 then some (1 : Int32) else (zgR h 12 (some l0) 2).bind fun x2 => (zgI h 12 (some l0) 7).bind fun x3 => (zld h 0 x2 (x3 + l2)).bind fun x4 => (zld h 2 l1 l2).bind fun x5 => if x4 = x5 then f_X12_isWord_26 N n l0 l1 (l2 + (1 : Int32)) h else some (0 : Int32)
set_option maxHeartbeats 4000000 in
set_option maxRecDepth 100000 in
theorem s_X12_isWord_26 {g : zG} (hg : g.2.1.map (fun q => q.2) = zty) {h0 : zH} (N : Nat) : ∀ (n : Nat) (l0 : Nat) (l1 : Option Nat) (l2 : Int32) (h : zH) (r : Int32), f_X12_isWord_26 N n l0 l1 l2 h = some r → zR g jX12_isWord h0 26 [some (zr (some l0)), some (zr l1), some (zi l2)] [] h (some (zi r)) h := by
  intro n
  induction n with
  | zero =>
    intro l0 l1 l2 h r hf
    cases hf
  | succ n ih =>
    intro l0 l1 l2 h r hf
    rw [f_X12_isWord_26] at hf
    refine zr_iload_n (x := l2) dX12_isWord_26 rfl rfl ?_
    refine zr_aload_n (v := .inl l1) dX12_isWord_27 rfl rfl ?_
    revert hf; refine zbi (fun x1 e_x1 hf => ?_)
    refine zq_alen dX12_isWord_28 e_x1 ?_
    by_cases hc1 : x1 ≤ l2
    · rw [if_pos hc1] at hf
      refine zr_icge_t (tgt := 57) dX12_isWord_29 (by decide) hc1 ?_
      refine zr_iconst (v := (1 : Int32)) dX12_isWord_57 (by decide) ?_
      cases hf
      exact zr_ret _ rfl dX12_isWord_58
    · rw [if_neg hc1] at hf
      refine zr_icge_f 57 dX12_isWord_29 (by decide) hc1 ?_
      refine zr_aload_n (v := .inl (some l0)) dX12_isWord_32 rfl rfl ?_
      revert hf; refine zbi (fun x2 e_x2 hf => ?_)
      refine zq_getR kg_512 dX12_isWord_33 e_x2 ?_
      refine zr_aload_n (v := .inl (some l0)) dX12_isWord_36 rfl rfl ?_
      revert hf; refine zbi (fun x3 e_x3 hf => ?_)
      refine zq_getI kg_525 dX12_isWord_37 e_x3 ?_
      refine zr_iload_n (x := l2) dX12_isWord_40 rfl rfl ?_
      refine zr_iadd dX12_isWord_41 ?_
      revert hf; refine zbi (fun x4 e_x4 hf => ?_)
      refine zq_iald dX12_isWord_42 e_x4 ?_
      refine zr_aload_n (v := .inl l1) dX12_isWord_43 rfl rfl ?_
      refine zr_iload_n (x := l2) dX12_isWord_44 rfl rfl ?_
      revert hf; refine zbi (fun x5 e_x5 hf => ?_)
      refine zq_cald dX12_isWord_45 e_x5 ?_
      by_cases hc2 : x4 = x5
      · rw [if_pos hc2] at hf
        refine zr_iceq_t (tgt := 51) dX12_isWord_46 (by decide) hc2 ?_
        refine zq_iinc (x := l2) (y := (1 : Int32)) (L' := [some (zr (some l0)), some (zr l1), some (zi (l2 + (1 : Int32)))]) dX12_isWord_51 rfl (by decide) (by decide) rfl ?_
        refine zr_goto (tgt := 26) dX12_isWord_54 (by decide) ?_
        exact ih l0 l1 (l2 + (1 : Int32)) h r hf
      · rw [if_neg hc2] at hf
        refine zr_iceq_f 51 dX12_isWord_46 (by decide) hc2 ?_
        refine zr_iconst (v := (0 : Int32)) dX12_isWord_49 (by decide) ?_
        cases hf
        exact zr_ret _ rfl dX12_isWord_50
def f_X12_isWord (N : Nat) (l0 : Nat) (l1 : Option Nat) (h : zH) : Option Int32 := (zgI h 12 (some l0) 6).bind fun x1 => if x1 = (1 : Int32) then (zgI h 12 (some l0) 4).bind fun x2 => (zgI h 12 (some l0) 7).bind fun x3 => (zlen h l1).bind fun x4 => if (x2 - x3) = x4 then f_X12_isWord_26 N N l0 l1 (0 : Int32) h else some (0 : Int32) else some (0 : Int32)
set_option maxHeartbeats 4000000 in
set_option maxRecDepth 100000 in
theorem s_X12_isWord {g : zG} (hg : g.2.1.map (fun q => q.2) = zty) {h0 : zH} (N : Nat) (l0 : Nat) (l1 : Option Nat) (h : zH) (r : Int32) (hf : f_X12_isWord N l0 l1 h = some r) : zR g jX12_isWord h0 0 [some (zr (some l0)), some (zr l1), none] [] h (some (zi r)) h := by
  unfold f_X12_isWord at hf
  refine zr_aload_n (v := .inl (some l0)) dX12_isWord_0 rfl rfl ?_
  revert hf; refine zbi (fun x1 e_x1 hf => ?_)
  refine zq_getI kg_529 dX12_isWord_1 e_x1 ?_
  refine zr_iconst (v := (1 : Int32)) dX12_isWord_4 (by decide) ?_
  by_cases hc1 : x1 = (1 : Int32)
  · rw [if_pos hc1] at hf
    refine zr_icne_f 22 dX12_isWord_5 (by decide) hc1 ?_
    refine zr_aload_n (v := .inl (some l0)) dX12_isWord_8 rfl rfl ?_
    revert hf; refine zbi (fun x2 e_x2 hf => ?_)
    refine zq_getI kg_518 dX12_isWord_9 e_x2 ?_
    refine zr_aload_n (v := .inl (some l0)) dX12_isWord_12 rfl rfl ?_
    revert hf; refine zbi (fun x3 e_x3 hf => ?_)
    refine zq_getI kg_525 dX12_isWord_13 e_x3 ?_
    refine zr_isub dX12_isWord_16 ?_
    refine zr_aload_n (v := .inl l1) dX12_isWord_17 rfl rfl ?_
    revert hf; refine zbi (fun x4 e_x4 hf => ?_)
    refine zq_alen dX12_isWord_18 e_x4 ?_
    by_cases hc2 : (x2 - x3) = x4
    · rw [if_pos hc2] at hf
      refine zr_iceq_t (tgt := 24) dX12_isWord_19 (by decide) hc2 ?_
      refine zr_iconst (v := (0 : Int32)) dX12_isWord_24 (by decide) ?_
      refine zq_istore_n (x := (0 : Int32)) (L' := [some (zr (some l0)), some (zr l1), some (zi (0 : Int32))]) dX12_isWord_25 rfl (by decide) rfl ?_
      exact s_X12_isWord_26 hg N N l0 l1 (0 : Int32) h r hf
    · rw [if_neg hc2] at hf
      refine zr_iceq_f 24 dX12_isWord_19 (by decide) hc2 ?_
      refine zr_iconst (v := (0 : Int32)) dX12_isWord_22 (by decide) ?_
      cases hf
      exact zr_ret _ rfl dX12_isWord_23
  · rw [if_neg hc1] at hf
    refine zr_icne_t (tgt := 22) dX12_isWord_5 (by decide) hc1 ?_
    refine zr_iconst (v := (0 : Int32)) dX12_isWord_22 (by decide) ?_
    cases hf
    exact zr_ret _ rfl dX12_isWord_23
theorem c_X12_isWord {g : zG} (hg : g.2.1.map (fun q => q.2) = zty) {N : Nat} {l0 : Nat} {l1 : Option Nat} {h : zH} {r : Int32} (hf : f_X12_isWord N l0 l1 h = some r) : zCa g jX12_isWord [zr (some l0), zr l1] h (some (zi r)) h :=
  zCa.of hg (by decide +kernel) (Nat.le_of_ble_eq_true rfl) (s_X12_isWord hg N l0 l1 h r hf)
theorem dX12_numberOf_0 : decode cX12_numberOf 0 = .ok (.aload_n 0, 1) := by decide +kernel
theorem dX12_numberOf_1 : decode cX12_numberOf 1 = .ok (.invokevirtual 105, 3) := by decide +kernel
theorem dX12_numberOf_4 : decode cX12_numberOf 4 = .ok (.aload_n 0, 1) := by decide +kernel
theorem dX12_numberOf_5 : decode cX12_numberOf 5 = .ok (.getfield 99, 3) := by decide +kernel
theorem dX12_numberOf_8 : decode cX12_numberOf 8 = .ok (.iconst 3, 1) := by decide +kernel
theorem dX12_numberOf_9 : decode cX12_numberOf 9 = .ok (.if_icmp .ne 15, 3) := by decide +kernel
theorem dX12_numberOf_12 : decode cX12_numberOf 12 = .ok (.aload_n 0, 1) := by decide +kernel
theorem dX12_numberOf_13 : decode cX12_numberOf 13 = .ok (.iconst 1, 1) := by decide +kernel
theorem dX12_numberOf_14 : decode cX12_numberOf 14 = .ok (.aload_n 0, 1) := by decide +kernel
theorem dX12_numberOf_15 : decode cX12_numberOf 15 = .ok (.getfield 83, 3) := by decide +kernel
theorem dX12_numberOf_18 : decode cX12_numberOf 18 = .ok (.invokevirtual 108, 3) := by decide +kernel
theorem dX12_numberOf_21 : decode cX12_numberOf 21 = .ok (.goto 48, 3) := by decide +kernel
theorem dX12_numberOf_24 : decode cX12_numberOf 24 = .ok (.aload_n 0, 1) := by decide +kernel
theorem dX12_numberOf_25 : decode cX12_numberOf 25 = .ok (.getfield 99, 3) := by decide +kernel
theorem dX12_numberOf_28 : decode cX12_numberOf 28 = .ok (.iconst 2, 1) := by decide +kernel
theorem dX12_numberOf_29 : decode cX12_numberOf 29 = .ok (.if_icmp .eq 15, 3) := by decide +kernel
theorem dX12_numberOf_32 : decode cX12_numberOf 32 = .ok (.aload_n 0, 1) := by decide +kernel
theorem dX12_numberOf_33 : decode cX12_numberOf 33 = .ok (.iconst 1, 1) := by decide +kernel
theorem dX12_numberOf_34 : decode cX12_numberOf 34 = .ok (.aload_n 0, 1) := by decide +kernel
theorem dX12_numberOf_35 : decode cX12_numberOf 35 = .ok (.getfield 89, 3) := by decide +kernel
theorem dX12_numberOf_38 : decode cX12_numberOf 38 = .ok (.invokevirtual 108, 3) := by decide +kernel
theorem dX12_numberOf_41 : decode cX12_numberOf 41 = .ok (.goto 28, 3) := by decide +kernel
theorem dX12_numberOf_44 : decode cX12_numberOf 44 = .ok (.aload_n 0, 1) := by decide +kernel
theorem dX12_numberOf_45 : decode cX12_numberOf 45 = .ok (.getfield 102, 3) := by decide +kernel
theorem dX12_numberOf_48 : decode cX12_numberOf 48 = .ok (.iload_n 1, 1) := by decide +kernel
theorem dX12_numberOf_49 : decode cX12_numberOf 49 = .ok (.if_icmp .lt 11, 3) := by decide +kernel
theorem dX12_numberOf_52 : decode cX12_numberOf 52 = .ok (.aload_n 0, 1) := by decide +kernel
theorem dX12_numberOf_53 : decode cX12_numberOf 53 = .ok (.getfield 102, 3) := by decide +kernel
theorem dX12_numberOf_56 : decode cX12_numberOf 56 = .ok (.iload_n 2, 1) := by decide +kernel
theorem dX12_numberOf_57 : decode cX12_numberOf 57 = .ok (.if_icmp .le 12, 3) := by decide +kernel
theorem dX12_numberOf_60 : decode cX12_numberOf 60 = .ok (.aload_n 0, 1) := by decide +kernel
theorem dX12_numberOf_61 : decode cX12_numberOf 61 = .ok (.iconst 2, 1) := by decide +kernel
theorem dX12_numberOf_62 : decode cX12_numberOf 62 = .ok (.aload_n 0, 1) := by decide +kernel
theorem dX12_numberOf_63 : decode cX12_numberOf 63 = .ok (.getfield 89, 3) := by decide +kernel
theorem dX12_numberOf_66 : decode cX12_numberOf 66 = .ok (.invokevirtual 108, 3) := by decide +kernel
theorem dX12_numberOf_69 : decode cX12_numberOf 69 = .ok (.aload_n 0, 1) := by decide +kernel
theorem dX12_numberOf_70 : decode cX12_numberOf 70 = .ok (.getfield 102, 3) := by decide +kernel
theorem dX12_numberOf_73 : decode cX12_numberOf 73 = .ok (.ireturn, 1) := by decide +kernel
def f_X12_numberOf_60 (N : Nat) (l0 : Nat) (h : zH) : Option (Int32 × zH) := (zgI h 12 (some l0) 7).bind fun x1 => (zck h 12 (some l0)).bind fun q1 => (f_X12_fail N q1 (2 : Int32) x1 h).bind fun h1 => (zgI h1 12 (some l0) 8).bind fun x2 => some (x2, h1)
set_option maxHeartbeats 4000000 in
set_option maxRecDepth 100000 in
theorem s_X12_numberOf_60 {g : zG} (hg : g.2.1.map (fun q => q.2) = zty) {h0 : zH} (N : Nat) (l0 : Nat) (h : zH) (r : Int32) (h' : zH) (hf : f_X12_numberOf_60 N l0 h = some (r, h')) : zR g jX12_numberOf h0 60 [some (zr (some l0)), none, none] [] h (some (zi r)) h' := by
  unfold f_X12_numberOf_60 at hf
  refine zr_aload_n (v := .inl (some l0)) dX12_numberOf_60 rfl rfl ?_
  refine zr_iconst (v := (2 : Int32)) dX12_numberOf_61 (by decide) ?_
  refine zr_aload_n (v := .inl (some l0)) dX12_numberOf_62 rfl rfl ?_
  revert hf; refine zbi (fun x1 e_x1 hf => ?_)
  refine zq_getI kg_525 dX12_numberOf_63 e_x1 ?_
  revert hf; refine zbi (fun q1 e_q1 hf => ?_)
  revert hf; refine zbi (fun h1 e_h1 hf => ?_)
  refine zq_callV (J' := jX12_fail) (as := [zi (2 : Int32), zi x1]) (rest := []) (r1 := none) (q := (RX12, TX12, 31)) kw_632 km_X12_fail kt_532 dX12_numberOf_66 rfl (Nat.le_of_ble_eq_true rfl) rfl rfl e_q1 rfl (c_X12_fail hg e_h1) ?_
  refine zr_aload_n (v := .inl (some l0)) dX12_numberOf_69 rfl rfl ?_
  revert hf; refine zbi (fun x2 e_x2 hf => ?_)
  refine zq_getI kg_526 dX12_numberOf_70 e_x2 ?_
  cases hf
  exact zr_ret _ rfl dX12_numberOf_73
def f_X12_numberOf (N : Nat) (l0 : Nat) (l1 : Int32) (l2 : Int32) (h : zH) : Option (Int32 × zH) := (zck h 12 (some l0)).bind fun q1 => (f_X12_next N q1 h).bind fun h1 => (zgI h1 12 (some l0) 6).bind fun x1 => if x1 = (3 : Int32) then (zgI h1 12 (some l0) 4).bind fun x8 => (zck h1 12 (some l0)).bind fun q3 => (f_X12_fail N q3 (1 : Int32) x8 h1).bind fun h3 => (zgI h3 12 (some l0) 8).bind fun x9 => some (x9, h3) else (zgI h1 12 (some l0) 6).bind fun x2 => if x2 = (2 : Int32) then (zgI h1 12 (some l0) 8).bind fun x3 => if x3 < l1 then f_X12_numberOf_60 N l0 h1 else (zgI h1 12 (some l0) 8).bind fun x4 => if x4 ≤ l2 then (zgI h1 12 (some l0) 8).bind fun x5 => some (x5, h1) else f_X12_numberOf_60 N l0 h1 else (zgI h1 12 (some l0) 7).bind fun x6 => (zck h1 12 (some l0)).bind fun q2 => (f_X12_fail N q2 (1 : Int32) x6 h1).bind fun h2 => (zgI h2 12 (some l0) 8).bind fun x7 => some (x7, h2)
set_option maxHeartbeats 4000000 in
set_option maxRecDepth 100000 in
theorem s_X12_numberOf {g : zG} (hg : g.2.1.map (fun q => q.2) = zty) {h0 : zH} (N : Nat) (l0 : Nat) (l1 : Int32) (l2 : Int32) (h : zH) (r : Int32) (h' : zH) (hf : f_X12_numberOf N l0 l1 l2 h = some (r, h')) : zR g jX12_numberOf h0 0 [some (zr (some l0)), some (zi l1), some (zi l2)] [] h (some (zi r)) h' := by
  unfold f_X12_numberOf at hf
  refine zr_aload_n (v := .inl (some l0)) dX12_numberOf_0 rfl rfl ?_
  revert hf; refine zbi (fun q1 e_q1 hf => ?_)
  revert hf; refine zbi (fun h1 e_h1 hf => ?_)
  refine zq_callV (J' := jX12_next) (as := []) (rest := []) (r1 := none) (q := (RX12, TX12, 31)) kw_636 km_X12_next kt_534 dX12_numberOf_1 rfl (Nat.le_of_ble_eq_true rfl) rfl rfl e_q1 rfl (c_X12_next hg e_h1) ?_
  refine zr_aload_n (v := .inl (some l0)) dX12_numberOf_4 rfl rfl ?_
  revert hf; refine zbi (fun x1 e_x1 hf => ?_)
  refine zq_getI kg_529 dX12_numberOf_5 e_x1 ?_
  refine zr_iconst (v := (3 : Int32)) dX12_numberOf_8 (by decide) ?_
  by_cases hc1 : x1 = (3 : Int32)
  · rw [if_pos hc1] at hf
    refine zr_icne_f 24 dX12_numberOf_9 (by decide) hc1 ?_
    refine zr_aload_n (v := .inl (some l0)) dX12_numberOf_12 rfl rfl ?_
    refine zr_iconst (v := (1 : Int32)) dX12_numberOf_13 (by decide) ?_
    refine zr_aload_n (v := .inl (some l0)) dX12_numberOf_14 rfl rfl ?_
    revert hf; refine zbi (fun x8 e_x8 hf => ?_)
    refine zq_getI kg_518 dX12_numberOf_15 e_x8 ?_
    revert hf; refine zbi (fun q3 e_q3 hf => ?_)
    revert hf; refine zbi (fun h3 e_h3 hf => ?_)
    refine zq_callV (J' := jX12_fail) (as := [zi (1 : Int32), zi x8]) (rest := []) (r1 := none) (q := (RX12, TX12, 31)) kw_632 km_X12_fail kt_532 dX12_numberOf_18 rfl (Nat.le_of_ble_eq_true rfl) rfl rfl e_q3 rfl (c_X12_fail hg e_h3) ?_
    refine zr_goto (tgt := 69) dX12_numberOf_21 (by decide) ?_
    refine zr_aload_n (v := .inl (some l0)) dX12_numberOf_69 rfl rfl ?_
    revert hf; refine zbi (fun x9 e_x9 hf => ?_)
    refine zq_getI kg_526 dX12_numberOf_70 e_x9 ?_
    cases hf
    exact zr_ret _ rfl dX12_numberOf_73
  · rw [if_neg hc1] at hf
    refine zr_icne_t (tgt := 24) dX12_numberOf_9 (by decide) hc1 ?_
    refine zr_aload_n (v := .inl (some l0)) dX12_numberOf_24 rfl rfl ?_
    revert hf; refine zbi (fun x2 e_x2 hf => ?_)
    refine zq_getI kg_529 dX12_numberOf_25 e_x2 ?_
    refine zr_iconst (v := (2 : Int32)) dX12_numberOf_28 (by decide) ?_
    by_cases hc2 : x2 = (2 : Int32)
    · rw [if_pos hc2] at hf
      refine zr_iceq_t (tgt := 44) dX12_numberOf_29 (by decide) hc2 ?_
      refine zr_aload_n (v := .inl (some l0)) dX12_numberOf_44 rfl rfl ?_
      revert hf; refine zbi (fun x3 e_x3 hf => ?_)
      refine zq_getI kg_526 dX12_numberOf_45 e_x3 ?_
      refine zr_iload_n (x := l1) dX12_numberOf_48 rfl rfl ?_
      by_cases hc3 : x3 < l1
      · rw [if_pos hc3] at hf
        refine zr_iclt_t (tgt := 60) dX12_numberOf_49 (by decide) hc3 ?_
        refine zr_forget 1 (L' := [some (zr (some l0)), none, some (zi l2)]) rfl ?_
        refine zr_forget 2 (L' := [some (zr (some l0)), none, none]) rfl ?_
        exact s_X12_numberOf_60 hg N l0 h1 r h' hf
      · rw [if_neg hc3] at hf
        refine zr_iclt_f 60 dX12_numberOf_49 (by decide) hc3 ?_
        refine zr_aload_n (v := .inl (some l0)) dX12_numberOf_52 rfl rfl ?_
        revert hf; refine zbi (fun x4 e_x4 hf => ?_)
        refine zq_getI kg_526 dX12_numberOf_53 e_x4 ?_
        refine zr_iload_n (x := l2) dX12_numberOf_56 rfl rfl ?_
        by_cases hc4 : x4 ≤ l2
        · rw [if_pos hc4] at hf
          refine zr_icle_t (tgt := 69) dX12_numberOf_57 (by decide) hc4 ?_
          refine zr_aload_n (v := .inl (some l0)) dX12_numberOf_69 rfl rfl ?_
          revert hf; refine zbi (fun x5 e_x5 hf => ?_)
          refine zq_getI kg_526 dX12_numberOf_70 e_x5 ?_
          cases hf
          exact zr_ret _ rfl dX12_numberOf_73
        · rw [if_neg hc4] at hf
          refine zr_icle_f 69 dX12_numberOf_57 (by decide) hc4 ?_
          refine zr_forget 1 (L' := [some (zr (some l0)), none, some (zi l2)]) rfl ?_
          refine zr_forget 2 (L' := [some (zr (some l0)), none, none]) rfl ?_
          exact s_X12_numberOf_60 hg N l0 h1 r h' hf
    · rw [if_neg hc2] at hf
      refine zr_iceq_f 44 dX12_numberOf_29 (by decide) hc2 ?_
      refine zr_aload_n (v := .inl (some l0)) dX12_numberOf_32 rfl rfl ?_
      refine zr_iconst (v := (1 : Int32)) dX12_numberOf_33 (by decide) ?_
      refine zr_aload_n (v := .inl (some l0)) dX12_numberOf_34 rfl rfl ?_
      revert hf; refine zbi (fun x6 e_x6 hf => ?_)
      refine zq_getI kg_525 dX12_numberOf_35 e_x6 ?_
      revert hf; refine zbi (fun q2 e_q2 hf => ?_)
      revert hf; refine zbi (fun h2 e_h2 hf => ?_)
      refine zq_callV (J' := jX12_fail) (as := [zi (1 : Int32), zi x6]) (rest := []) (r1 := none) (q := (RX12, TX12, 31)) kw_632 km_X12_fail kt_532 dX12_numberOf_38 rfl (Nat.le_of_ble_eq_true rfl) rfl rfl e_q2 rfl (c_X12_fail hg e_h2) ?_
      refine zr_goto (tgt := 69) dX12_numberOf_41 (by decide) ?_
      refine zr_aload_n (v := .inl (some l0)) dX12_numberOf_69 rfl rfl ?_
      revert hf; refine zbi (fun x7 e_x7 hf => ?_)
      refine zq_getI kg_526 dX12_numberOf_70 e_x7 ?_
      cases hf
      exact zr_ret _ rfl dX12_numberOf_73
theorem c_X12_numberOf {g : zG} (hg : g.2.1.map (fun q => q.2) = zty) {N : Nat} {l0 : Nat} {l1 : Int32} {l2 : Int32} {h : zH} {r : Int32} {h' : zH} (hf : f_X12_numberOf N l0 l1 l2 h = some (r, h')) : zCa g jX12_numberOf [zr (some l0), zi l1, zi l2] h (some (zi r)) h' :=
  zCa.of hg (by decide +kernel) (Nat.le_of_ble_eq_true rfl) (s_X12_numberOf hg N l0 l1 l2 h r h' hf)
theorem dX12_sign_0 : decode cX12_sign 0 = .ok (.aload_n 0, 1) := by decide +kernel
theorem dX12_sign_1 : decode cX12_sign 1 = .ok (.invokevirtual 105, 3) := by decide +kernel
theorem dX12_sign_4 : decode cX12_sign 4 = .ok (.aload_n 0, 1) := by decide +kernel
theorem dX12_sign_5 : decode cX12_sign 5 = .ok (.getfield 99, 3) := by decide +kernel
theorem dX12_sign_8 : decode cX12_sign 8 = .ok (.iload_n 1, 1) := by decide +kernel
theorem dX12_sign_9 : decode cX12_sign 9 = .ok (.if_icmp .eq 12, 3) := by decide +kernel
theorem dX12_sign_12 : decode cX12_sign 12 = .ok (.aload_n 0, 1) := by decide +kernel
theorem dX12_sign_13 : decode cX12_sign 13 = .ok (.iconst 1, 1) := by decide +kernel
theorem dX12_sign_14 : decode cX12_sign 14 = .ok (.aload_n 0, 1) := by decide +kernel
theorem dX12_sign_15 : decode cX12_sign 15 = .ok (.getfield 89, 3) := by decide +kernel
theorem dX12_sign_18 : decode cX12_sign 18 = .ok (.invokevirtual 108, 3) := by decide +kernel
theorem dX12_sign_21 : decode cX12_sign 21 = .ok (.return_, 1) := by decide +kernel
def f_X12_sign (N : Nat) (l0 : Nat) (l1 : Int32) (h : zH) : Option zH := (zck h 12 (some l0)).bind fun q1 => (f_X12_next N q1 h).bind fun h1 => (zgI h1 12 (some l0) 6).bind fun x1 => if x1 = l1 then some h1 else (zgI h1 12 (some l0) 7).bind fun x2 => (zck h1 12 (some l0)).bind fun q2 => (f_X12_fail N q2 (1 : Int32) x2 h1).bind fun h2 => some h2
set_option maxHeartbeats 4000000 in
set_option maxRecDepth 100000 in
theorem s_X12_sign {g : zG} (hg : g.2.1.map (fun q => q.2) = zty) {h0 : zH} (N : Nat) (l0 : Nat) (l1 : Int32) (h : zH) (h' : zH) (hf : f_X12_sign N l0 l1 h = some h') : zR g jX12_sign h0 0 [some (zr (some l0)), some (zi l1)] [] h none h' := by
  unfold f_X12_sign at hf
  refine zr_aload_n (v := .inl (some l0)) dX12_sign_0 rfl rfl ?_
  revert hf; refine zbi (fun q1 e_q1 hf => ?_)
  revert hf; refine zbi (fun h1 e_h1 hf => ?_)
  refine zq_callV (J' := jX12_next) (as := []) (rest := []) (r1 := none) (q := (RX12, TX12, 31)) kw_636 km_X12_next kt_535 dX12_sign_1 rfl (Nat.le_of_ble_eq_true rfl) rfl rfl e_q1 rfl (c_X12_next hg e_h1) ?_
  refine zr_aload_n (v := .inl (some l0)) dX12_sign_4 rfl rfl ?_
  revert hf; refine zbi (fun x1 e_x1 hf => ?_)
  refine zq_getI kg_529 dX12_sign_5 e_x1 ?_
  refine zr_iload_n (x := l1) dX12_sign_8 rfl rfl ?_
  by_cases hc1 : x1 = l1
  · rw [if_pos hc1] at hf
    refine zr_iceq_t (tgt := 21) dX12_sign_9 (by decide) hc1 ?_
    cases hf
    exact zr_ret none trivial dX12_sign_21
  · rw [if_neg hc1] at hf
    refine zr_iceq_f 21 dX12_sign_9 (by decide) hc1 ?_
    refine zr_aload_n (v := .inl (some l0)) dX12_sign_12 rfl rfl ?_
    refine zr_iconst (v := (1 : Int32)) dX12_sign_13 (by decide) ?_
    refine zr_aload_n (v := .inl (some l0)) dX12_sign_14 rfl rfl ?_
    revert hf; refine zbi (fun x2 e_x2 hf => ?_)
    refine zq_getI kg_525 dX12_sign_15 e_x2 ?_
    revert hf; refine zbi (fun q2 e_q2 hf => ?_)
    revert hf; refine zbi (fun h2 e_h2 hf => ?_)
    refine zq_callV (J' := jX12_fail) (as := [zi (1 : Int32), zi x2]) (rest := []) (r1 := none) (q := (RX12, TX12, 31)) kw_632 km_X12_fail kt_536 dX12_sign_18 rfl (Nat.le_of_ble_eq_true rfl) rfl rfl e_q2 rfl (c_X12_fail hg e_h2) ?_
    cases hf
    exact zr_ret none trivial dX12_sign_21
theorem c_X12_sign {g : zG} (hg : g.2.1.map (fun q => q.2) = zty) {N : Nat} {l0 : Nat} {l1 : Int32} {h : zH} {h' : zH} (hf : f_X12_sign N l0 l1 h = some h') : zCa g jX12_sign [zr (some l0), zi l1] h none h' :=
  zCa.of hg (by decide +kernel) (Nat.le_of_ble_eq_true rfl) (s_X12_sign hg N l0 l1 h h' hf)
theorem dX12_face_0 : decode cX12_face 0 = .ok (.aload_n 0, 1) := by decide +kernel
theorem dX12_face_1 : decode cX12_face 1 = .ok (.getfield 46, 3) := by decide +kernel
theorem dX12_face_4 : decode cX12_face 4 = .ok (.bipush 14, 2) := by decide +kernel
theorem dX12_face_6 : decode cX12_face 6 = .ok (.iaload, 1) := by decide +kernel
theorem dX12_face_7 : decode cX12_face 7 = .ok (.iconst 4, 1) := by decide +kernel
theorem dX12_face_8 : decode cX12_face 8 = .ok (.if_icmp .ne 12, 3) := by decide +kernel
theorem dX12_face_11 : decode cX12_face 11 = .ok (.aload_n 0, 1) := by decide +kernel
theorem dX12_face_12 : decode cX12_face 12 = .ok (.iconst 3, 1) := by decide +kernel
theorem dX12_face_13 : decode cX12_face 13 = .ok (.aload_n 0, 1) := by decide +kernel
theorem dX12_face_14 : decode cX12_face 14 = .ok (.getfield 89, 3) := by decide +kernel
theorem dX12_face_17 : decode cX12_face 17 = .ok (.invokevirtual 108, 3) := by decide +kernel
theorem dX12_face_20 : decode cX12_face 20 = .ok (.aload_n 0, 1) := by decide +kernel
theorem dX12_face_21 : decode cX12_face 21 = .ok (.getfield 46, 3) := by decide +kernel
theorem dX12_face_24 : decode cX12_face 24 = .ok (.bipush 14, 2) := by decide +kernel
theorem dX12_face_26 : decode cX12_face 26 = .ok (.iaload, 1) := by decide +kernel
theorem dX12_face_27 : decode cX12_face 27 = .ok (.istore_n 1, 1) := by decide +kernel
theorem dX12_face_28 : decode cX12_face 28 = .ok (.sipush 10001, 3) := by decide +kernel
theorem dX12_face_31 : decode cX12_face 31 = .ok (.istore_n 2, 1) := by decide +kernel
theorem dX12_face_32 : decode cX12_face 32 = .ok (.iconst 0, 1) := by decide +kernel
theorem dX12_face_33 : decode cX12_face 33 = .ok (.istore_n 3, 1) := by decide +kernel
theorem dX12_face_34 : decode cX12_face 34 = .ok (.aload_n 0, 1) := by decide +kernel
theorem dX12_face_35 : decode cX12_face 35 = .ok (.invokevirtual 105, 3) := by decide +kernel
theorem dX12_face_38 : decode cX12_face 38 = .ok (.aload_n 0, 1) := by decide +kernel
theorem dX12_face_39 : decode cX12_face 39 = .ok (.getfield 99, 3) := by decide +kernel
theorem dX12_face_42 : decode cX12_face 42 = .ok (.iconst 2, 1) := by decide +kernel
theorem dX12_face_43 : decode cX12_face 43 = .ok (.if_icmp .eq 20, 3) := by decide +kernel
theorem dX12_face_46 : decode cX12_face 46 = .ok (.aload_n 0, 1) := by decide +kernel
theorem dX12_face_47 : decode cX12_face 47 = .ok (.getfield 99, 3) := by decide +kernel
theorem dX12_face_50 : decode cX12_face 50 = .ok (.iconst 3, 1) := by decide +kernel
theorem dX12_face_51 : decode cX12_face 51 = .ok (.if_icmp .eq 12, 3) := by decide +kernel
theorem dX12_face_54 : decode cX12_face 54 = .ok (.aload_n 0, 1) := by decide +kernel
theorem dX12_face_55 : decode cX12_face 55 = .ok (.iconst 1, 1) := by decide +kernel
theorem dX12_face_56 : decode cX12_face 56 = .ok (.aload_n 0, 1) := by decide +kernel
theorem dX12_face_57 : decode cX12_face 57 = .ok (.getfield 89, 3) := by decide +kernel
theorem dX12_face_60 : decode cX12_face 60 = .ok (.invokevirtual 108, 3) := by decide +kernel
theorem dX12_face_63 : decode cX12_face 63 = .ok (.aload_n 0, 1) := by decide +kernel
theorem dX12_face_64 : decode cX12_face 64 = .ok (.getfield 77, 3) := by decide +kernel
theorem dX12_face_67 : decode cX12_face 67 = .ok (.ifCond .ne 204, 3) := by decide +kernel
theorem dX12_face_70 : decode cX12_face 70 = .ok (.aload_n 0, 1) := by decide +kernel
theorem dX12_face_71 : decode cX12_face 71 = .ok (.getfield 99, 3) := by decide +kernel
theorem dX12_face_74 : decode cX12_face 74 = .ok (.iconst 2, 1) := by decide +kernel
theorem dX12_face_75 : decode cX12_face 75 = .ok (.if_icmp .eq 11, 3) := by decide +kernel
theorem dX12_face_78 : decode cX12_face 78 = .ok (.aload_n 0, 1) := by decide +kernel
theorem dX12_face_79 : decode cX12_face 79 = .ok (.getfield 99, 3) := by decide +kernel
theorem dX12_face_82 : decode cX12_face 82 = .ok (.iconst 3, 1) := by decide +kernel
theorem dX12_face_83 : decode cX12_face 83 = .ok (.if_icmp .ne 188, 3) := by decide +kernel
theorem dX12_face_86 : decode cX12_face 86 = .ok (.aload_n 0, 1) := by decide +kernel
theorem dX12_face_87 : decode cX12_face 87 = .ok (.getfield 46, 3) := by decide +kernel
theorem dX12_face_90 : decode cX12_face 90 = .ok (.bipush 15, 2) := by decide +kernel
theorem dX12_face_92 : decode cX12_face 92 = .ok (.iload_n 1, 1) := by decide +kernel
theorem dX12_face_93 : decode cX12_face 93 = .ok (.iadd, 1) := by decide +kernel
theorem dX12_face_94 : decode cX12_face 94 = .ok (.iaload, 1) := by decide +kernel
theorem dX12_face_95 : decode cX12_face 95 = .ok (.bipush 12, 2) := by decide +kernel
theorem dX12_face_97 : decode cX12_face 97 = .ok (.if_icmp .ne 15, 3) := by decide +kernel
theorem dX12_face_100 : decode cX12_face 100 = .ok (.aload_n 0, 1) := by decide +kernel
theorem dX12_face_101 : decode cX12_face 101 = .ok (.iconst 3, 1) := by decide +kernel
theorem dX12_face_102 : decode cX12_face 102 = .ok (.aload_n 0, 1) := by decide +kernel
theorem dX12_face_103 : decode cX12_face 103 = .ok (.getfield 89, 3) := by decide +kernel
theorem dX12_face_106 : decode cX12_face 106 = .ok (.invokevirtual 108, 3) := by decide +kernel
theorem dX12_face_109 : decode cX12_face 109 = .ok (.goto 48, 3) := by decide +kernel
theorem dX12_face_112 : decode cX12_face 112 = .ok (.aload_n 0, 1) := by decide +kernel
theorem dX12_face_113 : decode cX12_face 113 = .ok (.getfield 99, 3) := by decide +kernel
theorem dX12_face_116 : decode cX12_face 116 = .ok (.iconst 3, 1) := by decide +kernel
theorem dX12_face_117 : decode cX12_face 117 = .ok (.if_icmp .ne 15, 3) := by decide +kernel
theorem dX12_face_120 : decode cX12_face 120 = .ok (.aload_n 0, 1) := by decide +kernel
theorem dX12_face_121 : decode cX12_face 121 = .ok (.iconst 1, 1) := by decide +kernel
theorem dX12_face_122 : decode cX12_face 122 = .ok (.aload_n 0, 1) := by decide +kernel
theorem dX12_face_123 : decode cX12_face 123 = .ok (.getfield 83, 3) := by decide +kernel
theorem dX12_face_126 : decode cX12_face 126 = .ok (.invokevirtual 108, 3) := by decide +kernel
theorem dX12_face_129 : decode cX12_face 129 = .ok (.goto 28, 3) := by decide +kernel
theorem dX12_face_132 : decode cX12_face 132 = .ok (.aload_n 0, 1) := by decide +kernel
theorem dX12_face_133 : decode cX12_face 133 = .ok (.getfield 102, 3) := by decide +kernel
theorem dX12_face_136 : decode cX12_face 136 = .ok (.iconst 1, 1) := by decide +kernel
theorem dX12_face_137 : decode cX12_face 137 = .ok (.if_icmp .lt 11, 3) := by decide +kernel
theorem dX12_face_140 : decode cX12_face 140 = .ok (.aload_n 0, 1) := by decide +kernel
theorem dX12_face_141 : decode cX12_face 141 = .ok (.getfield 102, 3) := by decide +kernel
theorem dX12_face_144 : decode cX12_face 144 = .ok (.iload_n 2, 1) := by decide +kernel
theorem dX12_face_145 : decode cX12_face 145 = .ok (.if_icmp .lt 12, 3) := by decide +kernel
theorem dX12_face_148 : decode cX12_face 148 = .ok (.aload_n 0, 1) := by decide +kernel
theorem dX12_face_149 : decode cX12_face 149 = .ok (.iconst 2, 1) := by decide +kernel
theorem dX12_face_150 : decode cX12_face 150 = .ok (.aload_n 0, 1) := by decide +kernel
theorem dX12_face_151 : decode cX12_face 151 = .ok (.getfield 89, 3) := by decide +kernel
theorem dX12_face_154 : decode cX12_face 154 = .ok (.invokevirtual 108, 3) := by decide +kernel
theorem dX12_face_157 : decode cX12_face 157 = .ok (.aload_n 0, 1) := by decide +kernel
theorem dX12_face_158 : decode cX12_face 158 = .ok (.getfield 102, 3) := by decide +kernel
theorem dX12_face_161 : decode cX12_face 161 = .ok (.istore_n 2, 1) := by decide +kernel
theorem dX12_face_162 : decode cX12_face 162 = .ok (.aload_n 0, 1) := by decide +kernel
theorem dX12_face_163 : decode cX12_face 163 = .ok (.getfield 77, 3) := by decide +kernel
theorem dX12_face_166 : decode cX12_face 166 = .ok (.ifCond .ne 9, 3) := by decide +kernel
theorem dX12_face_169 : decode cX12_face 169 = .ok (.aload_n 0, 1) := by decide +kernel
theorem dX12_face_170 : decode cX12_face 170 = .ok (.bipush 58, 2) := by decide +kernel
theorem dX12_face_172 : decode cX12_face 172 = .ok (.invokevirtual 112, 3) := by decide +kernel
theorem dX12_face_175 : decode cX12_face 175 = .ok (.aload_n 0, 1) := by decide +kernel
theorem dX12_face_176 : decode cX12_face 176 = .ok (.getfield 77, 3) := by decide +kernel
theorem dX12_face_179 : decode cX12_face 179 = .ok (.ifCond .ne 13, 3) := by decide +kernel
theorem dX12_face_182 : decode cX12_face 182 = .ok (.aload_n 0, 1) := by decide +kernel
theorem dX12_face_183 : decode cX12_face 183 = .ok (.iload_n 3, 1) := by decide +kernel
theorem dX12_face_184 : decode cX12_face 184 = .ok (.iconst 1, 1) := by decide +kernel
theorem dX12_face_185 : decode cX12_face 185 = .ok (.iadd, 1) := by decide +kernel
theorem dX12_face_186 : decode cX12_face 186 = .ok (.bipush 20, 2) := by decide +kernel
theorem dX12_face_188 : decode cX12_face 188 = .ok (.invokevirtual 116, 3) := by decide +kernel
theorem dX12_face_191 : decode cX12_face 191 = .ok (.pop, 1) := by decide +kernel
theorem dX12_face_192 : decode cX12_face 192 = .ok (.aload_n 0, 1) := by decide +kernel
theorem dX12_face_193 : decode cX12_face 193 = .ok (.getfield 77, 3) := by decide +kernel
theorem dX12_face_196 : decode cX12_face 196 = .ok (.ifCond .eq 4, 3) := by decide +kernel
theorem dX12_face_199 : decode cX12_face 199 = .ok (.return_, 1) := by decide +kernel
theorem dX12_face_200 : decode cX12_face 200 = .ok (.aload_n 0, 1) := by decide +kernel
theorem dX12_face_201 : decode cX12_face 201 = .ok (.getfield 102, 3) := by decide +kernel
theorem dX12_face_204 : decode cX12_face 204 = .ok (.istore_n 3, 1) := by decide +kernel
theorem dX12_face_205 : decode cX12_face 205 = .ok (.aload_n 0, 1) := by decide +kernel
theorem dX12_face_206 : decode cX12_face 206 = .ok (.getfield 46, 3) := by decide +kernel
theorem dX12_face_209 : decode cX12_face 209 = .ok (.bipush 19, 2) := by decide +kernel
theorem dX12_face_211 : decode cX12_face 211 = .ok (.bipush 12, 2) := by decide +kernel
theorem dX12_face_213 : decode cX12_face 213 = .ok (.iload_n 1, 1) := by decide +kernel
theorem dX12_face_214 : decode cX12_face 214 = .ok (.imul, 1) := by decide +kernel
theorem dX12_face_215 : decode cX12_face 215 = .ok (.iadd, 1) := by decide +kernel
theorem dX12_face_216 : decode cX12_face 216 = .ok (.aload_n 0, 1) := by decide +kernel
theorem dX12_face_217 : decode cX12_face 217 = .ok (.getfield 46, 3) := by decide +kernel
theorem dX12_face_220 : decode cX12_face 220 = .ok (.bipush 15, 2) := by decide +kernel
theorem dX12_face_222 : decode cX12_face 222 = .ok (.iload_n 1, 1) := by decide +kernel
theorem dX12_face_223 : decode cX12_face 223 = .ok (.iadd, 1) := by decide +kernel
theorem dX12_face_224 : decode cX12_face 224 = .ok (.iaload, 1) := by decide +kernel
theorem dX12_face_225 : decode cX12_face 225 = .ok (.iadd, 1) := by decide +kernel
theorem dX12_face_226 : decode cX12_face 226 = .ok (.iload_n 2, 1) := by decide +kernel
theorem dX12_face_227 : decode cX12_face 227 = .ok (.iastore, 1) := by decide +kernel
theorem dX12_face_228 : decode cX12_face 228 = .ok (.aload_n 0, 1) := by decide +kernel
theorem dX12_face_229 : decode cX12_face 229 = .ok (.getfield 46, 3) := by decide +kernel
theorem dX12_face_232 : decode cX12_face 232 = .ok (.bipush 67, 2) := by decide +kernel
theorem dX12_face_234 : decode cX12_face 234 = .ok (.bipush 12, 2) := by decide +kernel
theorem dX12_face_236 : decode cX12_face 236 = .ok (.iload_n 1, 1) := by decide +kernel
theorem dX12_face_237 : decode cX12_face 237 = .ok (.imul, 1) := by decide +kernel
theorem dX12_face_238 : decode cX12_face 238 = .ok (.iadd, 1) := by decide +kernel
theorem dX12_face_239 : decode cX12_face 239 = .ok (.aload_n 0, 1) := by decide +kernel
theorem dX12_face_240 : decode cX12_face 240 = .ok (.getfield 46, 3) := by decide +kernel
theorem dX12_face_243 : decode cX12_face 243 = .ok (.bipush 15, 2) := by decide +kernel
theorem dX12_face_245 : decode cX12_face 245 = .ok (.iload_n 1, 1) := by decide +kernel
theorem dX12_face_246 : decode cX12_face 246 = .ok (.iadd, 1) := by decide +kernel
theorem dX12_face_247 : decode cX12_face 247 = .ok (.iaload, 1) := by decide +kernel
theorem dX12_face_248 : decode cX12_face 248 = .ok (.iadd, 1) := by decide +kernel
theorem dX12_face_249 : decode cX12_face 249 = .ok (.iload_n 3, 1) := by decide +kernel
theorem dX12_face_250 : decode cX12_face 250 = .ok (.iastore, 1) := by decide +kernel
theorem dX12_face_251 : decode cX12_face 251 = .ok (.aload_n 0, 1) := by decide +kernel
theorem dX12_face_252 : decode cX12_face 252 = .ok (.getfield 46, 3) := by decide +kernel
theorem dX12_face_255 : decode cX12_face 255 = .ok (.bipush 15, 2) := by decide +kernel
theorem dX12_face_257 : decode cX12_face 257 = .ok (.iload_n 1, 1) := by decide +kernel
theorem dX12_face_258 : decode cX12_face 258 = .ok (.iadd, 1) := by decide +kernel
theorem dX12_face_259 : decode cX12_face 259 = .ok (.dup2, 1) := by decide +kernel
theorem dX12_face_260 : decode cX12_face 260 = .ok (.iaload, 1) := by decide +kernel
theorem dX12_face_261 : decode cX12_face 261 = .ok (.iconst 1, 1) := by decide +kernel
theorem dX12_face_262 : decode cX12_face 262 = .ok (.iadd, 1) := by decide +kernel
theorem dX12_face_263 : decode cX12_face 263 = .ok (.iastore, 1) := by decide +kernel
theorem dX12_face_264 : decode cX12_face 264 = .ok (.aload_n 0, 1) := by decide +kernel
theorem dX12_face_265 : decode cX12_face 265 = .ok (.invokevirtual 105, 3) := by decide +kernel
theorem dX12_face_268 : decode cX12_face 268 = .ok (.goto (-205), 3) := by decide +kernel
theorem dX12_face_271 : decode cX12_face 271 = .ok (.aload_n 0, 1) := by decide +kernel
theorem dX12_face_272 : decode cX12_face 272 = .ok (.getfield 99, 3) := by decide +kernel
theorem dX12_face_275 : decode cX12_face 275 = .ok (.bipush 59, 2) := by decide +kernel
theorem dX12_face_277 : decode cX12_face 277 = .ok (.if_icmp .eq 12, 3) := by decide +kernel
theorem dX12_face_280 : decode cX12_face 280 = .ok (.aload_n 0, 1) := by decide +kernel
theorem dX12_face_281 : decode cX12_face 281 = .ok (.iconst 1, 1) := by decide +kernel
theorem dX12_face_282 : decode cX12_face 282 = .ok (.aload_n 0, 1) := by decide +kernel
theorem dX12_face_283 : decode cX12_face 283 = .ok (.getfield 89, 3) := by decide +kernel
theorem dX12_face_286 : decode cX12_face 286 = .ok (.invokevirtual 108, 3) := by decide +kernel
theorem dX12_face_289 : decode cX12_face 289 = .ok (.aload_n 0, 1) := by decide +kernel
theorem dX12_face_290 : decode cX12_face 290 = .ok (.getfield 77, 3) := by decide +kernel
theorem dX12_face_293 : decode cX12_face 293 = .ok (.ifCond .ne 14, 3) := by decide +kernel
theorem dX12_face_296 : decode cX12_face 296 = .ok (.aload_n 0, 1) := by decide +kernel
theorem dX12_face_297 : decode cX12_face 297 = .ok (.getfield 46, 3) := by decide +kernel
theorem dX12_face_300 : decode cX12_face 300 = .ok (.bipush 14, 2) := by decide +kernel
theorem dX12_face_302 : decode cX12_face 302 = .ok (.dup2, 1) := by decide +kernel
theorem dX12_face_303 : decode cX12_face 303 = .ok (.iaload, 1) := by decide +kernel
theorem dX12_face_304 : decode cX12_face 304 = .ok (.iconst 1, 1) := by decide +kernel
theorem dX12_face_305 : decode cX12_face 305 = .ok (.iadd, 1) := by decide +kernel
theorem dX12_face_306 : decode cX12_face 306 = .ok (.iastore, 1) := by decide +kernel
theorem dX12_face_307 : decode cX12_face 307 = .ok (.return_, 1) := by decide +kernel
def f_X12_face_192 (N : Nat) (k63 : Nat → Int32 → Int32 → Int32 → zH → Option zH) (l0 : Nat) (l1 : Int32) (l2 : Int32) (h : zH) : Option zH := (zgI h 12 (some l0) 9).bind fun x1 => if x1 = 0 then (zgI h 12 (some l0) 8).bind fun x2 => (zgR h 12 (some l0) 21).bind fun x3 => (zgR h 12 (some l0) 21).bind fun x4 => (zld h 0 x4 ((15 : Int32) + l1)).bind fun x5 => (zst h 0 x3 (((19 : Int32) + ((12 : Int32) * l1)) + x5) l2).bind fun h1 => (zgR h1 12 (some l0) 21).bind fun x6 => (zgR h1 12 (some l0) 21).bind fun x7 => (zld h1 0 x7 ((15 : Int32) + l1)).bind fun x8 => (zst h1 0 x6 (((67 : Int32) + ((12 : Int32) * l1)) + x8) x2).bind fun h2 => (zgR h2 12 (some l0) 21).bind fun x9 => (zld h2 0 x9 ((15 : Int32) + l1)).bind fun x10 => (zst h2 0 x9 ((15 : Int32) + l1) (x10 + (1 : Int32))).bind fun h3 => (zck h3 12 (some l0)).bind fun q1 => (f_X12_next N q1 h3).bind fun h4 => k63 l0 l1 l2 x2 h4 else some h
set_option maxHeartbeats 4000000 in
set_option maxRecDepth 100000 in
theorem s_X12_face_192 {g : zG} (hg : g.2.1.map (fun q => q.2) = zty) {h0 : zH} (N : Nat) (k63 : Nat → Int32 → Int32 → Int32 → zH → Option zH) (hk63 : ∀ (l0 : Nat) (l1 : Int32) (l2 : Int32) (l3 : Int32) (h : zH) (h' : zH), k63 l0 l1 l2 l3 h = some h' → zR g jX12_face h0 63 [some (zr (some l0)), some (zi l1), some (zi l2), some (zi l3)] [] h none h') (l0 : Nat) (l1 : Int32) (l2 : Int32) (h : zH) (h' : zH) (hf : f_X12_face_192 N k63 l0 l1 l2 h = some h') : zR g jX12_face h0 192 [some (zr (some l0)), some (zi l1), some (zi l2), none] [] h none h' := by
  unfold f_X12_face_192 at hf
  refine zr_aload_n (v := .inl (some l0)) dX12_face_192 rfl rfl ?_
  revert hf; refine zbi (fun x1 e_x1 hf => ?_)
  refine zq_getI kg_515 dX12_face_193 e_x1 ?_
  by_cases hc1 : x1 = 0
  · rw [if_pos hc1] at hf
    refine zr_ifeq_t (tgt := 200) dX12_face_196 (by decide) hc1 ?_
    refine zr_aload_n (v := .inl (some l0)) dX12_face_200 rfl rfl ?_
    revert hf; refine zbi (fun x2 e_x2 hf => ?_)
    refine zq_getI kg_526 dX12_face_201 e_x2 ?_
    refine zq_istore_n (x := x2) (L' := [some (zr (some l0)), some (zi l1), some (zi l2), some (zi x2)]) dX12_face_204 rfl (by decide) rfl ?_
    refine zr_aload_n (v := .inl (some l0)) dX12_face_205 rfl rfl ?_
    revert hf; refine zbi (fun x3 e_x3 hf => ?_)
    refine zq_getR kg_537 dX12_face_206 e_x3 ?_
    refine zr_bipush (v := (19 : Int32)) dX12_face_209 (by decide) ?_
    refine zr_bipush (v := (12 : Int32)) dX12_face_211 (by decide) ?_
    refine zr_iload_n (x := l1) dX12_face_213 rfl rfl ?_
    refine zr_imul dX12_face_214 ?_
    refine zr_iadd dX12_face_215 ?_
    refine zr_aload_n (v := .inl (some l0)) dX12_face_216 rfl rfl ?_
    revert hf; refine zbi (fun x4 e_x4 hf => ?_)
    refine zq_getR kg_537 dX12_face_217 e_x4 ?_
    refine zr_bipush (v := (15 : Int32)) dX12_face_220 (by decide) ?_
    refine zr_iload_n (x := l1) dX12_face_222 rfl rfl ?_
    refine zr_iadd dX12_face_223 ?_
    revert hf; refine zbi (fun x5 e_x5 hf => ?_)
    refine zq_iald dX12_face_224 e_x5 ?_
    refine zr_iadd dX12_face_225 ?_
    refine zr_iload_n (x := l2) dX12_face_226 rfl rfl ?_
    revert hf; refine zbi (fun h1 e_h1 hf => ?_)
    refine zq_iast dX12_face_227 e_h1 ?_
    refine zr_aload_n (v := .inl (some l0)) dX12_face_228 rfl rfl ?_
    revert hf; refine zbi (fun x6 e_x6 hf => ?_)
    refine zq_getR kg_537 dX12_face_229 e_x6 ?_
    refine zr_bipush (v := (67 : Int32)) dX12_face_232 (by decide) ?_
    refine zr_bipush (v := (12 : Int32)) dX12_face_234 (by decide) ?_
    refine zr_iload_n (x := l1) dX12_face_236 rfl rfl ?_
    refine zr_imul dX12_face_237 ?_
    refine zr_iadd dX12_face_238 ?_
    refine zr_aload_n (v := .inl (some l0)) dX12_face_239 rfl rfl ?_
    revert hf; refine zbi (fun x7 e_x7 hf => ?_)
    refine zq_getR kg_537 dX12_face_240 e_x7 ?_
    refine zr_bipush (v := (15 : Int32)) dX12_face_243 (by decide) ?_
    refine zr_iload_n (x := l1) dX12_face_245 rfl rfl ?_
    refine zr_iadd dX12_face_246 ?_
    revert hf; refine zbi (fun x8 e_x8 hf => ?_)
    refine zq_iald dX12_face_247 e_x8 ?_
    refine zr_iadd dX12_face_248 ?_
    refine zr_iload_n (x := x2) dX12_face_249 rfl rfl ?_
    revert hf; refine zbi (fun h2 e_h2 hf => ?_)
    refine zq_iast dX12_face_250 e_h2 ?_
    refine zr_aload_n (v := .inl (some l0)) dX12_face_251 rfl rfl ?_
    revert hf; refine zbi (fun x9 e_x9 hf => ?_)
    refine zq_getR kg_537 dX12_face_252 e_x9 ?_
    refine zr_bipush (v := (15 : Int32)) dX12_face_255 (by decide) ?_
    refine zr_iload_n (x := l1) dX12_face_257 rfl rfl ?_
    refine zr_iadd dX12_face_258 ?_
    refine zr_dup2 dX12_face_259 ?_
    revert hf; refine zbi (fun x10 e_x10 hf => ?_)
    refine zq_iald dX12_face_260 e_x10 ?_
    refine zr_iconst (v := (1 : Int32)) dX12_face_261 (by decide) ?_
    refine zr_iadd dX12_face_262 ?_
    revert hf; refine zbi (fun h3 e_h3 hf => ?_)
    refine zq_iast dX12_face_263 e_h3 ?_
    refine zr_aload_n (v := .inl (some l0)) dX12_face_264 rfl rfl ?_
    revert hf; refine zbi (fun q1 e_q1 hf => ?_)
    revert hf; refine zbi (fun h4 e_h4 hf => ?_)
    refine zq_callV (J' := jX12_next) (as := []) (rest := []) (r1 := none) (q := (RX12, TX12, 31)) kw_636 km_X12_next kt_538 dX12_face_265 rfl (Nat.le_of_ble_eq_true rfl) rfl rfl e_q1 rfl (c_X12_next hg e_h4) ?_
    refine zr_goto (tgt := 63) dX12_face_268 (by decide) ?_
    exact hk63 l0 l1 l2 x2 h4 h' hf
  · rw [if_neg hc1] at hf
    refine zr_ifeq_f 200 dX12_face_196 (by decide) hc1 ?_
    cases hf
    exact zr_ret none trivial dX12_face_199
def f_X12_face_175 (N : Nat) (k63 : Nat → Int32 → Int32 → Int32 → zH → Option zH) (l0 : Nat) (l1 : Int32) (l2 : Int32) (l3 : Int32) (h : zH) : Option zH := (zgI h 12 (some l0) 9).bind fun x1 => if x1 = 0 then (zck h 12 (some l0)).bind fun q1 => zb2 (f_X12_numberOf N q1 (l3 + (1 : Int32)) (20 : Int32) h) fun x2 h1 => f_X12_face_192 N k63 l0 l1 l2 h1 else f_X12_face_192 N k63 l0 l1 l2 h
set_option maxHeartbeats 4000000 in
set_option maxRecDepth 100000 in
theorem s_X12_face_175 {g : zG} (hg : g.2.1.map (fun q => q.2) = zty) {h0 : zH} (N : Nat) (k63 : Nat → Int32 → Int32 → Int32 → zH → Option zH) (hk63 : ∀ (l0 : Nat) (l1 : Int32) (l2 : Int32) (l3 : Int32) (h : zH) (h' : zH), k63 l0 l1 l2 l3 h = some h' → zR g jX12_face h0 63 [some (zr (some l0)), some (zi l1), some (zi l2), some (zi l3)] [] h none h') (l0 : Nat) (l1 : Int32) (l2 : Int32) (l3 : Int32) (h : zH) (h' : zH) (hf : f_X12_face_175 N k63 l0 l1 l2 l3 h = some h') : zR g jX12_face h0 175 [some (zr (some l0)), some (zi l1), some (zi l2), some (zi l3)] [] h none h' := by
  unfold f_X12_face_175 at hf
  refine zr_aload_n (v := .inl (some l0)) dX12_face_175 rfl rfl ?_
  revert hf; refine zbi (fun x1 e_x1 hf => ?_)
  refine zq_getI kg_515 dX12_face_176 e_x1 ?_
  by_cases hc1 : x1 = 0
  · rw [if_pos hc1] at hf
    refine zr_ifne_f 192 dX12_face_179 (by decide) hc1 ?_
    refine zr_aload_n (v := .inl (some l0)) dX12_face_182 rfl rfl ?_
    refine zr_iload_n (x := l3) dX12_face_183 rfl rfl ?_
    refine zr_iconst (v := (1 : Int32)) dX12_face_184 (by decide) ?_
    refine zr_iadd dX12_face_185 ?_
    refine zr_bipush (v := (20 : Int32)) dX12_face_186 (by decide) ?_
    revert hf; refine zbi (fun q1 e_q1 hf => ?_)
    revert hf; refine zbi2 (fun x2 h1 e_x2 hf => ?_)
    refine zq_callV (J' := jX12_numberOf) (as := [zi (l3 + (1 : Int32)), zi (20 : Int32)]) (rest := []) (r1 := (some (zi x2))) (q := (RX12, TX12, 31)) kw_640 km_X12_numberOf kt_540 dX12_face_188 rfl (Nat.le_of_ble_eq_true rfl) rfl rfl e_q1 rfl (c_X12_numberOf hg e_x2) ?_
    refine zr_pop dX12_face_191 ?_
    refine zr_forget 3 (L' := [some (zr (some l0)), some (zi l1), some (zi l2), none]) rfl ?_
    exact s_X12_face_192 hg N _ hk63 l0 l1 l2 h1 h' hf
  · rw [if_neg hc1] at hf
    refine zr_ifne_t (tgt := 192) dX12_face_179 (by decide) hc1 ?_
    refine zr_forget 3 (L' := [some (zr (some l0)), some (zi l1), some (zi l2), none]) rfl ?_
    exact s_X12_face_192 hg N _ hk63 l0 l1 l2 h h' hf
def f_X12_face_157 (N : Nat) (k63 : Nat → Int32 → Int32 → Int32 → zH → Option zH) (l0 : Nat) (l1 : Int32) (l3 : Int32) (h : zH) : Option zH := (zgI h 12 (some l0) 8).bind fun x1 => (zgI h 12 (some l0) 9).bind fun x2 => if x2 = 0 then (zck h 12 (some l0)).bind fun q1 => (f_X12_sign N q1 (58 : Int32) h).bind fun h1 => f_X12_face_175 N k63 l0 l1 x1 l3 h1 else f_X12_face_175 N k63 l0 l1 x1 l3 h
set_option maxHeartbeats 4000000 in
set_option maxRecDepth 100000 in
theorem s_X12_face_157 {g : zG} (hg : g.2.1.map (fun q => q.2) = zty) {h0 : zH} (N : Nat) (k63 : Nat → Int32 → Int32 → Int32 → zH → Option zH) (hk63 : ∀ (l0 : Nat) (l1 : Int32) (l2 : Int32) (l3 : Int32) (h : zH) (h' : zH), k63 l0 l1 l2 l3 h = some h' → zR g jX12_face h0 63 [some (zr (some l0)), some (zi l1), some (zi l2), some (zi l3)] [] h none h') (l0 : Nat) (l1 : Int32) (l3 : Int32) (h : zH) (h' : zH) (hf : f_X12_face_157 N k63 l0 l1 l3 h = some h') : zR g jX12_face h0 157 [some (zr (some l0)), some (zi l1), none, some (zi l3)] [] h none h' := by
  unfold f_X12_face_157 at hf
  refine zr_aload_n (v := .inl (some l0)) dX12_face_157 rfl rfl ?_
  revert hf; refine zbi (fun x1 e_x1 hf => ?_)
  refine zq_getI kg_526 dX12_face_158 e_x1 ?_
  refine zq_istore_n (x := x1) (L' := [some (zr (some l0)), some (zi l1), some (zi x1), some (zi l3)]) dX12_face_161 rfl (by decide) rfl ?_
  refine zr_aload_n (v := .inl (some l0)) dX12_face_162 rfl rfl ?_
  revert hf; refine zbi (fun x2 e_x2 hf => ?_)
  refine zq_getI kg_515 dX12_face_163 e_x2 ?_
  by_cases hc1 : x2 = 0
  · rw [if_pos hc1] at hf
    refine zr_ifne_f 175 dX12_face_166 (by decide) hc1 ?_
    refine zr_aload_n (v := .inl (some l0)) dX12_face_169 rfl rfl ?_
    refine zr_bipush (v := (58 : Int32)) dX12_face_170 (by decide) ?_
    revert hf; refine zbi (fun q1 e_q1 hf => ?_)
    revert hf; refine zbi (fun h1 e_h1 hf => ?_)
    refine zq_callV (J' := jX12_sign) (as := [zi (58 : Int32)]) (rest := []) (r1 := none) (q := (RX12, TX12, 31)) kw_644 km_X12_sign kt_542 dX12_face_172 rfl (Nat.le_of_ble_eq_true rfl) rfl rfl e_q1 rfl (c_X12_sign hg e_h1) ?_
    exact s_X12_face_175 hg N _ hk63 l0 l1 x1 l3 h1 h' hf
  · rw [if_neg hc1] at hf
    refine zr_ifne_t (tgt := 175) dX12_face_166 (by decide) hc1 ?_
    exact s_X12_face_175 hg N _ hk63 l0 l1 x1 l3 h h' hf
def f_X12_face_148 (N : Nat) (k63 : Nat → Int32 → Int32 → Int32 → zH → Option zH) (l0 : Nat) (l1 : Int32) (l3 : Int32) (h : zH) : Option zH := (zgI h 12 (some l0) 7).bind fun x1 => (zck h 12 (some l0)).bind fun q1 => (f_X12_fail N q1 (2 : Int32) x1 h).bind fun h1 => f_X12_face_157 N k63 l0 l1 l3 h1
set_option maxHeartbeats 4000000 in
set_option maxRecDepth 100000 in
theorem s_X12_face_148 {g : zG} (hg : g.2.1.map (fun q => q.2) = zty) {h0 : zH} (N : Nat) (k63 : Nat → Int32 → Int32 → Int32 → zH → Option zH) (hk63 : ∀ (l0 : Nat) (l1 : Int32) (l2 : Int32) (l3 : Int32) (h : zH) (h' : zH), k63 l0 l1 l2 l3 h = some h' → zR g jX12_face h0 63 [some (zr (some l0)), some (zi l1), some (zi l2), some (zi l3)] [] h none h') (l0 : Nat) (l1 : Int32) (l3 : Int32) (h : zH) (h' : zH) (hf : f_X12_face_148 N k63 l0 l1 l3 h = some h') : zR g jX12_face h0 148 [some (zr (some l0)), some (zi l1), none, some (zi l3)] [] h none h' := by
  unfold f_X12_face_148 at hf
  refine zr_aload_n (v := .inl (some l0)) dX12_face_148 rfl rfl ?_
  refine zr_iconst (v := (2 : Int32)) dX12_face_149 (by decide) ?_
  refine zr_aload_n (v := .inl (some l0)) dX12_face_150 rfl rfl ?_
  revert hf; refine zbi (fun x1 e_x1 hf => ?_)
  refine zq_getI kg_525 dX12_face_151 e_x1 ?_
  revert hf; refine zbi (fun q1 e_q1 hf => ?_)
  revert hf; refine zbi (fun h1 e_h1 hf => ?_)
  refine zq_callV (J' := jX12_fail) (as := [zi (2 : Int32), zi x1]) (rest := []) (r1 := none) (q := (RX12, TX12, 31)) kw_632 km_X12_fail kt_543 dX12_face_154 rfl (Nat.le_of_ble_eq_true rfl) rfl rfl e_q1 rfl (c_X12_fail hg e_h1) ?_
  exact s_X12_face_157 hg N _ hk63 l0 l1 l3 h1 h' hf
def f_X12_face_86 (N : Nat) (k63 : Nat → Int32 → Int32 → Int32 → zH → Option zH) (l0 : Nat) (l1 : Int32) (l2 : Int32) (l3 : Int32) (h : zH) : Option zH := (zgR h 12 (some l0) 21).bind fun x1 => (zld h 0 x1 ((15 : Int32) + l1)).bind fun x2 => if x2 = (12 : Int32) then (zgI h 12 (some l0) 7).bind fun x7 => (zck h 12 (some l0)).bind fun q2 => (f_X12_fail N q2 (3 : Int32) x7 h).bind fun h2 => f_X12_face_157 N k63 l0 l1 l3 h2 else (zgI h 12 (some l0) 6).bind fun x3 => if x3 = (3 : Int32) then (zgI h 12 (some l0) 4).bind fun x6 => (zck h 12 (some l0)).bind fun q1 => (f_X12_fail N q1 (1 : Int32) x6 h).bind fun h1 => f_X12_face_157 N k63 l0 l1 l3 h1 else (zgI h 12 (some l0) 8).bind fun x4 => if x4 < (1 : Int32) then f_X12_face_148 N k63 l0 l1 l3 h else (zgI h 12 (some l0) 8).bind fun x5 => if x5 < l2 then f_X12_face_157 N k63 l0 l1 l3 h else f_X12_face_148 N k63 l0 l1 l3 h
set_option maxHeartbeats 4000000 in
set_option maxRecDepth 100000 in
theorem s_X12_face_86 {g : zG} (hg : g.2.1.map (fun q => q.2) = zty) {h0 : zH} (N : Nat) (k63 : Nat → Int32 → Int32 → Int32 → zH → Option zH) (hk63 : ∀ (l0 : Nat) (l1 : Int32) (l2 : Int32) (l3 : Int32) (h : zH) (h' : zH), k63 l0 l1 l2 l3 h = some h' → zR g jX12_face h0 63 [some (zr (some l0)), some (zi l1), some (zi l2), some (zi l3)] [] h none h') (l0 : Nat) (l1 : Int32) (l2 : Int32) (l3 : Int32) (h : zH) (h' : zH) (hf : f_X12_face_86 N k63 l0 l1 l2 l3 h = some h') : zR g jX12_face h0 86 [some (zr (some l0)), some (zi l1), some (zi l2), some (zi l3)] [] h none h' := by
  unfold f_X12_face_86 at hf
  refine zr_aload_n (v := .inl (some l0)) dX12_face_86 rfl rfl ?_
  revert hf; refine zbi (fun x1 e_x1 hf => ?_)
  refine zq_getR kg_537 dX12_face_87 e_x1 ?_
  refine zr_bipush (v := (15 : Int32)) dX12_face_90 (by decide) ?_
  refine zr_iload_n (x := l1) dX12_face_92 rfl rfl ?_
  refine zr_iadd dX12_face_93 ?_
  revert hf; refine zbi (fun x2 e_x2 hf => ?_)
  refine zq_iald dX12_face_94 e_x2 ?_
  refine zr_bipush (v := (12 : Int32)) dX12_face_95 (by decide) ?_
  by_cases hc1 : x2 = (12 : Int32)
  · rw [if_pos hc1] at hf
    refine zr_icne_f 112 dX12_face_97 (by decide) hc1 ?_
    refine zr_aload_n (v := .inl (some l0)) dX12_face_100 rfl rfl ?_
    refine zr_iconst (v := (3 : Int32)) dX12_face_101 (by decide) ?_
    refine zr_aload_n (v := .inl (some l0)) dX12_face_102 rfl rfl ?_
    revert hf; refine zbi (fun x7 e_x7 hf => ?_)
    refine zq_getI kg_525 dX12_face_103 e_x7 ?_
    revert hf; refine zbi (fun q2 e_q2 hf => ?_)
    revert hf; refine zbi (fun h2 e_h2 hf => ?_)
    refine zq_callV (J' := jX12_fail) (as := [zi (3 : Int32), zi x7]) (rest := []) (r1 := none) (q := (RX12, TX12, 31)) kw_632 km_X12_fail kt_543 dX12_face_106 rfl (Nat.le_of_ble_eq_true rfl) rfl rfl e_q2 rfl (c_X12_fail hg e_h2) ?_
    refine zr_goto (tgt := 157) dX12_face_109 (by decide) ?_
    refine zr_forget 2 (L' := [some (zr (some l0)), some (zi l1), none, some (zi l3)]) rfl ?_
    exact s_X12_face_157 hg N _ hk63 l0 l1 l3 h2 h' hf
  · rw [if_neg hc1] at hf
    refine zr_icne_t (tgt := 112) dX12_face_97 (by decide) hc1 ?_
    refine zr_aload_n (v := .inl (some l0)) dX12_face_112 rfl rfl ?_
    revert hf; refine zbi (fun x3 e_x3 hf => ?_)
    refine zq_getI kg_529 dX12_face_113 e_x3 ?_
    refine zr_iconst (v := (3 : Int32)) dX12_face_116 (by decide) ?_
    by_cases hc2 : x3 = (3 : Int32)
    · rw [if_pos hc2] at hf
      refine zr_icne_f 132 dX12_face_117 (by decide) hc2 ?_
      refine zr_aload_n (v := .inl (some l0)) dX12_face_120 rfl rfl ?_
      refine zr_iconst (v := (1 : Int32)) dX12_face_121 (by decide) ?_
      refine zr_aload_n (v := .inl (some l0)) dX12_face_122 rfl rfl ?_
      revert hf; refine zbi (fun x6 e_x6 hf => ?_)
      refine zq_getI kg_518 dX12_face_123 e_x6 ?_
      revert hf; refine zbi (fun q1 e_q1 hf => ?_)
      revert hf; refine zbi (fun h1 e_h1 hf => ?_)
      refine zq_callV (J' := jX12_fail) (as := [zi (1 : Int32), zi x6]) (rest := []) (r1 := none) (q := (RX12, TX12, 31)) kw_632 km_X12_fail kt_543 dX12_face_126 rfl (Nat.le_of_ble_eq_true rfl) rfl rfl e_q1 rfl (c_X12_fail hg e_h1) ?_
      refine zr_goto (tgt := 157) dX12_face_129 (by decide) ?_
      refine zr_forget 2 (L' := [some (zr (some l0)), some (zi l1), none, some (zi l3)]) rfl ?_
      exact s_X12_face_157 hg N _ hk63 l0 l1 l3 h1 h' hf
    · rw [if_neg hc2] at hf
      refine zr_icne_t (tgt := 132) dX12_face_117 (by decide) hc2 ?_
      refine zr_aload_n (v := .inl (some l0)) dX12_face_132 rfl rfl ?_
      revert hf; refine zbi (fun x4 e_x4 hf => ?_)
      refine zq_getI kg_526 dX12_face_133 e_x4 ?_
      refine zr_iconst (v := (1 : Int32)) dX12_face_136 (by decide) ?_
      by_cases hc3 : x4 < (1 : Int32)
      · rw [if_pos hc3] at hf
        refine zr_iclt_t (tgt := 148) dX12_face_137 (by decide) hc3 ?_
        refine zr_forget 2 (L' := [some (zr (some l0)), some (zi l1), none, some (zi l3)]) rfl ?_
        exact s_X12_face_148 hg N _ hk63 l0 l1 l3 h h' hf
      · rw [if_neg hc3] at hf
        refine zr_iclt_f 148 dX12_face_137 (by decide) hc3 ?_
        refine zr_aload_n (v := .inl (some l0)) dX12_face_140 rfl rfl ?_
        revert hf; refine zbi (fun x5 e_x5 hf => ?_)
        refine zq_getI kg_526 dX12_face_141 e_x5 ?_
        refine zr_iload_n (x := l2) dX12_face_144 rfl rfl ?_
        by_cases hc4 : x5 < l2
        · rw [if_pos hc4] at hf
          refine zr_iclt_t (tgt := 157) dX12_face_145 (by decide) hc4 ?_
          refine zr_forget 2 (L' := [some (zr (some l0)), some (zi l1), none, some (zi l3)]) rfl ?_
          exact s_X12_face_157 hg N _ hk63 l0 l1 l3 h h' hf
        · rw [if_neg hc4] at hf
          refine zr_iclt_f 157 dX12_face_145 (by decide) hc4 ?_
          refine zr_forget 2 (L' := [some (zr (some l0)), some (zi l1), none, some (zi l3)]) rfl ?_
          exact s_X12_face_148 hg N _ hk63 l0 l1 l3 h h' hf
def f_X12_face_289 (N : Nat) (l0 : Nat) (h : zH) : Option zH := (zgI h 12 (some l0) 9).bind fun x1 => if x1 = 0 then (zgR h 12 (some l0) 21).bind fun x2 => (zld h 0 x2 (14 : Int32)).bind fun x3 => (zst h 0 x2 (14 : Int32) (x3 + (1 : Int32))).bind fun h1 => some h1 else some h
set_option maxHeartbeats 4000000 in
set_option maxRecDepth 100000 in
theorem s_X12_face_289 {g : zG} (hg : g.2.1.map (fun q => q.2) = zty) {h0 : zH} (N : Nat) (l0 : Nat) (h : zH) (h' : zH) (hf : f_X12_face_289 N l0 h = some h') : zR g jX12_face h0 289 [some (zr (some l0)), none, none, none] [] h none h' := by
  unfold f_X12_face_289 at hf
  refine zr_aload_n (v := .inl (some l0)) dX12_face_289 rfl rfl ?_
  revert hf; refine zbi (fun x1 e_x1 hf => ?_)
  refine zq_getI kg_515 dX12_face_290 e_x1 ?_
  by_cases hc1 : x1 = 0
  · rw [if_pos hc1] at hf
    refine zr_ifne_f 307 dX12_face_293 (by decide) hc1 ?_
    refine zr_aload_n (v := .inl (some l0)) dX12_face_296 rfl rfl ?_
    revert hf; refine zbi (fun x2 e_x2 hf => ?_)
    refine zq_getR kg_537 dX12_face_297 e_x2 ?_
    refine zr_bipush (v := (14 : Int32)) dX12_face_300 (by decide) ?_
    refine zr_dup2 dX12_face_302 ?_
    revert hf; refine zbi (fun x3 e_x3 hf => ?_)
    refine zq_iald dX12_face_303 e_x3 ?_
    refine zr_iconst (v := (1 : Int32)) dX12_face_304 (by decide) ?_
    refine zr_iadd dX12_face_305 ?_
    revert hf; refine zbi (fun h1 e_h1 hf => ?_)
    refine zq_iast dX12_face_306 e_h1 ?_
    cases hf
    exact zr_ret none trivial dX12_face_307
  · rw [if_neg hc1] at hf
    refine zr_ifne_t (tgt := 307) dX12_face_293 (by decide) hc1 ?_
    cases hf
    exact zr_ret none trivial dX12_face_307
def f_X12_face_271 (N : Nat) (l0 : Nat) (h : zH) : Option zH := (zgI h 12 (some l0) 6).bind fun x1 => if x1 = (59 : Int32) then f_X12_face_289 N l0 h else (zgI h 12 (some l0) 7).bind fun x2 => (zck h 12 (some l0)).bind fun q1 => (f_X12_fail N q1 (1 : Int32) x2 h).bind fun h1 => f_X12_face_289 N l0 h1
set_option maxHeartbeats 4000000 in
set_option maxRecDepth 100000 in
theorem s_X12_face_271 {g : zG} (hg : g.2.1.map (fun q => q.2) = zty) {h0 : zH} (N : Nat) (l0 : Nat) (h : zH) (h' : zH) (hf : f_X12_face_271 N l0 h = some h') : zR g jX12_face h0 271 [some (zr (some l0)), none, none, none] [] h none h' := by
  unfold f_X12_face_271 at hf
  refine zr_aload_n (v := .inl (some l0)) dX12_face_271 rfl rfl ?_
  revert hf; refine zbi (fun x1 e_x1 hf => ?_)
  refine zq_getI kg_529 dX12_face_272 e_x1 ?_
  refine zr_bipush (v := (59 : Int32)) dX12_face_275 (by decide) ?_
  by_cases hc1 : x1 = (59 : Int32)
  · rw [if_pos hc1] at hf
    refine zr_iceq_t (tgt := 289) dX12_face_277 (by decide) hc1 ?_
    exact s_X12_face_289 hg N l0 h h' hf
  · rw [if_neg hc1] at hf
    refine zr_iceq_f 289 dX12_face_277 (by decide) hc1 ?_
    refine zr_aload_n (v := .inl (some l0)) dX12_face_280 rfl rfl ?_
    refine zr_iconst (v := (1 : Int32)) dX12_face_281 (by decide) ?_
    refine zr_aload_n (v := .inl (some l0)) dX12_face_282 rfl rfl ?_
    revert hf; refine zbi (fun x2 e_x2 hf => ?_)
    refine zq_getI kg_525 dX12_face_283 e_x2 ?_
    revert hf; refine zbi (fun q1 e_q1 hf => ?_)
    revert hf; refine zbi (fun h1 e_h1 hf => ?_)
    refine zq_callV (J' := jX12_fail) (as := [zi (1 : Int32), zi x2]) (rest := []) (r1 := none) (q := (RX12, TX12, 31)) kw_632 km_X12_fail kt_543 dX12_face_286 rfl (Nat.le_of_ble_eq_true rfl) rfl rfl e_q1 rfl (c_X12_fail hg e_h1) ?_
    exact s_X12_face_289 hg N l0 h1 h' hf
def f_X12_face_63 (N : Nat) : Nat → Nat → Int32 → Int32 → Int32 → zH → Option zH
  | 0, _, _, _, _, _ => none
  | n + 1, l0, l1, l2, l3, h => (zgI h 12 (some l0) 9).bind fun x1 => if x1 = 0 then (zgI h 12 (some l0) 6).bind fun x2 => if x2 = (2 : Int32) then f_X12_face_86 N (fun l0 l1 l2 l3 h => f_X12_face_63 N n l0 l1 l2 l3 h) l0 l1 l2 l3 h else (zgI h 12 (some l0) 6).bind fun x3 => if x3 = (3 : Int32) then f_X12_face_86 N (fun l0 l1 l2 l3 h => f_X12_face_63 N n l0 l1 l2 l3 h) l0 l1 l2 l3 h else f_X12_face_271 N l0 h else f_X12_face_271 N l0 h
set_option maxHeartbeats 4000000 in
set_option maxRecDepth 100000 in
theorem s_X12_face_63 {g : zG} (hg : g.2.1.map (fun q => q.2) = zty) {h0 : zH} (N : Nat) : ∀ (n : Nat) (l0 : Nat) (l1 : Int32) (l2 : Int32) (l3 : Int32) (h : zH) (h' : zH), f_X12_face_63 N n l0 l1 l2 l3 h = some h' → zR g jX12_face h0 63 [some (zr (some l0)), some (zi l1), some (zi l2), some (zi l3)] [] h none h' := by
  intro n
  induction n with
  | zero =>
    intro l0 l1 l2 l3 h h' hf
    cases hf
  | succ n ih =>
    intro l0 l1 l2 l3 h h' hf
    rw [f_X12_face_63] at hf
    refine zr_aload_n (v := .inl (some l0)) dX12_face_63 rfl rfl ?_
    revert hf; refine zbi (fun x1 e_x1 hf => ?_)
    refine zq_getI kg_515 dX12_face_64 e_x1 ?_
    by_cases hc1 : x1 = 0
    · rw [if_pos hc1] at hf
      refine zr_ifne_f 271 dX12_face_67 (by decide) hc1 ?_
      refine zr_aload_n (v := .inl (some l0)) dX12_face_70 rfl rfl ?_
      revert hf; refine zbi (fun x2 e_x2 hf => ?_)
      refine zq_getI kg_529 dX12_face_71 e_x2 ?_
      refine zr_iconst (v := (2 : Int32)) dX12_face_74 (by decide) ?_
      by_cases hc2 : x2 = (2 : Int32)
      · rw [if_pos hc2] at hf
        refine zr_iceq_t (tgt := 86) dX12_face_75 (by decide) hc2 ?_
        exact s_X12_face_86 hg N _ ih l0 l1 l2 l3 h h' hf
      · rw [if_neg hc2] at hf
        refine zr_iceq_f 86 dX12_face_75 (by decide) hc2 ?_
        refine zr_aload_n (v := .inl (some l0)) dX12_face_78 rfl rfl ?_
        revert hf; refine zbi (fun x3 e_x3 hf => ?_)
        refine zq_getI kg_529 dX12_face_79 e_x3 ?_
        refine zr_iconst (v := (3 : Int32)) dX12_face_82 (by decide) ?_
        by_cases hc3 : x3 = (3 : Int32)
        · rw [if_pos hc3] at hf
          refine zr_icne_f 271 dX12_face_83 (by decide) hc3 ?_
          exact s_X12_face_86 hg N _ ih l0 l1 l2 l3 h h' hf
        · rw [if_neg hc3] at hf
          refine zr_icne_t (tgt := 271) dX12_face_83 (by decide) hc3 ?_
          refine zr_forget 1 (L' := [some (zr (some l0)), none, some (zi l2), some (zi l3)]) rfl ?_
          refine zr_forget 2 (L' := [some (zr (some l0)), none, none, some (zi l3)]) rfl ?_
          refine zr_forget 3 (L' := [some (zr (some l0)), none, none, none]) rfl ?_
          exact s_X12_face_271 hg N l0 h h' hf
    · rw [if_neg hc1] at hf
      refine zr_ifne_t (tgt := 271) dX12_face_67 (by decide) hc1 ?_
      refine zr_forget 1 (L' := [some (zr (some l0)), none, some (zi l2), some (zi l3)]) rfl ?_
      refine zr_forget 2 (L' := [some (zr (some l0)), none, none, some (zi l3)]) rfl ?_
      refine zr_forget 3 (L' := [some (zr (some l0)), none, none, none]) rfl ?_
      exact s_X12_face_271 hg N l0 h h' hf
def f_X12_face_20 (N : Nat) (l0 : Nat) (h : zH) : Option zH := (zgR h 12 (some l0) 21).bind fun x1 => (zld h 0 x1 (14 : Int32)).bind fun x2 => (zck h 12 (some l0)).bind fun q1 => (f_X12_next N q1 h).bind fun h1 => (zgI h1 12 (some l0) 6).bind fun x3 => if x3 = (2 : Int32) then f_X12_face_63 N N l0 x2 (10001 : Int32) (0 : Int32) h1 else (zgI h1 12 (some l0) 6).bind fun x4 => if x4 = (3 : Int32) then f_X12_face_63 N N l0 x2 (10001 : Int32) (0 : Int32) h1 else (zgI h1 12 (some l0) 7).bind fun x5 => (zck h1 12 (some l0)).bind fun q2 => (f_X12_fail N q2 (1 : Int32) x5 h1).bind fun h2 => f_X12_face_63 N N l0 x2 (10001 : Int32) (0 : Int32) h2
set_option maxHeartbeats 4000000 in
set_option maxRecDepth 100000 in
theorem s_X12_face_20 {g : zG} (hg : g.2.1.map (fun q => q.2) = zty) {h0 : zH} (N : Nat) (l0 : Nat) (h : zH) (h' : zH) (hf : f_X12_face_20 N l0 h = some h') : zR g jX12_face h0 20 [some (zr (some l0)), none, none, none] [] h none h' := by
  unfold f_X12_face_20 at hf
  refine zr_aload_n (v := .inl (some l0)) dX12_face_20 rfl rfl ?_
  revert hf; refine zbi (fun x1 e_x1 hf => ?_)
  refine zq_getR kg_537 dX12_face_21 e_x1 ?_
  refine zr_bipush (v := (14 : Int32)) dX12_face_24 (by decide) ?_
  revert hf; refine zbi (fun x2 e_x2 hf => ?_)
  refine zq_iald dX12_face_26 e_x2 ?_
  refine zq_istore_n (x := x2) (L' := [some (zr (some l0)), some (zi x2), none, none]) dX12_face_27 rfl (by decide) rfl ?_
  refine zr_sipush (v := (10001 : Int32)) dX12_face_28 (by decide) ?_
  refine zq_istore_n (x := (10001 : Int32)) (L' := [some (zr (some l0)), some (zi x2), some (zi (10001 : Int32)), none]) dX12_face_31 rfl (by decide) rfl ?_
  refine zr_iconst (v := (0 : Int32)) dX12_face_32 (by decide) ?_
  refine zq_istore_n (x := (0 : Int32)) (L' := [some (zr (some l0)), some (zi x2), some (zi (10001 : Int32)), some (zi (0 : Int32))]) dX12_face_33 rfl (by decide) rfl ?_
  refine zr_aload_n (v := .inl (some l0)) dX12_face_34 rfl rfl ?_
  revert hf; refine zbi (fun q1 e_q1 hf => ?_)
  revert hf; refine zbi (fun h1 e_h1 hf => ?_)
  refine zq_callV (J' := jX12_next) (as := []) (rest := []) (r1 := none) (q := (RX12, TX12, 31)) kw_636 km_X12_next kt_538 dX12_face_35 rfl (Nat.le_of_ble_eq_true rfl) rfl rfl e_q1 rfl (c_X12_next hg e_h1) ?_
  refine zr_aload_n (v := .inl (some l0)) dX12_face_38 rfl rfl ?_
  revert hf; refine zbi (fun x3 e_x3 hf => ?_)
  refine zq_getI kg_529 dX12_face_39 e_x3 ?_
  refine zr_iconst (v := (2 : Int32)) dX12_face_42 (by decide) ?_
  by_cases hc1 : x3 = (2 : Int32)
  · rw [if_pos hc1] at hf
    refine zr_iceq_t (tgt := 63) dX12_face_43 (by decide) hc1 ?_
    exact s_X12_face_63 hg N N l0 x2 (10001 : Int32) (0 : Int32) h1 h' hf
  · rw [if_neg hc1] at hf
    refine zr_iceq_f 63 dX12_face_43 (by decide) hc1 ?_
    refine zr_aload_n (v := .inl (some l0)) dX12_face_46 rfl rfl ?_
    revert hf; refine zbi (fun x4 e_x4 hf => ?_)
    refine zq_getI kg_529 dX12_face_47 e_x4 ?_
    refine zr_iconst (v := (3 : Int32)) dX12_face_50 (by decide) ?_
    by_cases hc2 : x4 = (3 : Int32)
    · rw [if_pos hc2] at hf
      refine zr_iceq_t (tgt := 63) dX12_face_51 (by decide) hc2 ?_
      exact s_X12_face_63 hg N N l0 x2 (10001 : Int32) (0 : Int32) h1 h' hf
    · rw [if_neg hc2] at hf
      refine zr_iceq_f 63 dX12_face_51 (by decide) hc2 ?_
      refine zr_aload_n (v := .inl (some l0)) dX12_face_54 rfl rfl ?_
      refine zr_iconst (v := (1 : Int32)) dX12_face_55 (by decide) ?_
      refine zr_aload_n (v := .inl (some l0)) dX12_face_56 rfl rfl ?_
      revert hf; refine zbi (fun x5 e_x5 hf => ?_)
      refine zq_getI kg_525 dX12_face_57 e_x5 ?_
      revert hf; refine zbi (fun q2 e_q2 hf => ?_)
      revert hf; refine zbi (fun h2 e_h2 hf => ?_)
      refine zq_callV (J' := jX12_fail) (as := [zi (1 : Int32), zi x5]) (rest := []) (r1 := none) (q := (RX12, TX12, 31)) kw_632 km_X12_fail kt_543 dX12_face_60 rfl (Nat.le_of_ble_eq_true rfl) rfl rfl e_q2 rfl (c_X12_fail hg e_h2) ?_
      exact s_X12_face_63 hg N N l0 x2 (10001 : Int32) (0 : Int32) h2 h' hf
def f_X12_face (N : Nat) (l0 : Nat) (h : zH) : Option zH := (zgR h 12 (some l0) 21).bind fun x1 => (zld h 0 x1 (14 : Int32)).bind fun x2 => if x2 = (4 : Int32) then (zgI h 12 (some l0) 7).bind fun x3 => (zck h 12 (some l0)).bind fun q1 => (f_X12_fail N q1 (3 : Int32) x3 h).bind fun h1 => f_X12_face_20 N l0 h1 else f_X12_face_20 N l0 h
set_option maxHeartbeats 4000000 in
set_option maxRecDepth 100000 in
theorem s_X12_face {g : zG} (hg : g.2.1.map (fun q => q.2) = zty) {h0 : zH} (N : Nat) (l0 : Nat) (h : zH) (h' : zH) (hf : f_X12_face N l0 h = some h') : zR g jX12_face h0 0 [some (zr (some l0)), none, none, none] [] h none h' := by
  unfold f_X12_face at hf
  refine zr_aload_n (v := .inl (some l0)) dX12_face_0 rfl rfl ?_
  revert hf; refine zbi (fun x1 e_x1 hf => ?_)
  refine zq_getR kg_537 dX12_face_1 e_x1 ?_
  refine zr_bipush (v := (14 : Int32)) dX12_face_4 (by decide) ?_
  revert hf; refine zbi (fun x2 e_x2 hf => ?_)
  refine zq_iald dX12_face_6 e_x2 ?_
  refine zr_iconst (v := (4 : Int32)) dX12_face_7 (by decide) ?_
  by_cases hc1 : x2 = (4 : Int32)
  · rw [if_pos hc1] at hf
    refine zr_icne_f 20 dX12_face_8 (by decide) hc1 ?_
    refine zr_aload_n (v := .inl (some l0)) dX12_face_11 rfl rfl ?_
    refine zr_iconst (v := (3 : Int32)) dX12_face_12 (by decide) ?_
    refine zr_aload_n (v := .inl (some l0)) dX12_face_13 rfl rfl ?_
    revert hf; refine zbi (fun x3 e_x3 hf => ?_)
    refine zq_getI kg_525 dX12_face_14 e_x3 ?_
    revert hf; refine zbi (fun q1 e_q1 hf => ?_)
    revert hf; refine zbi (fun h1 e_h1 hf => ?_)
    refine zq_callV (J' := jX12_fail) (as := [zi (3 : Int32), zi x3]) (rest := []) (r1 := none) (q := (RX12, TX12, 31)) kw_632 km_X12_fail kt_543 dX12_face_17 rfl (Nat.le_of_ble_eq_true rfl) rfl rfl e_q1 rfl (c_X12_fail hg e_h1) ?_
    exact s_X12_face_20 hg N l0 h1 h' hf
  · rw [if_neg hc1] at hf
    refine zr_icne_t (tgt := 20) dX12_face_8 (by decide) hc1 ?_
    exact s_X12_face_20 hg N l0 h h' hf
theorem c_X12_face {g : zG} (hg : g.2.1.map (fun q => q.2) = zty) {N : Nat} {l0 : Nat} {h : zH} {h' : zH} (hf : f_X12_face N l0 h = some h') : zCa g jX12_face [zr (some l0)] h none h' :=
  zCa.of hg (by decide +kernel) (Nat.le_of_ble_eq_true rfl) (s_X12_face hg N l0 h h' hf)
theorem dX12_leg_0 : decode cX12_leg 0 = .ok (.aload_n 0, 1) := by decide +kernel
theorem dX12_leg_1 : decode cX12_leg 1 = .ok (.getfield 46, 3) := by decide +kernel
theorem dX12_leg_4 : decode cX12_leg 4 = .ok (.iconst 1, 1) := by decide +kernel
theorem dX12_leg_5 : decode cX12_leg 5 = .ok (.iaload, 1) := by decide +kernel
theorem dX12_leg_6 : decode cX12_leg 6 = .ok (.iconst 4, 1) := by decide +kernel
theorem dX12_leg_7 : decode cX12_leg 7 = .ok (.if_icmp .ne 12, 3) := by decide +kernel
theorem dX12_leg_10 : decode cX12_leg 10 = .ok (.aload_n 0, 1) := by decide +kernel
theorem dX12_leg_11 : decode cX12_leg 11 = .ok (.iconst 3, 1) := by decide +kernel
theorem dX12_leg_12 : decode cX12_leg 12 = .ok (.aload_n 0, 1) := by decide +kernel
theorem dX12_leg_13 : decode cX12_leg 13 = .ok (.getfield 89, 3) := by decide +kernel
theorem dX12_leg_16 : decode cX12_leg 16 = .ok (.invokevirtual 108, 3) := by decide +kernel
theorem dX12_leg_19 : decode cX12_leg 19 = .ok (.aload_n 0, 1) := by decide +kernel
theorem dX12_leg_20 : decode cX12_leg 20 = .ok (.getfield 77, 3) := by decide +kernel
theorem dX12_leg_23 : decode cX12_leg 23 = .ok (.ifCond .ne 13, 3) := by decide +kernel
theorem dX12_leg_26 : decode cX12_leg 26 = .ok (.aload_n 0, 1) := by decide +kernel
theorem dX12_leg_27 : decode cX12_leg 27 = .ok (.iconst 1, 1) := by decide +kernel
theorem dX12_leg_28 : decode cX12_leg 28 = .ok (.bipush 12, 2) := by decide +kernel
theorem dX12_leg_30 : decode cX12_leg 30 = .ok (.invokevirtual 116, 3) := by decide +kernel
theorem dX12_leg_33 : decode cX12_leg 33 = .ok (.goto 4, 3) := by decide +kernel
theorem dX12_leg_36 : decode cX12_leg 36 = .ok (.iconst 0, 1) := by decide +kernel
theorem dX12_leg_37 : decode cX12_leg 37 = .ok (.istore_n 1, 1) := by decide +kernel
theorem dX12_leg_38 : decode cX12_leg 38 = .ok (.aload_n 0, 1) := by decide +kernel
theorem dX12_leg_39 : decode cX12_leg 39 = .ok (.getfield 77, 3) := by decide +kernel
theorem dX12_leg_42 : decode cX12_leg 42 = .ok (.ifCond .ne 13, 3) := by decide +kernel
theorem dX12_leg_45 : decode cX12_leg 45 = .ok (.aload_n 0, 1) := by decide +kernel
theorem dX12_leg_46 : decode cX12_leg 46 = .ok (.iconst 1, 1) := by decide +kernel
theorem dX12_leg_47 : decode cX12_leg 47 = .ok (.bipush 6, 2) := by decide +kernel
theorem dX12_leg_49 : decode cX12_leg 49 = .ok (.invokevirtual 116, 3) := by decide +kernel
theorem dX12_leg_52 : decode cX12_leg 52 = .ok (.goto 4, 3) := by decide +kernel
theorem dX12_leg_55 : decode cX12_leg 55 = .ok (.iconst 0, 1) := by decide +kernel
theorem dX12_leg_56 : decode cX12_leg 56 = .ok (.istore_n 2, 1) := by decide +kernel
theorem dX12_leg_57 : decode cX12_leg 57 = .ok (.aload_n 0, 1) := by decide +kernel
theorem dX12_leg_58 : decode cX12_leg 58 = .ok (.getfield 77, 3) := by decide +kernel
theorem dX12_leg_61 : decode cX12_leg 61 = .ok (.ifCond .ne 13, 3) := by decide +kernel
theorem dX12_leg_64 : decode cX12_leg 64 = .ok (.aload_n 0, 1) := by decide +kernel
theorem dX12_leg_65 : decode cX12_leg 65 = .ok (.iconst 0, 1) := by decide +kernel
theorem dX12_leg_66 : decode cX12_leg 66 = .ok (.ldc 120, 2) := by decide +kernel
theorem dX12_leg_68 : decode cX12_leg 68 = .ok (.invokevirtual 116, 3) := by decide +kernel
theorem dX12_leg_71 : decode cX12_leg 71 = .ok (.goto 4, 3) := by decide +kernel
theorem dX12_leg_74 : decode cX12_leg 74 = .ok (.iconst 0, 1) := by decide +kernel
theorem dX12_leg_75 : decode cX12_leg 75 = .ok (.istore_n 3, 1) := by decide +kernel
theorem dX12_leg_76 : decode cX12_leg 76 = .ok (.aload_n 0, 1) := by decide +kernel
theorem dX12_leg_77 : decode cX12_leg 77 = .ok (.getfield 77, 3) := by decide +kernel
theorem dX12_leg_80 : decode cX12_leg 80 = .ok (.ifCond .ne 23, 3) := by decide +kernel
theorem dX12_leg_83 : decode cX12_leg 83 = .ok (.iload_n 3, 1) := by decide +kernel
theorem dX12_leg_84 : decode cX12_leg 84 = .ok (.aload_n 0, 1) := by decide +kernel
theorem dX12_leg_85 : decode cX12_leg 85 = .ok (.getfield 46, 3) := by decide +kernel
theorem dX12_leg_88 : decode cX12_leg 88 = .ok (.bipush 14, 2) := by decide +kernel
theorem dX12_leg_90 : decode cX12_leg 90 = .ok (.iaload, 1) := by decide +kernel
theorem dX12_leg_91 : decode cX12_leg 91 = .ok (.if_icmp .lt 12, 3) := by decide +kernel
theorem dX12_leg_94 : decode cX12_leg 94 = .ok (.aload_n 0, 1) := by decide +kernel
theorem dX12_leg_95 : decode cX12_leg 95 = .ok (.iconst 3, 1) := by decide +kernel
theorem dX12_leg_96 : decode cX12_leg 96 = .ok (.aload_n 0, 1) := by decide +kernel
theorem dX12_leg_97 : decode cX12_leg 97 = .ok (.getfield 89, 3) := by decide +kernel
theorem dX12_leg_100 : decode cX12_leg 100 = .ok (.invokevirtual 108, 3) := by decide +kernel
theorem dX12_leg_103 : decode cX12_leg 103 = .ok (.aload_n 0, 1) := by decide +kernel
theorem dX12_leg_104 : decode cX12_leg 104 = .ok (.getfield 77, 3) := by decide +kernel
theorem dX12_leg_107 : decode cX12_leg 107 = .ok (.ifCond .ne 9, 3) := by decide +kernel
theorem dX12_leg_110 : decode cX12_leg 110 = .ok (.aload_n 0, 1) := by decide +kernel
theorem dX12_leg_111 : decode cX12_leg 111 = .ok (.bipush 59, 2) := by decide +kernel
theorem dX12_leg_113 : decode cX12_leg 113 = .ok (.invokevirtual 112, 3) := by decide +kernel
theorem dX12_leg_116 : decode cX12_leg 116 = .ok (.aload_n 0, 1) := by decide +kernel
theorem dX12_leg_117 : decode cX12_leg 117 = .ok (.getfield 77, 3) := by decide +kernel
theorem dX12_leg_120 : decode cX12_leg 120 = .ok (.ifCond .eq 4, 3) := by decide +kernel
theorem dX12_leg_123 : decode cX12_leg 123 = .ok (.return_, 1) := by decide +kernel
theorem dX12_leg_124 : decode cX12_leg 124 = .ok (.aload_n 0, 1) := by decide +kernel
theorem dX12_leg_125 : decode cX12_leg 125 = .ok (.getfield 46, 3) := by decide +kernel
theorem dX12_leg_128 : decode cX12_leg 128 = .ok (.iconst 2, 1) := by decide +kernel
theorem dX12_leg_129 : decode cX12_leg 129 = .ok (.iconst 3, 1) := by decide +kernel
theorem dX12_leg_130 : decode cX12_leg 130 = .ok (.aload_n 0, 1) := by decide +kernel
theorem dX12_leg_131 : decode cX12_leg 131 = .ok (.getfield 46, 3) := by decide +kernel
theorem dX12_leg_134 : decode cX12_leg 134 = .ok (.iconst 1, 1) := by decide +kernel
theorem dX12_leg_135 : decode cX12_leg 135 = .ok (.iaload, 1) := by decide +kernel
theorem dX12_leg_136 : decode cX12_leg 136 = .ok (.imul, 1) := by decide +kernel
theorem dX12_leg_137 : decode cX12_leg 137 = .ok (.iadd, 1) := by decide +kernel
theorem dX12_leg_138 : decode cX12_leg 138 = .ok (.iload_n 1, 1) := by decide +kernel
theorem dX12_leg_139 : decode cX12_leg 139 = .ok (.iastore, 1) := by decide +kernel
theorem dX12_leg_140 : decode cX12_leg 140 = .ok (.aload_n 0, 1) := by decide +kernel
theorem dX12_leg_141 : decode cX12_leg 141 = .ok (.getfield 46, 3) := by decide +kernel
theorem dX12_leg_144 : decode cX12_leg 144 = .ok (.iconst 2, 1) := by decide +kernel
theorem dX12_leg_145 : decode cX12_leg 145 = .ok (.iconst 3, 1) := by decide +kernel
theorem dX12_leg_146 : decode cX12_leg 146 = .ok (.aload_n 0, 1) := by decide +kernel
theorem dX12_leg_147 : decode cX12_leg 147 = .ok (.getfield 46, 3) := by decide +kernel
theorem dX12_leg_150 : decode cX12_leg 150 = .ok (.iconst 1, 1) := by decide +kernel
theorem dX12_leg_151 : decode cX12_leg 151 = .ok (.iaload, 1) := by decide +kernel
theorem dX12_leg_152 : decode cX12_leg 152 = .ok (.imul, 1) := by decide +kernel
theorem dX12_leg_153 : decode cX12_leg 153 = .ok (.iadd, 1) := by decide +kernel
theorem dX12_leg_154 : decode cX12_leg 154 = .ok (.iconst 1, 1) := by decide +kernel
theorem dX12_leg_155 : decode cX12_leg 155 = .ok (.iadd, 1) := by decide +kernel
theorem dX12_leg_156 : decode cX12_leg 156 = .ok (.iload_n 2, 1) := by decide +kernel
theorem dX12_leg_157 : decode cX12_leg 157 = .ok (.iastore, 1) := by decide +kernel
theorem dX12_leg_158 : decode cX12_leg 158 = .ok (.aload_n 0, 1) := by decide +kernel
theorem dX12_leg_159 : decode cX12_leg 159 = .ok (.getfield 46, 3) := by decide +kernel
theorem dX12_leg_162 : decode cX12_leg 162 = .ok (.iconst 2, 1) := by decide +kernel
theorem dX12_leg_163 : decode cX12_leg 163 = .ok (.iconst 3, 1) := by decide +kernel
theorem dX12_leg_164 : decode cX12_leg 164 = .ok (.aload_n 0, 1) := by decide +kernel
theorem dX12_leg_165 : decode cX12_leg 165 = .ok (.getfield 46, 3) := by decide +kernel
theorem dX12_leg_168 : decode cX12_leg 168 = .ok (.iconst 1, 1) := by decide +kernel
theorem dX12_leg_169 : decode cX12_leg 169 = .ok (.iaload, 1) := by decide +kernel
theorem dX12_leg_170 : decode cX12_leg 170 = .ok (.imul, 1) := by decide +kernel
theorem dX12_leg_171 : decode cX12_leg 171 = .ok (.iadd, 1) := by decide +kernel
theorem dX12_leg_172 : decode cX12_leg 172 = .ok (.iconst 2, 1) := by decide +kernel
theorem dX12_leg_173 : decode cX12_leg 173 = .ok (.iadd, 1) := by decide +kernel
theorem dX12_leg_174 : decode cX12_leg 174 = .ok (.iload_n 3, 1) := by decide +kernel
theorem dX12_leg_175 : decode cX12_leg 175 = .ok (.iastore, 1) := by decide +kernel
theorem dX12_leg_176 : decode cX12_leg 176 = .ok (.aload_n 0, 1) := by decide +kernel
theorem dX12_leg_177 : decode cX12_leg 177 = .ok (.getfield 46, 3) := by decide +kernel
theorem dX12_leg_180 : decode cX12_leg 180 = .ok (.iconst 1, 1) := by decide +kernel
theorem dX12_leg_181 : decode cX12_leg 181 = .ok (.dup2, 1) := by decide +kernel
theorem dX12_leg_182 : decode cX12_leg 182 = .ok (.iaload, 1) := by decide +kernel
theorem dX12_leg_183 : decode cX12_leg 183 = .ok (.iconst 1, 1) := by decide +kernel
theorem dX12_leg_184 : decode cX12_leg 184 = .ok (.iadd, 1) := by decide +kernel
theorem dX12_leg_185 : decode cX12_leg 185 = .ok (.iastore, 1) := by decide +kernel
theorem dX12_leg_186 : decode cX12_leg 186 = .ok (.return_, 1) := by decide +kernel
def f_X12_leg_116 (N : Nat) (l0 : Nat) (l1 : Int32) (l2 : Int32) (l3 : Int32) (h : zH) : Option zH := (zgI h 12 (some l0) 9).bind fun x1 => if x1 = 0 then (zgR h 12 (some l0) 21).bind fun x2 => (zgR h 12 (some l0) 21).bind fun x3 => (zld h 0 x3 (1 : Int32)).bind fun x4 => (zst h 0 x2 ((2 : Int32) + ((3 : Int32) * x4)) l1).bind fun h1 => (zgR h1 12 (some l0) 21).bind fun x5 => (zgR h1 12 (some l0) 21).bind fun x6 => (zld h1 0 x6 (1 : Int32)).bind fun x7 => (zst h1 0 x5 (((2 : Int32) + ((3 : Int32) * x7)) + (1 : Int32)) l2).bind fun h2 => (zgR h2 12 (some l0) 21).bind fun x8 => (zgR h2 12 (some l0) 21).bind fun x9 => (zld h2 0 x9 (1 : Int32)).bind fun x10 => (zst h2 0 x8 (((2 : Int32) + ((3 : Int32) * x10)) + (2 : Int32)) l3).bind fun h3 => (zgR h3 12 (some l0) 21).bind fun x11 => (zld h3 0 x11 (1 : Int32)).bind fun x12 => (zst h3 0 x11 (1 : Int32) (x12 + (1 : Int32))).bind fun h4 => some h4 else some h
set_option maxHeartbeats 4000000 in
set_option maxRecDepth 100000 in
theorem s_X12_leg_116 {g : zG} (hg : g.2.1.map (fun q => q.2) = zty) {h0 : zH} (N : Nat) (l0 : Nat) (l1 : Int32) (l2 : Int32) (l3 : Int32) (h : zH) (h' : zH) (hf : f_X12_leg_116 N l0 l1 l2 l3 h = some h') : zR g jX12_leg h0 116 [some (zr (some l0)), some (zi l1), some (zi l2), some (zi l3)] [] h none h' := by
  unfold f_X12_leg_116 at hf
  refine zr_aload_n (v := .inl (some l0)) dX12_leg_116 rfl rfl ?_
  revert hf; refine zbi (fun x1 e_x1 hf => ?_)
  refine zq_getI kg_515 dX12_leg_117 e_x1 ?_
  by_cases hc1 : x1 = 0
  · rw [if_pos hc1] at hf
    refine zr_ifeq_t (tgt := 124) dX12_leg_120 (by decide) hc1 ?_
    refine zr_aload_n (v := .inl (some l0)) dX12_leg_124 rfl rfl ?_
    revert hf; refine zbi (fun x2 e_x2 hf => ?_)
    refine zq_getR kg_537 dX12_leg_125 e_x2 ?_
    refine zr_iconst (v := (2 : Int32)) dX12_leg_128 (by decide) ?_
    refine zr_iconst (v := (3 : Int32)) dX12_leg_129 (by decide) ?_
    refine zr_aload_n (v := .inl (some l0)) dX12_leg_130 rfl rfl ?_
    revert hf; refine zbi (fun x3 e_x3 hf => ?_)
    refine zq_getR kg_537 dX12_leg_131 e_x3 ?_
    refine zr_iconst (v := (1 : Int32)) dX12_leg_134 (by decide) ?_
    revert hf; refine zbi (fun x4 e_x4 hf => ?_)
    refine zq_iald dX12_leg_135 e_x4 ?_
    refine zr_imul dX12_leg_136 ?_
    refine zr_iadd dX12_leg_137 ?_
    refine zr_iload_n (x := l1) dX12_leg_138 rfl rfl ?_
    revert hf; refine zbi (fun h1 e_h1 hf => ?_)
    refine zq_iast dX12_leg_139 e_h1 ?_
    refine zr_aload_n (v := .inl (some l0)) dX12_leg_140 rfl rfl ?_
    revert hf; refine zbi (fun x5 e_x5 hf => ?_)
    refine zq_getR kg_537 dX12_leg_141 e_x5 ?_
    refine zr_iconst (v := (2 : Int32)) dX12_leg_144 (by decide) ?_
    refine zr_iconst (v := (3 : Int32)) dX12_leg_145 (by decide) ?_
    refine zr_aload_n (v := .inl (some l0)) dX12_leg_146 rfl rfl ?_
    revert hf; refine zbi (fun x6 e_x6 hf => ?_)
    refine zq_getR kg_537 dX12_leg_147 e_x6 ?_
    refine zr_iconst (v := (1 : Int32)) dX12_leg_150 (by decide) ?_
    revert hf; refine zbi (fun x7 e_x7 hf => ?_)
    refine zq_iald dX12_leg_151 e_x7 ?_
    refine zr_imul dX12_leg_152 ?_
    refine zr_iadd dX12_leg_153 ?_
    refine zr_iconst (v := (1 : Int32)) dX12_leg_154 (by decide) ?_
    refine zr_iadd dX12_leg_155 ?_
    refine zr_iload_n (x := l2) dX12_leg_156 rfl rfl ?_
    revert hf; refine zbi (fun h2 e_h2 hf => ?_)
    refine zq_iast dX12_leg_157 e_h2 ?_
    refine zr_aload_n (v := .inl (some l0)) dX12_leg_158 rfl rfl ?_
    revert hf; refine zbi (fun x8 e_x8 hf => ?_)
    refine zq_getR kg_537 dX12_leg_159 e_x8 ?_
    refine zr_iconst (v := (2 : Int32)) dX12_leg_162 (by decide) ?_
    refine zr_iconst (v := (3 : Int32)) dX12_leg_163 (by decide) ?_
    refine zr_aload_n (v := .inl (some l0)) dX12_leg_164 rfl rfl ?_
    revert hf; refine zbi (fun x9 e_x9 hf => ?_)
    refine zq_getR kg_537 dX12_leg_165 e_x9 ?_
    refine zr_iconst (v := (1 : Int32)) dX12_leg_168 (by decide) ?_
    revert hf; refine zbi (fun x10 e_x10 hf => ?_)
    refine zq_iald dX12_leg_169 e_x10 ?_
    refine zr_imul dX12_leg_170 ?_
    refine zr_iadd dX12_leg_171 ?_
    refine zr_iconst (v := (2 : Int32)) dX12_leg_172 (by decide) ?_
    refine zr_iadd dX12_leg_173 ?_
    refine zr_iload_n (x := l3) dX12_leg_174 rfl rfl ?_
    revert hf; refine zbi (fun h3 e_h3 hf => ?_)
    refine zq_iast dX12_leg_175 e_h3 ?_
    refine zr_aload_n (v := .inl (some l0)) dX12_leg_176 rfl rfl ?_
    revert hf; refine zbi (fun x11 e_x11 hf => ?_)
    refine zq_getR kg_537 dX12_leg_177 e_x11 ?_
    refine zr_iconst (v := (1 : Int32)) dX12_leg_180 (by decide) ?_
    refine zr_dup2 dX12_leg_181 ?_
    revert hf; refine zbi (fun x12 e_x12 hf => ?_)
    refine zq_iald dX12_leg_182 e_x12 ?_
    refine zr_iconst (v := (1 : Int32)) dX12_leg_183 (by decide) ?_
    refine zr_iadd dX12_leg_184 ?_
    revert hf; refine zbi (fun h4 e_h4 hf => ?_)
    refine zq_iast dX12_leg_185 e_h4 ?_
    cases hf
    exact zr_ret none trivial dX12_leg_186
  · rw [if_neg hc1] at hf
    refine zr_ifeq_f 124 dX12_leg_120 (by decide) hc1 ?_
    cases hf
    exact zr_ret none trivial dX12_leg_123
def f_X12_leg_103 (N : Nat) (l0 : Nat) (l1 : Int32) (l2 : Int32) (l3 : Int32) (h : zH) : Option zH := (zgI h 12 (some l0) 9).bind fun x1 => if x1 = 0 then (zck h 12 (some l0)).bind fun q1 => (f_X12_sign N q1 (59 : Int32) h).bind fun h1 => f_X12_leg_116 N l0 l1 l2 l3 h1 else f_X12_leg_116 N l0 l1 l2 l3 h
set_option maxHeartbeats 4000000 in
set_option maxRecDepth 100000 in
theorem s_X12_leg_103 {g : zG} (hg : g.2.1.map (fun q => q.2) = zty) {h0 : zH} (N : Nat) (l0 : Nat) (l1 : Int32) (l2 : Int32) (l3 : Int32) (h : zH) (h' : zH) (hf : f_X12_leg_103 N l0 l1 l2 l3 h = some h') : zR g jX12_leg h0 103 [some (zr (some l0)), some (zi l1), some (zi l2), some (zi l3)] [] h none h' := by
  unfold f_X12_leg_103 at hf
  refine zr_aload_n (v := .inl (some l0)) dX12_leg_103 rfl rfl ?_
  revert hf; refine zbi (fun x1 e_x1 hf => ?_)
  refine zq_getI kg_515 dX12_leg_104 e_x1 ?_
  by_cases hc1 : x1 = 0
  · rw [if_pos hc1] at hf
    refine zr_ifne_f 116 dX12_leg_107 (by decide) hc1 ?_
    refine zr_aload_n (v := .inl (some l0)) dX12_leg_110 rfl rfl ?_
    refine zr_bipush (v := (59 : Int32)) dX12_leg_111 (by decide) ?_
    revert hf; refine zbi (fun q1 e_q1 hf => ?_)
    revert hf; refine zbi (fun h1 e_h1 hf => ?_)
    refine zq_callV (J' := jX12_sign) (as := [zi (59 : Int32)]) (rest := []) (r1 := none) (q := (RX12, TX12, 31)) kw_644 km_X12_sign kt_544 dX12_leg_113 rfl (Nat.le_of_ble_eq_true rfl) rfl rfl e_q1 rfl (c_X12_sign hg e_h1) ?_
    exact s_X12_leg_116 hg N l0 l1 l2 l3 h1 h' hf
  · rw [if_neg hc1] at hf
    refine zr_ifne_t (tgt := 116) dX12_leg_107 (by decide) hc1 ?_
    exact s_X12_leg_116 hg N l0 l1 l2 l3 h h' hf
def f_X12_leg_75 (N : Nat) (l0 : Nat) (l1 : Int32) (l2 : Int32) (s0 : Int32) (h : zH) : Option zH := (zgI h 12 (some l0) 9).bind fun x1 => if x1 = 0 then (zgR h 12 (some l0) 21).bind fun x2 => (zld h 0 x2 (14 : Int32)).bind fun x3 => if s0 < x3 then f_X12_leg_103 N l0 l1 l2 s0 h else (zgI h 12 (some l0) 7).bind fun x4 => (zck h 12 (some l0)).bind fun q1 => (f_X12_fail N q1 (3 : Int32) x4 h).bind fun h1 => f_X12_leg_103 N l0 l1 l2 s0 h1 else f_X12_leg_103 N l0 l1 l2 s0 h
set_option maxHeartbeats 4000000 in
set_option maxRecDepth 100000 in
theorem s_X12_leg_75 {g : zG} (hg : g.2.1.map (fun q => q.2) = zty) {h0 : zH} (N : Nat) (l0 : Nat) (l1 : Int32) (l2 : Int32) (s0 : Int32) (h : zH) (h' : zH) (hf : f_X12_leg_75 N l0 l1 l2 s0 h = some h') : zR g jX12_leg h0 75 [some (zr (some l0)), some (zi l1), some (zi l2), none] [zi s0] h none h' := by
  unfold f_X12_leg_75 at hf
  refine zq_istore_n (x := s0) (L' := [some (zr (some l0)), some (zi l1), some (zi l2), some (zi s0)]) dX12_leg_75 rfl (by decide) rfl ?_
  refine zr_aload_n (v := .inl (some l0)) dX12_leg_76 rfl rfl ?_
  revert hf; refine zbi (fun x1 e_x1 hf => ?_)
  refine zq_getI kg_515 dX12_leg_77 e_x1 ?_
  by_cases hc1 : x1 = 0
  · rw [if_pos hc1] at hf
    refine zr_ifne_f 103 dX12_leg_80 (by decide) hc1 ?_
    refine zr_iload_n (x := s0) dX12_leg_83 rfl rfl ?_
    refine zr_aload_n (v := .inl (some l0)) dX12_leg_84 rfl rfl ?_
    revert hf; refine zbi (fun x2 e_x2 hf => ?_)
    refine zq_getR kg_537 dX12_leg_85 e_x2 ?_
    refine zr_bipush (v := (14 : Int32)) dX12_leg_88 (by decide) ?_
    revert hf; refine zbi (fun x3 e_x3 hf => ?_)
    refine zq_iald dX12_leg_90 e_x3 ?_
    by_cases hc2 : s0 < x3
    · rw [if_pos hc2] at hf
      refine zr_iclt_t (tgt := 103) dX12_leg_91 (by decide) hc2 ?_
      exact s_X12_leg_103 hg N l0 l1 l2 s0 h h' hf
    · rw [if_neg hc2] at hf
      refine zr_iclt_f 103 dX12_leg_91 (by decide) hc2 ?_
      refine zr_aload_n (v := .inl (some l0)) dX12_leg_94 rfl rfl ?_
      refine zr_iconst (v := (3 : Int32)) dX12_leg_95 (by decide) ?_
      refine zr_aload_n (v := .inl (some l0)) dX12_leg_96 rfl rfl ?_
      revert hf; refine zbi (fun x4 e_x4 hf => ?_)
      refine zq_getI kg_525 dX12_leg_97 e_x4 ?_
      revert hf; refine zbi (fun q1 e_q1 hf => ?_)
      revert hf; refine zbi (fun h1 e_h1 hf => ?_)
      refine zq_callV (J' := jX12_fail) (as := [zi (3 : Int32), zi x4]) (rest := []) (r1 := none) (q := (RX12, TX12, 31)) kw_632 km_X12_fail kt_545 dX12_leg_100 rfl (Nat.le_of_ble_eq_true rfl) rfl rfl e_q1 rfl (c_X12_fail hg e_h1) ?_
      exact s_X12_leg_103 hg N l0 l1 l2 s0 h1 h' hf
  · rw [if_neg hc1] at hf
    refine zr_ifne_t (tgt := 103) dX12_leg_80 (by decide) hc1 ?_
    exact s_X12_leg_103 hg N l0 l1 l2 s0 h h' hf
def f_X12_leg_56 (N : Nat) (l0 : Nat) (l1 : Int32) (s0 : Int32) (h : zH) : Option zH := (zgI h 12 (some l0) 9).bind fun x1 => if x1 = 0 then (zck h 12 (some l0)).bind fun q1 => zb2 (f_X12_numberOf N q1 (0 : Int32) (999999 : Int32) h) fun x2 h1 => f_X12_leg_75 N l0 l1 s0 x2 h1 else f_X12_leg_75 N l0 l1 s0 (0 : Int32) h
set_option maxHeartbeats 4000000 in
set_option maxRecDepth 100000 in
theorem s_X12_leg_56 {g : zG} (hg : g.2.1.map (fun q => q.2) = zty) {h0 : zH} (N : Nat) (l0 : Nat) (l1 : Int32) (s0 : Int32) (h : zH) (h' : zH) (hf : f_X12_leg_56 N l0 l1 s0 h = some h') : zR g jX12_leg h0 56 [some (zr (some l0)), some (zi l1), none, none] [zi s0] h none h' := by
  unfold f_X12_leg_56 at hf
  refine zq_istore_n (x := s0) (L' := [some (zr (some l0)), some (zi l1), some (zi s0), none]) dX12_leg_56 rfl (by decide) rfl ?_
  refine zr_aload_n (v := .inl (some l0)) dX12_leg_57 rfl rfl ?_
  revert hf; refine zbi (fun x1 e_x1 hf => ?_)
  refine zq_getI kg_515 dX12_leg_58 e_x1 ?_
  by_cases hc1 : x1 = 0
  · rw [if_pos hc1] at hf
    refine zr_ifne_f 74 dX12_leg_61 (by decide) hc1 ?_
    refine zr_aload_n (v := .inl (some l0)) dX12_leg_64 rfl rfl ?_
    refine zr_iconst (v := (0 : Int32)) dX12_leg_65 (by decide) ?_
    refine zr_ldc (v := (999999 : Int32)) kw_648 dX12_leg_66 ?_
    revert hf; refine zbi (fun q1 e_q1 hf => ?_)
    revert hf; refine zbi2 (fun x2 h1 e_x2 hf => ?_)
    refine zq_callV (J' := jX12_numberOf) (as := [zi (0 : Int32), zi (999999 : Int32)]) (rest := []) (r1 := (some (zi x2))) (q := (RX12, TX12, 31)) kw_640 km_X12_numberOf kt_546 dX12_leg_68 rfl (Nat.le_of_ble_eq_true rfl) rfl rfl e_q1 rfl (c_X12_numberOf hg e_x2) ?_
    refine zr_goto (tgt := 75) dX12_leg_71 (by decide) ?_
    exact s_X12_leg_75 hg N l0 l1 s0 x2 h1 h' hf
  · rw [if_neg hc1] at hf
    refine zr_ifne_t (tgt := 74) dX12_leg_61 (by decide) hc1 ?_
    refine zr_iconst (v := (0 : Int32)) dX12_leg_74 (by decide) ?_
    exact s_X12_leg_75 hg N l0 l1 s0 (0 : Int32) h h' hf
def f_X12_leg_37 (N : Nat) (l0 : Nat) (s0 : Int32) (h : zH) : Option zH := (zgI h 12 (some l0) 9).bind fun x1 => if x1 = 0 then (zck h 12 (some l0)).bind fun q1 => zb2 (f_X12_numberOf N q1 (1 : Int32) (6 : Int32) h) fun x2 h1 => f_X12_leg_56 N l0 s0 x2 h1 else f_X12_leg_56 N l0 s0 (0 : Int32) h
set_option maxHeartbeats 4000000 in
set_option maxRecDepth 100000 in
theorem s_X12_leg_37 {g : zG} (hg : g.2.1.map (fun q => q.2) = zty) {h0 : zH} (N : Nat) (l0 : Nat) (s0 : Int32) (h : zH) (h' : zH) (hf : f_X12_leg_37 N l0 s0 h = some h') : zR g jX12_leg h0 37 [some (zr (some l0)), none, none, none] [zi s0] h none h' := by
  unfold f_X12_leg_37 at hf
  refine zq_istore_n (x := s0) (L' := [some (zr (some l0)), some (zi s0), none, none]) dX12_leg_37 rfl (by decide) rfl ?_
  refine zr_aload_n (v := .inl (some l0)) dX12_leg_38 rfl rfl ?_
  revert hf; refine zbi (fun x1 e_x1 hf => ?_)
  refine zq_getI kg_515 dX12_leg_39 e_x1 ?_
  by_cases hc1 : x1 = 0
  · rw [if_pos hc1] at hf
    refine zr_ifne_f 55 dX12_leg_42 (by decide) hc1 ?_
    refine zr_aload_n (v := .inl (some l0)) dX12_leg_45 rfl rfl ?_
    refine zr_iconst (v := (1 : Int32)) dX12_leg_46 (by decide) ?_
    refine zr_bipush (v := (6 : Int32)) dX12_leg_47 (by decide) ?_
    revert hf; refine zbi (fun q1 e_q1 hf => ?_)
    revert hf; refine zbi2 (fun x2 h1 e_x2 hf => ?_)
    refine zq_callV (J' := jX12_numberOf) (as := [zi (1 : Int32), zi (6 : Int32)]) (rest := []) (r1 := (some (zi x2))) (q := (RX12, TX12, 31)) kw_640 km_X12_numberOf kt_546 dX12_leg_49 rfl (Nat.le_of_ble_eq_true rfl) rfl rfl e_q1 rfl (c_X12_numberOf hg e_x2) ?_
    refine zr_goto (tgt := 56) dX12_leg_52 (by decide) ?_
    exact s_X12_leg_56 hg N l0 s0 x2 h1 h' hf
  · rw [if_neg hc1] at hf
    refine zr_ifne_t (tgt := 55) dX12_leg_42 (by decide) hc1 ?_
    refine zr_iconst (v := (0 : Int32)) dX12_leg_55 (by decide) ?_
    exact s_X12_leg_56 hg N l0 s0 (0 : Int32) h h' hf
def f_X12_leg_19 (N : Nat) (l0 : Nat) (h : zH) : Option zH := (zgI h 12 (some l0) 9).bind fun x1 => if x1 = 0 then (zck h 12 (some l0)).bind fun q1 => zb2 (f_X12_numberOf N q1 (1 : Int32) (12 : Int32) h) fun x2 h1 => f_X12_leg_37 N l0 x2 h1 else f_X12_leg_37 N l0 (0 : Int32) h
set_option maxHeartbeats 4000000 in
set_option maxRecDepth 100000 in
theorem s_X12_leg_19 {g : zG} (hg : g.2.1.map (fun q => q.2) = zty) {h0 : zH} (N : Nat) (l0 : Nat) (h : zH) (h' : zH) (hf : f_X12_leg_19 N l0 h = some h') : zR g jX12_leg h0 19 [some (zr (some l0)), none, none, none] [] h none h' := by
  unfold f_X12_leg_19 at hf
  refine zr_aload_n (v := .inl (some l0)) dX12_leg_19 rfl rfl ?_
  revert hf; refine zbi (fun x1 e_x1 hf => ?_)
  refine zq_getI kg_515 dX12_leg_20 e_x1 ?_
  by_cases hc1 : x1 = 0
  · rw [if_pos hc1] at hf
    refine zr_ifne_f 36 dX12_leg_23 (by decide) hc1 ?_
    refine zr_aload_n (v := .inl (some l0)) dX12_leg_26 rfl rfl ?_
    refine zr_iconst (v := (1 : Int32)) dX12_leg_27 (by decide) ?_
    refine zr_bipush (v := (12 : Int32)) dX12_leg_28 (by decide) ?_
    revert hf; refine zbi (fun q1 e_q1 hf => ?_)
    revert hf; refine zbi2 (fun x2 h1 e_x2 hf => ?_)
    refine zq_callV (J' := jX12_numberOf) (as := [zi (1 : Int32), zi (12 : Int32)]) (rest := []) (r1 := (some (zi x2))) (q := (RX12, TX12, 31)) kw_640 km_X12_numberOf kt_546 dX12_leg_30 rfl (Nat.le_of_ble_eq_true rfl) rfl rfl e_q1 rfl (c_X12_numberOf hg e_x2) ?_
    refine zr_goto (tgt := 37) dX12_leg_33 (by decide) ?_
    exact s_X12_leg_37 hg N l0 x2 h1 h' hf
  · rw [if_neg hc1] at hf
    refine zr_ifne_t (tgt := 36) dX12_leg_23 (by decide) hc1 ?_
    refine zr_iconst (v := (0 : Int32)) dX12_leg_36 (by decide) ?_
    exact s_X12_leg_37 hg N l0 (0 : Int32) h h' hf
def f_X12_leg (N : Nat) (l0 : Nat) (h : zH) : Option zH := (zgR h 12 (some l0) 21).bind fun x1 => (zld h 0 x1 (1 : Int32)).bind fun x2 => if x2 = (4 : Int32) then (zgI h 12 (some l0) 7).bind fun x3 => (zck h 12 (some l0)).bind fun q1 => (f_X12_fail N q1 (3 : Int32) x3 h).bind fun h1 => f_X12_leg_19 N l0 h1 else f_X12_leg_19 N l0 h
set_option maxHeartbeats 4000000 in
set_option maxRecDepth 100000 in
theorem s_X12_leg {g : zG} (hg : g.2.1.map (fun q => q.2) = zty) {h0 : zH} (N : Nat) (l0 : Nat) (h : zH) (h' : zH) (hf : f_X12_leg N l0 h = some h') : zR g jX12_leg h0 0 [some (zr (some l0)), none, none, none] [] h none h' := by
  unfold f_X12_leg at hf
  refine zr_aload_n (v := .inl (some l0)) dX12_leg_0 rfl rfl ?_
  revert hf; refine zbi (fun x1 e_x1 hf => ?_)
  refine zq_getR kg_537 dX12_leg_1 e_x1 ?_
  refine zr_iconst (v := (1 : Int32)) dX12_leg_4 (by decide) ?_
  revert hf; refine zbi (fun x2 e_x2 hf => ?_)
  refine zq_iald dX12_leg_5 e_x2 ?_
  refine zr_iconst (v := (4 : Int32)) dX12_leg_6 (by decide) ?_
  by_cases hc1 : x2 = (4 : Int32)
  · rw [if_pos hc1] at hf
    refine zr_icne_f 19 dX12_leg_7 (by decide) hc1 ?_
    refine zr_aload_n (v := .inl (some l0)) dX12_leg_10 rfl rfl ?_
    refine zr_iconst (v := (3 : Int32)) dX12_leg_11 (by decide) ?_
    refine zr_aload_n (v := .inl (some l0)) dX12_leg_12 rfl rfl ?_
    revert hf; refine zbi (fun x3 e_x3 hf => ?_)
    refine zq_getI kg_525 dX12_leg_13 e_x3 ?_
    revert hf; refine zbi (fun q1 e_q1 hf => ?_)
    revert hf; refine zbi (fun h1 e_h1 hf => ?_)
    refine zq_callV (J' := jX12_fail) (as := [zi (3 : Int32), zi x3]) (rest := []) (r1 := none) (q := (RX12, TX12, 31)) kw_632 km_X12_fail kt_545 dX12_leg_16 rfl (Nat.le_of_ble_eq_true rfl) rfl rfl e_q1 rfl (c_X12_fail hg e_h1) ?_
    exact s_X12_leg_19 hg N l0 h1 h' hf
  · rw [if_neg hc1] at hf
    refine zr_icne_t (tgt := 19) dX12_leg_7 (by decide) hc1 ?_
    exact s_X12_leg_19 hg N l0 h h' hf
theorem c_X12_leg {g : zG} (hg : g.2.1.map (fun q => q.2) = zty) {N : Nat} {l0 : Nat} {h : zH} {h' : zH} (hf : f_X12_leg N l0 h = some h') : zCa g jX12_leg [zr (some l0)] h none h' :=
  zCa.of hg (by decide +kernel) (Nat.le_of_ble_eq_true rfl) (s_X12_leg hg N l0 h h' hf)
theorem dX12_tie_0 : decode cX12_tie 0 = .ok (.aload_n 0, 1) := by decide +kernel
theorem dX12_tie_1 : decode cX12_tie 1 = .ok (.getfield 46, 3) := by decide +kernel
theorem dX12_tie_4 : decode cX12_tie 4 = .ok (.bipush 115, 2) := by decide +kernel
theorem dX12_tie_6 : decode cX12_tie 6 = .ok (.iaload, 1) := by decide +kernel
theorem dX12_tie_7 : decode cX12_tie 7 = .ok (.bipush 6, 2) := by decide +kernel
theorem dX12_tie_9 : decode cX12_tie 9 = .ok (.if_icmp .eq 35, 3) := by decide +kernel
theorem dX12_tie_12 : decode cX12_tie 12 = .ok (.aload_n 0, 1) := by decide +kernel
theorem dX12_tie_13 : decode cX12_tie 13 = .ok (.getfield 46, 3) := by decide +kernel
theorem dX12_tie_16 : decode cX12_tie 16 = .ok (.bipush 115, 2) := by decide +kernel
theorem dX12_tie_18 : decode cX12_tie 18 = .ok (.iaload, 1) := by decide +kernel
theorem dX12_tie_19 : decode cX12_tie 19 = .ok (.ifCond .le 34, 3) := by decide +kernel
theorem dX12_tie_22 : decode cX12_tie 22 = .ok (.aload_n 0, 1) := by decide +kernel
theorem dX12_tie_23 : decode cX12_tie 23 = .ok (.getfield 46, 3) := by decide +kernel
theorem dX12_tie_26 : decode cX12_tie 26 = .ok (.bipush 116, 2) := by decide +kernel
theorem dX12_tie_28 : decode cX12_tie 28 = .ok (.aload_n 0, 1) := by decide +kernel
theorem dX12_tie_29 : decode cX12_tie 29 = .ok (.getfield 46, 3) := by decide +kernel
theorem dX12_tie_32 : decode cX12_tie 32 = .ok (.bipush 115, 2) := by decide +kernel
theorem dX12_tie_34 : decode cX12_tie 34 = .ok (.iaload, 1) := by decide +kernel
theorem dX12_tie_35 : decode cX12_tie 35 = .ok (.iadd, 1) := by decide +kernel
theorem dX12_tie_36 : decode cX12_tie 36 = .ok (.iconst 1, 1) := by decide +kernel
theorem dX12_tie_37 : decode cX12_tie 37 = .ok (.isub, 1) := by decide +kernel
theorem dX12_tie_38 : decode cX12_tie 38 = .ok (.iaload, 1) := by decide +kernel
theorem dX12_tie_39 : decode cX12_tie 39 = .ok (.bipush 22, 2) := by decide +kernel
theorem dX12_tie_41 : decode cX12_tie 41 = .ok (.if_icmp .ne 12, 3) := by decide +kernel
theorem dX12_tie_44 : decode cX12_tie 44 = .ok (.aload_n 0, 1) := by decide +kernel
theorem dX12_tie_45 : decode cX12_tie 45 = .ok (.iconst 3, 1) := by decide +kernel
theorem dX12_tie_46 : decode cX12_tie 46 = .ok (.aload_n 0, 1) := by decide +kernel
theorem dX12_tie_47 : decode cX12_tie 47 = .ok (.getfield 89, 3) := by decide +kernel
theorem dX12_tie_50 : decode cX12_tie 50 = .ok (.invokevirtual 108, 3) := by decide +kernel
theorem dX12_tie_53 : decode cX12_tie 53 = .ok (.iload_n 1, 1) := by decide +kernel
theorem dX12_tie_54 : decode cX12_tie 54 = .ok (.istore_n 2, 1) := by decide +kernel
theorem dX12_tie_55 : decode cX12_tie 55 = .ok (.iload_n 1, 1) := by decide +kernel
theorem dX12_tie_56 : decode cX12_tie 56 = .ok (.ifCond .ne 18, 3) := by decide +kernel
theorem dX12_tie_59 : decode cX12_tie 59 = .ok (.aload_n 0, 1) := by decide +kernel
theorem dX12_tie_60 : decode cX12_tie 60 = .ok (.getfield 77, 3) := by decide +kernel
theorem dX12_tie_63 : decode cX12_tie 63 = .ok (.ifCond .ne 11, 3) := by decide +kernel
theorem dX12_tie_66 : decode cX12_tie 66 = .ok (.aload_n 0, 1) := by decide +kernel
theorem dX12_tie_67 : decode cX12_tie 67 = .ok (.iconst 0, 1) := by decide +kernel
theorem dX12_tie_68 : decode cX12_tie 68 = .ok (.bipush 20, 2) := by decide +kernel
theorem dX12_tie_70 : decode cX12_tie 70 = .ok (.invokevirtual 116, 3) := by decide +kernel
theorem dX12_tie_73 : decode cX12_tie 73 = .ok (.istore_n 2, 1) := by decide +kernel
theorem dX12_tie_74 : decode cX12_tie 74 = .ok (.aload_n 0, 1) := by decide +kernel
theorem dX12_tie_75 : decode cX12_tie 75 = .ok (.getfield 77, 3) := by decide +kernel
theorem dX12_tie_78 : decode cX12_tie 78 = .ok (.ifCond .ne 9, 3) := by decide +kernel
theorem dX12_tie_81 : decode cX12_tie 81 = .ok (.aload_n 0, 1) := by decide +kernel
theorem dX12_tie_82 : decode cX12_tie 82 = .ok (.bipush 59, 2) := by decide +kernel
theorem dX12_tie_84 : decode cX12_tie 84 = .ok (.invokevirtual 112, 3) := by decide +kernel
theorem dX12_tie_87 : decode cX12_tie 87 = .ok (.aload_n 0, 1) := by decide +kernel
theorem dX12_tie_88 : decode cX12_tie 88 = .ok (.getfield 77, 3) := by decide +kernel
theorem dX12_tie_91 : decode cX12_tie 91 = .ok (.ifCond .eq 4, 3) := by decide +kernel
theorem dX12_tie_94 : decode cX12_tie 94 = .ok (.return_, 1) := by decide +kernel
theorem dX12_tie_95 : decode cX12_tie 95 = .ok (.aload_n 0, 1) := by decide +kernel
theorem dX12_tie_96 : decode cX12_tie 96 = .ok (.getfield 46, 3) := by decide +kernel
theorem dX12_tie_99 : decode cX12_tie 99 = .ok (.bipush 116, 2) := by decide +kernel
theorem dX12_tie_101 : decode cX12_tie 101 = .ok (.aload_n 0, 1) := by decide +kernel
theorem dX12_tie_102 : decode cX12_tie 102 = .ok (.getfield 46, 3) := by decide +kernel
theorem dX12_tie_105 : decode cX12_tie 105 = .ok (.bipush 115, 2) := by decide +kernel
theorem dX12_tie_107 : decode cX12_tie 107 = .ok (.iaload, 1) := by decide +kernel
theorem dX12_tie_108 : decode cX12_tie 108 = .ok (.iadd, 1) := by decide +kernel
theorem dX12_tie_109 : decode cX12_tie 109 = .ok (.iload_n 2, 1) := by decide +kernel
theorem dX12_tie_110 : decode cX12_tie 110 = .ok (.iastore, 1) := by decide +kernel
theorem dX12_tie_111 : decode cX12_tie 111 = .ok (.aload_n 0, 1) := by decide +kernel
theorem dX12_tie_112 : decode cX12_tie 112 = .ok (.getfield 46, 3) := by decide +kernel
theorem dX12_tie_115 : decode cX12_tie 115 = .ok (.bipush 115, 2) := by decide +kernel
theorem dX12_tie_117 : decode cX12_tie 117 = .ok (.dup2, 1) := by decide +kernel
theorem dX12_tie_118 : decode cX12_tie 118 = .ok (.iaload, 1) := by decide +kernel
theorem dX12_tie_119 : decode cX12_tie 119 = .ok (.iconst 1, 1) := by decide +kernel
theorem dX12_tie_120 : decode cX12_tie 120 = .ok (.iadd, 1) := by decide +kernel
theorem dX12_tie_121 : decode cX12_tie 121 = .ok (.iastore, 1) := by decide +kernel
theorem dX12_tie_122 : decode cX12_tie 122 = .ok (.return_, 1) := by decide +kernel
def f_X12_tie_87 (N : Nat) (l0 : Nat) (l2 : Int32) (h : zH) : Option zH := (zgI h 12 (some l0) 9).bind fun x1 => if x1 = 0 then (zgR h 12 (some l0) 21).bind fun x2 => (zgR h 12 (some l0) 21).bind fun x3 => (zld h 0 x3 (115 : Int32)).bind fun x4 => (zst h 0 x2 ((116 : Int32) + x4) l2).bind fun h1 => (zgR h1 12 (some l0) 21).bind fun x5 => (zld h1 0 x5 (115 : Int32)).bind fun x6 => (zst h1 0 x5 (115 : Int32) (x6 + (1 : Int32))).bind fun h2 => some h2 else some h
set_option maxHeartbeats 4000000 in
set_option maxRecDepth 100000 in
theorem s_X12_tie_87 {g : zG} (hg : g.2.1.map (fun q => q.2) = zty) {h0 : zH} (N : Nat) (l0 : Nat) (l2 : Int32) (h : zH) (h' : zH) (hf : f_X12_tie_87 N l0 l2 h = some h') : zR g jX12_tie h0 87 [some (zr (some l0)), none, some (zi l2)] [] h none h' := by
  unfold f_X12_tie_87 at hf
  refine zr_aload_n (v := .inl (some l0)) dX12_tie_87 rfl rfl ?_
  revert hf; refine zbi (fun x1 e_x1 hf => ?_)
  refine zq_getI kg_515 dX12_tie_88 e_x1 ?_
  by_cases hc1 : x1 = 0
  · rw [if_pos hc1] at hf
    refine zr_ifeq_t (tgt := 95) dX12_tie_91 (by decide) hc1 ?_
    refine zr_aload_n (v := .inl (some l0)) dX12_tie_95 rfl rfl ?_
    revert hf; refine zbi (fun x2 e_x2 hf => ?_)
    refine zq_getR kg_537 dX12_tie_96 e_x2 ?_
    refine zr_bipush (v := (116 : Int32)) dX12_tie_99 (by decide) ?_
    refine zr_aload_n (v := .inl (some l0)) dX12_tie_101 rfl rfl ?_
    revert hf; refine zbi (fun x3 e_x3 hf => ?_)
    refine zq_getR kg_537 dX12_tie_102 e_x3 ?_
    refine zr_bipush (v := (115 : Int32)) dX12_tie_105 (by decide) ?_
    revert hf; refine zbi (fun x4 e_x4 hf => ?_)
    refine zq_iald dX12_tie_107 e_x4 ?_
    refine zr_iadd dX12_tie_108 ?_
    refine zr_iload_n (x := l2) dX12_tie_109 rfl rfl ?_
    revert hf; refine zbi (fun h1 e_h1 hf => ?_)
    refine zq_iast dX12_tie_110 e_h1 ?_
    refine zr_aload_n (v := .inl (some l0)) dX12_tie_111 rfl rfl ?_
    revert hf; refine zbi (fun x5 e_x5 hf => ?_)
    refine zq_getR kg_537 dX12_tie_112 e_x5 ?_
    refine zr_bipush (v := (115 : Int32)) dX12_tie_115 (by decide) ?_
    refine zr_dup2 dX12_tie_117 ?_
    revert hf; refine zbi (fun x6 e_x6 hf => ?_)
    refine zq_iald dX12_tie_118 e_x6 ?_
    refine zr_iconst (v := (1 : Int32)) dX12_tie_119 (by decide) ?_
    refine zr_iadd dX12_tie_120 ?_
    revert hf; refine zbi (fun h2 e_h2 hf => ?_)
    refine zq_iast dX12_tie_121 e_h2 ?_
    cases hf
    exact zr_ret none trivial dX12_tie_122
  · rw [if_neg hc1] at hf
    refine zr_ifeq_f 95 dX12_tie_91 (by decide) hc1 ?_
    cases hf
    exact zr_ret none trivial dX12_tie_94
def f_X12_tie_74 (N : Nat) (l0 : Nat) (l2 : Int32) (h : zH) : Option zH := (zgI h 12 (some l0) 9).bind fun x1 => if x1 = 0 then (zck h 12 (some l0)).bind fun q1 => (f_X12_sign N q1 (59 : Int32) h).bind fun h1 => f_X12_tie_87 N l0 l2 h1 else f_X12_tie_87 N l0 l2 h
set_option maxHeartbeats 4000000 in
set_option maxRecDepth 100000 in
theorem s_X12_tie_74 {g : zG} (hg : g.2.1.map (fun q => q.2) = zty) {h0 : zH} (N : Nat) (l0 : Nat) (l2 : Int32) (h : zH) (h' : zH) (hf : f_X12_tie_74 N l0 l2 h = some h') : zR g jX12_tie h0 74 [some (zr (some l0)), none, some (zi l2)] [] h none h' := by
  unfold f_X12_tie_74 at hf
  refine zr_aload_n (v := .inl (some l0)) dX12_tie_74 rfl rfl ?_
  revert hf; refine zbi (fun x1 e_x1 hf => ?_)
  refine zq_getI kg_515 dX12_tie_75 e_x1 ?_
  by_cases hc1 : x1 = 0
  · rw [if_pos hc1] at hf
    refine zr_ifne_f 87 dX12_tie_78 (by decide) hc1 ?_
    refine zr_aload_n (v := .inl (some l0)) dX12_tie_81 rfl rfl ?_
    refine zr_bipush (v := (59 : Int32)) dX12_tie_82 (by decide) ?_
    revert hf; refine zbi (fun q1 e_q1 hf => ?_)
    revert hf; refine zbi (fun h1 e_h1 hf => ?_)
    refine zq_callV (J' := jX12_sign) (as := [zi (59 : Int32)]) (rest := []) (r1 := none) (q := (RX12, TX12, 31)) kw_644 km_X12_sign kt_547 dX12_tie_84 rfl (Nat.le_of_ble_eq_true rfl) rfl rfl e_q1 rfl (c_X12_sign hg e_h1) ?_
    exact s_X12_tie_87 hg N l0 l2 h1 h' hf
  · rw [if_neg hc1] at hf
    refine zr_ifne_t (tgt := 87) dX12_tie_78 (by decide) hc1 ?_
    exact s_X12_tie_87 hg N l0 l2 h h' hf
def f_X12_tie_53 (N : Nat) (l0 : Nat) (l1 : Int32) (h : zH) : Option zH := if l1 = 0 then (zgI h 12 (some l0) 9).bind fun x1 => if x1 = 0 then (zck h 12 (some l0)).bind fun q1 => zb2 (f_X12_numberOf N q1 (0 : Int32) (20 : Int32) h) fun x2 h1 => f_X12_tie_74 N l0 x2 h1 else f_X12_tie_74 N l0 l1 h else f_X12_tie_74 N l0 l1 h
set_option maxHeartbeats 4000000 in
set_option maxRecDepth 100000 in
theorem s_X12_tie_53 {g : zG} (hg : g.2.1.map (fun q => q.2) = zty) {h0 : zH} (N : Nat) (l0 : Nat) (l1 : Int32) (h : zH) (h' : zH) (hf : f_X12_tie_53 N l0 l1 h = some h') : zR g jX12_tie h0 53 [some (zr (some l0)), some (zi l1), none] [] h none h' := by
  unfold f_X12_tie_53 at hf
  refine zr_iload_n (x := l1) dX12_tie_53 rfl rfl ?_
  refine zq_istore_n (x := l1) (L' := [some (zr (some l0)), some (zi l1), some (zi l1)]) dX12_tie_54 rfl (by decide) rfl ?_
  refine zr_iload_n (x := l1) dX12_tie_55 rfl rfl ?_
  by_cases hc1 : l1 = 0
  · rw [if_pos hc1] at hf
    refine zr_ifne_f 74 dX12_tie_56 (by decide) hc1 ?_
    refine zr_aload_n (v := .inl (some l0)) dX12_tie_59 rfl rfl ?_
    revert hf; refine zbi (fun x1 e_x1 hf => ?_)
    refine zq_getI kg_515 dX12_tie_60 e_x1 ?_
    by_cases hc2 : x1 = 0
    · rw [if_pos hc2] at hf
      refine zr_ifne_f 74 dX12_tie_63 (by decide) hc2 ?_
      refine zr_aload_n (v := .inl (some l0)) dX12_tie_66 rfl rfl ?_
      refine zr_iconst (v := (0 : Int32)) dX12_tie_67 (by decide) ?_
      refine zr_bipush (v := (20 : Int32)) dX12_tie_68 (by decide) ?_
      revert hf; refine zbi (fun q1 e_q1 hf => ?_)
      revert hf; refine zbi2 (fun x2 h1 e_x2 hf => ?_)
      refine zq_callV (J' := jX12_numberOf) (as := [zi (0 : Int32), zi (20 : Int32)]) (rest := []) (r1 := (some (zi x2))) (q := (RX12, TX12, 31)) kw_640 km_X12_numberOf kt_548 dX12_tie_70 rfl (Nat.le_of_ble_eq_true rfl) rfl rfl e_q1 rfl (c_X12_numberOf hg e_x2) ?_
      refine zq_istore_n (x := x2) (L' := [some (zr (some l0)), some (zi l1), some (zi x2)]) dX12_tie_73 rfl (by decide) rfl ?_
      refine zr_forget 1 (L' := [some (zr (some l0)), none, some (zi x2)]) rfl ?_
      exact s_X12_tie_74 hg N l0 x2 h1 h' hf
    · rw [if_neg hc2] at hf
      refine zr_ifne_t (tgt := 74) dX12_tie_63 (by decide) hc2 ?_
      refine zr_forget 1 (L' := [some (zr (some l0)), none, some (zi l1)]) rfl ?_
      exact s_X12_tie_74 hg N l0 l1 h h' hf
  · rw [if_neg hc1] at hf
    refine zr_ifne_t (tgt := 74) dX12_tie_56 (by decide) hc1 ?_
    refine zr_forget 1 (L' := [some (zr (some l0)), none, some (zi l1)]) rfl ?_
    exact s_X12_tie_74 hg N l0 l1 h h' hf
def f_X12_tie_44 (N : Nat) (l0 : Nat) (l1 : Int32) (h : zH) : Option zH := (zgI h 12 (some l0) 7).bind fun x1 => (zck h 12 (some l0)).bind fun q1 => (f_X12_fail N q1 (3 : Int32) x1 h).bind fun h1 => f_X12_tie_53 N l0 l1 h1
set_option maxHeartbeats 4000000 in
set_option maxRecDepth 100000 in
theorem s_X12_tie_44 {g : zG} (hg : g.2.1.map (fun q => q.2) = zty) {h0 : zH} (N : Nat) (l0 : Nat) (l1 : Int32) (h : zH) (h' : zH) (hf : f_X12_tie_44 N l0 l1 h = some h') : zR g jX12_tie h0 44 [some (zr (some l0)), some (zi l1), none] [] h none h' := by
  unfold f_X12_tie_44 at hf
  refine zr_aload_n (v := .inl (some l0)) dX12_tie_44 rfl rfl ?_
  refine zr_iconst (v := (3 : Int32)) dX12_tie_45 (by decide) ?_
  refine zr_aload_n (v := .inl (some l0)) dX12_tie_46 rfl rfl ?_
  revert hf; refine zbi (fun x1 e_x1 hf => ?_)
  refine zq_getI kg_525 dX12_tie_47 e_x1 ?_
  revert hf; refine zbi (fun q1 e_q1 hf => ?_)
  revert hf; refine zbi (fun h1 e_h1 hf => ?_)
  refine zq_callV (J' := jX12_fail) (as := [zi (3 : Int32), zi x1]) (rest := []) (r1 := none) (q := (RX12, TX12, 31)) kw_632 km_X12_fail kt_549 dX12_tie_50 rfl (Nat.le_of_ble_eq_true rfl) rfl rfl e_q1 rfl (c_X12_fail hg e_h1) ?_
  exact s_X12_tie_53 hg N l0 l1 h1 h' hf
def f_X12_tie (N : Nat) (l0 : Nat) (l1 : Int32) (h : zH) : Option zH := (zgR h 12 (some l0) 21).bind fun x1 => (zld h 0 x1 (115 : Int32)).bind fun x2 => if x2 = (6 : Int32) then f_X12_tie_44 N l0 l1 h else (zgR h 12 (some l0) 21).bind fun x3 => (zld h 0 x3 (115 : Int32)).bind fun x4 => if x4 ≤ 0 then f_X12_tie_53 N l0 l1 h else (zgR h 12 (some l0) 21).bind fun x5 => (zgR h 12 (some l0) 21).bind fun x6 => (zld h 0 x6 (115 : Int32)).bind fun x7 => (zld h 0 x5 (((116 : Int32) + x7) - (1 : Int32))).bind fun x8 => if x8 = (22 : Int32) then f_X12_tie_44 N l0 l1 h else f_X12_tie_53 N l0 l1 h
set_option maxHeartbeats 4000000 in
set_option maxRecDepth 100000 in
theorem s_X12_tie {g : zG} (hg : g.2.1.map (fun q => q.2) = zty) {h0 : zH} (N : Nat) (l0 : Nat) (l1 : Int32) (h : zH) (h' : zH) (hf : f_X12_tie N l0 l1 h = some h') : zR g jX12_tie h0 0 [some (zr (some l0)), some (zi l1), none] [] h none h' := by
  unfold f_X12_tie at hf
  refine zr_aload_n (v := .inl (some l0)) dX12_tie_0 rfl rfl ?_
  revert hf; refine zbi (fun x1 e_x1 hf => ?_)
  refine zq_getR kg_537 dX12_tie_1 e_x1 ?_
  refine zr_bipush (v := (115 : Int32)) dX12_tie_4 (by decide) ?_
  revert hf; refine zbi (fun x2 e_x2 hf => ?_)
  refine zq_iald dX12_tie_6 e_x2 ?_
  refine zr_bipush (v := (6 : Int32)) dX12_tie_7 (by decide) ?_
  by_cases hc1 : x2 = (6 : Int32)
  · rw [if_pos hc1] at hf
    refine zr_iceq_t (tgt := 44) dX12_tie_9 (by decide) hc1 ?_
    exact s_X12_tie_44 hg N l0 l1 h h' hf
  · rw [if_neg hc1] at hf
    refine zr_iceq_f 44 dX12_tie_9 (by decide) hc1 ?_
    refine zr_aload_n (v := .inl (some l0)) dX12_tie_12 rfl rfl ?_
    revert hf; refine zbi (fun x3 e_x3 hf => ?_)
    refine zq_getR kg_537 dX12_tie_13 e_x3 ?_
    refine zr_bipush (v := (115 : Int32)) dX12_tie_16 (by decide) ?_
    revert hf; refine zbi (fun x4 e_x4 hf => ?_)
    refine zq_iald dX12_tie_18 e_x4 ?_
    by_cases hc2 : x4 ≤ 0
    · rw [if_pos hc2] at hf
      refine zr_ifle_t (tgt := 53) dX12_tie_19 (by decide) hc2 ?_
      exact s_X12_tie_53 hg N l0 l1 h h' hf
    · rw [if_neg hc2] at hf
      refine zr_ifle_f 53 dX12_tie_19 (by decide) hc2 ?_
      refine zr_aload_n (v := .inl (some l0)) dX12_tie_22 rfl rfl ?_
      revert hf; refine zbi (fun x5 e_x5 hf => ?_)
      refine zq_getR kg_537 dX12_tie_23 e_x5 ?_
      refine zr_bipush (v := (116 : Int32)) dX12_tie_26 (by decide) ?_
      refine zr_aload_n (v := .inl (some l0)) dX12_tie_28 rfl rfl ?_
      revert hf; refine zbi (fun x6 e_x6 hf => ?_)
      refine zq_getR kg_537 dX12_tie_29 e_x6 ?_
      refine zr_bipush (v := (115 : Int32)) dX12_tie_32 (by decide) ?_
      revert hf; refine zbi (fun x7 e_x7 hf => ?_)
      refine zq_iald dX12_tie_34 e_x7 ?_
      refine zr_iadd dX12_tie_35 ?_
      refine zr_iconst (v := (1 : Int32)) dX12_tie_36 (by decide) ?_
      refine zr_isub dX12_tie_37 ?_
      revert hf; refine zbi (fun x8 e_x8 hf => ?_)
      refine zq_iald dX12_tie_38 e_x8 ?_
      refine zr_bipush (v := (22 : Int32)) dX12_tie_39 (by decide) ?_
      by_cases hc3 : x8 = (22 : Int32)
      · rw [if_pos hc3] at hf
        refine zr_icne_f 53 dX12_tie_41 (by decide) hc3 ?_
        exact s_X12_tie_44 hg N l0 l1 h h' hf
      · rw [if_neg hc3] at hf
        refine zr_icne_t (tgt := 53) dX12_tie_41 (by decide) hc3 ?_
        exact s_X12_tie_53 hg N l0 l1 h h' hf
theorem c_X12_tie {g : zG} (hg : g.2.1.map (fun q => q.2) = zty) {N : Nat} {l0 : Nat} {l1 : Int32} {h : zH} {h' : zH} (hf : f_X12_tie N l0 l1 h = some h') : zCa g jX12_tie [zr (some l0), zi l1] h none h' :=
  zCa.of hg (by decide +kernel) (Nat.le_of_ble_eq_true rfl) (s_X12_tie hg N l0 l1 h h' hf)
theorem dX12_once_0 : decode cX12_once 0 = .ok (.aload_n 0, 1) := by decide +kernel
theorem dX12_once_1 : decode cX12_once 1 = .ok (.getfield 49, 3) := by decide +kernel
theorem dX12_once_4 : decode cX12_once 4 = .ok (.iload_n 1, 1) := by decide +kernel
theorem dX12_once_5 : decode cX12_once 5 = .ok (.baload, 1) := by decide +kernel
theorem dX12_once_6 : decode cX12_once 6 = .ok (.ifCond .eq 12, 3) := by decide +kernel
theorem dX12_once_9 : decode cX12_once 9 = .ok (.aload_n 0, 1) := by decide +kernel
theorem dX12_once_10 : decode cX12_once 10 = .ok (.iconst 3, 1) := by decide +kernel
theorem dX12_once_11 : decode cX12_once 11 = .ok (.aload_n 0, 1) := by decide +kernel
theorem dX12_once_12 : decode cX12_once 12 = .ok (.getfield 89, 3) := by decide +kernel
theorem dX12_once_15 : decode cX12_once 15 = .ok (.invokevirtual 108, 3) := by decide +kernel
theorem dX12_once_18 : decode cX12_once 18 = .ok (.aload_n 0, 1) := by decide +kernel
theorem dX12_once_19 : decode cX12_once 19 = .ok (.getfield 49, 3) := by decide +kernel
theorem dX12_once_22 : decode cX12_once 22 = .ok (.iload_n 1, 1) := by decide +kernel
theorem dX12_once_23 : decode cX12_once 23 = .ok (.iconst 1, 1) := by decide +kernel
theorem dX12_once_24 : decode cX12_once 24 = .ok (.bastore, 1) := by decide +kernel
theorem dX12_once_25 : decode cX12_once 25 = .ok (.aload_n 0, 1) := by decide +kernel
theorem dX12_once_26 : decode cX12_once 26 = .ok (.getfield 77, 3) := by decide +kernel
theorem dX12_once_29 : decode cX12_once 29 = .ok (.ifCond .ne 15, 3) := by decide +kernel
theorem dX12_once_32 : decode cX12_once 32 = .ok (.aload_n 0, 1) := by decide +kernel
theorem dX12_once_33 : decode cX12_once 33 = .ok (.getfield 46, 3) := by decide +kernel
theorem dX12_once_36 : decode cX12_once 36 = .ok (.iload_n 2, 1) := by decide +kernel
theorem dX12_once_37 : decode cX12_once 37 = .ok (.aload_n 0, 1) := by decide +kernel
theorem dX12_once_38 : decode cX12_once 38 = .ok (.iconst 0, 1) := by decide +kernel
theorem dX12_once_39 : decode cX12_once 39 = .ok (.iload_n 3, 1) := by decide +kernel
theorem dX12_once_40 : decode cX12_once 40 = .ok (.invokevirtual 116, 3) := by decide +kernel
theorem dX12_once_43 : decode cX12_once 43 = .ok (.iastore, 1) := by decide +kernel
theorem dX12_once_44 : decode cX12_once 44 = .ok (.aload_n 0, 1) := by decide +kernel
theorem dX12_once_45 : decode cX12_once 45 = .ok (.getfield 77, 3) := by decide +kernel
theorem dX12_once_48 : decode cX12_once 48 = .ok (.ifCond .ne 9, 3) := by decide +kernel
theorem dX12_once_51 : decode cX12_once 51 = .ok (.aload_n 0, 1) := by decide +kernel
theorem dX12_once_52 : decode cX12_once 52 = .ok (.bipush 59, 2) := by decide +kernel
theorem dX12_once_54 : decode cX12_once 54 = .ok (.invokevirtual 112, 3) := by decide +kernel
theorem dX12_once_57 : decode cX12_once 57 = .ok (.return_, 1) := by decide +kernel
def f_X12_once_44 (N : Nat) (l0 : Nat) (h : zH) : Option zH := (zgI h 12 (some l0) 9).bind fun x1 => if x1 = 0 then (zck h 12 (some l0)).bind fun q1 => (f_X12_sign N q1 (59 : Int32) h).bind fun h1 => some h1 else some h
set_option maxHeartbeats 4000000 in
set_option maxRecDepth 100000 in
theorem s_X12_once_44 {g : zG} (hg : g.2.1.map (fun q => q.2) = zty) {h0 : zH} (N : Nat) (l0 : Nat) (h : zH) (h' : zH) (hf : f_X12_once_44 N l0 h = some h') : zR g jX12_once h0 44 [some (zr (some l0)), none, none, none] [] h none h' := by
  unfold f_X12_once_44 at hf
  refine zr_aload_n (v := .inl (some l0)) dX12_once_44 rfl rfl ?_
  revert hf; refine zbi (fun x1 e_x1 hf => ?_)
  refine zq_getI kg_515 dX12_once_45 e_x1 ?_
  by_cases hc1 : x1 = 0
  · rw [if_pos hc1] at hf
    refine zr_ifne_f 57 dX12_once_48 (by decide) hc1 ?_
    refine zr_aload_n (v := .inl (some l0)) dX12_once_51 rfl rfl ?_
    refine zr_bipush (v := (59 : Int32)) dX12_once_52 (by decide) ?_
    revert hf; refine zbi (fun q1 e_q1 hf => ?_)
    revert hf; refine zbi (fun h1 e_h1 hf => ?_)
    refine zq_callV (J' := jX12_sign) (as := [zi (59 : Int32)]) (rest := []) (r1 := none) (q := (RX12, TX12, 31)) kw_644 km_X12_sign kt_550 dX12_once_54 rfl (Nat.le_of_ble_eq_true rfl) rfl rfl e_q1 rfl (c_X12_sign hg e_h1) ?_
    cases hf
    exact zr_ret none trivial dX12_once_57
  · rw [if_neg hc1] at hf
    refine zr_ifne_t (tgt := 57) dX12_once_48 (by decide) hc1 ?_
    cases hf
    exact zr_ret none trivial dX12_once_57
def f_X12_once_18 (N : Nat) (l0 : Nat) (l1 : Int32) (l2 : Int32) (l3 : Int32) (h : zH) : Option zH := (zgR h 12 (some l0) 22).bind fun x1 => (zst h 3 x1 l1 (vp_nar .boolean (1 : Int32))).bind fun h1 => (zgI h1 12 (some l0) 9).bind fun x2 => if x2 = 0 then (zgR h1 12 (some l0) 21).bind fun x3 => (zck h1 12 (some l0)).bind fun q1 => zb2 (f_X12_numberOf N q1 (0 : Int32) l3 h1) fun x4 h2 => (zst h2 0 x3 l2 x4).bind fun h3 => f_X12_once_44 N l0 h3 else f_X12_once_44 N l0 h1
set_option maxHeartbeats 4000000 in
set_option maxRecDepth 100000 in
theorem s_X12_once_18 {g : zG} (hg : g.2.1.map (fun q => q.2) = zty) {h0 : zH} (N : Nat) (l0 : Nat) (l1 : Int32) (l2 : Int32) (l3 : Int32) (h : zH) (h' : zH) (hf : f_X12_once_18 N l0 l1 l2 l3 h = some h') : zR g jX12_once h0 18 [some (zr (some l0)), some (zi l1), some (zi l2), some (zi l3)] [] h none h' := by
  unfold f_X12_once_18 at hf
  refine zr_aload_n (v := .inl (some l0)) dX12_once_18 rfl rfl ?_
  revert hf; refine zbi (fun x1 e_x1 hf => ?_)
  refine zq_getR kg_551 dX12_once_19 e_x1 ?_
  refine zr_iload_n (x := l1) dX12_once_22 rfl rfl ?_
  refine zr_iconst (v := (1 : Int32)) dX12_once_23 (by decide) ?_
  revert hf; refine zbi (fun h1 e_h1 hf => ?_)
  refine zq_zast dX12_once_24 e_h1 ?_
  refine zr_aload_n (v := .inl (some l0)) dX12_once_25 rfl rfl ?_
  revert hf; refine zbi (fun x2 e_x2 hf => ?_)
  refine zq_getI kg_515 dX12_once_26 e_x2 ?_
  by_cases hc1 : x2 = 0
  · rw [if_pos hc1] at hf
    refine zr_ifne_f 44 dX12_once_29 (by decide) hc1 ?_
    refine zr_aload_n (v := .inl (some l0)) dX12_once_32 rfl rfl ?_
    revert hf; refine zbi (fun x3 e_x3 hf => ?_)
    refine zq_getR kg_537 dX12_once_33 e_x3 ?_
    refine zr_iload_n (x := l2) dX12_once_36 rfl rfl ?_
    refine zr_aload_n (v := .inl (some l0)) dX12_once_37 rfl rfl ?_
    refine zr_iconst (v := (0 : Int32)) dX12_once_38 (by decide) ?_
    refine zr_iload_n (x := l3) dX12_once_39 rfl rfl ?_
    revert hf; refine zbi (fun q1 e_q1 hf => ?_)
    revert hf; refine zbi2 (fun x4 h2 e_x4 hf => ?_)
    refine zq_callV (J' := jX12_numberOf) (as := [zi (0 : Int32), zi l3]) (rest := [zi l2, zr x3]) (r1 := (some (zi x4))) (q := (RX12, TX12, 31)) kw_640 km_X12_numberOf kt_552 dX12_once_40 rfl (Nat.le_of_ble_eq_true rfl) rfl rfl e_q1 rfl (c_X12_numberOf hg e_x4) ?_
    revert hf; refine zbi (fun h3 e_h3 hf => ?_)
    refine zq_iast dX12_once_43 e_h3 ?_
    refine zr_forget 1 (L' := [some (zr (some l0)), none, some (zi l2), some (zi l3)]) rfl ?_
    refine zr_forget 2 (L' := [some (zr (some l0)), none, none, some (zi l3)]) rfl ?_
    refine zr_forget 3 (L' := [some (zr (some l0)), none, none, none]) rfl ?_
    exact s_X12_once_44 hg N l0 h3 h' hf
  · rw [if_neg hc1] at hf
    refine zr_ifne_t (tgt := 44) dX12_once_29 (by decide) hc1 ?_
    refine zr_forget 1 (L' := [some (zr (some l0)), none, some (zi l2), some (zi l3)]) rfl ?_
    refine zr_forget 2 (L' := [some (zr (some l0)), none, none, some (zi l3)]) rfl ?_
    refine zr_forget 3 (L' := [some (zr (some l0)), none, none, none]) rfl ?_
    exact s_X12_once_44 hg N l0 h1 h' hf
def f_X12_once (N : Nat) (l0 : Nat) (l1 : Int32) (l2 : Int32) (l3 : Int32) (h : zH) : Option zH := (zgR h 12 (some l0) 22).bind fun x1 => (zld h 3 x1 l1).bind fun x2 => if x2 = 0 then f_X12_once_18 N l0 l1 l2 l3 h else (zgI h 12 (some l0) 7).bind fun x3 => (zck h 12 (some l0)).bind fun q1 => (f_X12_fail N q1 (3 : Int32) x3 h).bind fun h1 => f_X12_once_18 N l0 l1 l2 l3 h1
set_option maxHeartbeats 4000000 in
set_option maxRecDepth 100000 in
theorem s_X12_once {g : zG} (hg : g.2.1.map (fun q => q.2) = zty) {h0 : zH} (N : Nat) (l0 : Nat) (l1 : Int32) (l2 : Int32) (l3 : Int32) (h : zH) (h' : zH) (hf : f_X12_once N l0 l1 l2 l3 h = some h') : zR g jX12_once h0 0 [some (zr (some l0)), some (zi l1), some (zi l2), some (zi l3)] [] h none h' := by
  unfold f_X12_once at hf
  refine zr_aload_n (v := .inl (some l0)) dX12_once_0 rfl rfl ?_
  revert hf; refine zbi (fun x1 e_x1 hf => ?_)
  refine zq_getR kg_551 dX12_once_1 e_x1 ?_
  refine zr_iload_n (x := l1) dX12_once_4 rfl rfl ?_
  revert hf; refine zbi (fun x2 e_x2 hf => ?_)
  refine zq_zald dX12_once_5 e_x2 ?_
  by_cases hc1 : x2 = 0
  · rw [if_pos hc1] at hf
    refine zr_ifeq_t (tgt := 18) dX12_once_6 (by decide) hc1 ?_
    exact s_X12_once_18 hg N l0 l1 l2 l3 h h' hf
  · rw [if_neg hc1] at hf
    refine zr_ifeq_f 18 dX12_once_6 (by decide) hc1 ?_
    refine zr_aload_n (v := .inl (some l0)) dX12_once_9 rfl rfl ?_
    refine zr_iconst (v := (3 : Int32)) dX12_once_10 (by decide) ?_
    refine zr_aload_n (v := .inl (some l0)) dX12_once_11 rfl rfl ?_
    revert hf; refine zbi (fun x3 e_x3 hf => ?_)
    refine zq_getI kg_525 dX12_once_12 e_x3 ?_
    revert hf; refine zbi (fun q1 e_q1 hf => ?_)
    revert hf; refine zbi (fun h1 e_h1 hf => ?_)
    refine zq_callV (J' := jX12_fail) (as := [zi (3 : Int32), zi x3]) (rest := []) (r1 := none) (q := (RX12, TX12, 31)) kw_632 km_X12_fail kt_553 dX12_once_15 rfl (Nat.le_of_ble_eq_true rfl) rfl rfl e_q1 rfl (c_X12_fail hg e_h1) ?_
    exact s_X12_once_18 hg N l0 l1 l2 l3 h1 h' hf
theorem c_X12_once {g : zG} (hg : g.2.1.map (fun q => q.2) = zty) {N : Nat} {l0 : Nat} {l1 : Int32} {l2 : Int32} {l3 : Int32} {h : zH} {h' : zH} (hf : f_X12_once N l0 l1 l2 l3 h = some h') : zCa g jX12_once [zr (some l0), zi l1, zi l2, zi l3] h none h' :=
  zCa.of hg (by decide +kernel) (Nat.le_of_ble_eq_true rfl) (s_X12_once hg N l0 l1 l2 l3 h h' hf)
theorem dX12_statement_0 : decode cX12_statement 0 = .ok (.aload_n 0, 1) := by decide +kernel
theorem dX12_statement_1 : decode cX12_statement 1 = .ok (.getfield 99, 3) := by decide +kernel
theorem dX12_statement_4 : decode cX12_statement 4 = .ok (.iconst 1, 1) := by decide +kernel
theorem dX12_statement_5 : decode cX12_statement 5 = .ok (.if_icmp .eq 15, 3) := by decide +kernel
theorem dX12_statement_8 : decode cX12_statement 8 = .ok (.aload_n 0, 1) := by decide +kernel
theorem dX12_statement_9 : decode cX12_statement 9 = .ok (.iconst 1, 1) := by decide +kernel
theorem dX12_statement_10 : decode cX12_statement 10 = .ok (.aload_n 0, 1) := by decide +kernel
theorem dX12_statement_11 : decode cX12_statement 11 = .ok (.getfield 89, 3) := by decide +kernel
theorem dX12_statement_14 : decode cX12_statement 14 = .ok (.invokevirtual 108, 3) := by decide +kernel
theorem dX12_statement_17 : decode cX12_statement 17 = .ok (.goto 176, 3) := by decide +kernel
theorem dX12_statement_20 : decode cX12_statement 20 = .ok (.aload_n 0, 1) := by decide +kernel
theorem dX12_statement_21 : decode cX12_statement 21 = .ok (.aload_n 0, 1) := by decide +kernel
theorem dX12_statement_22 : decode cX12_statement 22 = .ok (.getfield 21, 3) := by decide +kernel
theorem dX12_statement_25 : decode cX12_statement 25 = .ok (.invokevirtual 121, 3) := by decide +kernel
theorem dX12_statement_28 : decode cX12_statement 28 = .ok (.ifCond .eq 10, 3) := by decide +kernel
theorem dX12_statement_31 : decode cX12_statement 31 = .ok (.aload_n 0, 1) := by decide +kernel
theorem dX12_statement_32 : decode cX12_statement 32 = .ok (.invokevirtual 125, 3) := by decide +kernel
theorem dX12_statement_35 : decode cX12_statement 35 = .ok (.goto 158, 3) := by decide +kernel
theorem dX12_statement_38 : decode cX12_statement 38 = .ok (.aload_n 0, 1) := by decide +kernel
theorem dX12_statement_39 : decode cX12_statement 39 = .ok (.aload_n 0, 1) := by decide +kernel
theorem dX12_statement_40 : decode cX12_statement 40 = .ok (.getfield 25, 3) := by decide +kernel
theorem dX12_statement_43 : decode cX12_statement 43 = .ok (.invokevirtual 121, 3) := by decide +kernel
theorem dX12_statement_46 : decode cX12_statement 46 = .ok (.ifCond .eq 10, 3) := by decide +kernel
theorem dX12_statement_49 : decode cX12_statement 49 = .ok (.aload_n 0, 1) := by decide +kernel
theorem dX12_statement_50 : decode cX12_statement 50 = .ok (.invokevirtual 128, 3) := by decide +kernel
theorem dX12_statement_53 : decode cX12_statement 53 = .ok (.goto 140, 3) := by decide +kernel
theorem dX12_statement_56 : decode cX12_statement 56 = .ok (.aload_n 0, 1) := by decide +kernel
theorem dX12_statement_57 : decode cX12_statement 57 = .ok (.aload_n 0, 1) := by decide +kernel
theorem dX12_statement_58 : decode cX12_statement 58 = .ok (.getfield 28, 3) := by decide +kernel
theorem dX12_statement_61 : decode cX12_statement 61 = .ok (.invokevirtual 121, 3) := by decide +kernel
theorem dX12_statement_64 : decode cX12_statement 64 = .ok (.ifCond .eq 11, 3) := by decide +kernel
theorem dX12_statement_67 : decode cX12_statement 67 = .ok (.aload_n 0, 1) := by decide +kernel
theorem dX12_statement_68 : decode cX12_statement 68 = .ok (.iconst 0, 1) := by decide +kernel
theorem dX12_statement_69 : decode cX12_statement 69 = .ok (.invokevirtual 131, 3) := by decide +kernel
theorem dX12_statement_72 : decode cX12_statement 72 = .ok (.goto 121, 3) := by decide +kernel
theorem dX12_statement_75 : decode cX12_statement 75 = .ok (.aload_n 0, 1) := by decide +kernel
theorem dX12_statement_76 : decode cX12_statement 76 = .ok (.aload_n 0, 1) := by decide +kernel
theorem dX12_statement_77 : decode cX12_statement 77 = .ok (.getfield 31, 3) := by decide +kernel
theorem dX12_statement_80 : decode cX12_statement 80 = .ok (.invokevirtual 121, 3) := by decide +kernel
theorem dX12_statement_83 : decode cX12_statement 83 = .ok (.ifCond .eq 12, 3) := by decide +kernel
theorem dX12_statement_86 : decode cX12_statement 86 = .ok (.aload_n 0, 1) := by decide +kernel
theorem dX12_statement_87 : decode cX12_statement 87 = .ok (.bipush 21, 2) := by decide +kernel
theorem dX12_statement_89 : decode cX12_statement 89 = .ok (.invokevirtual 131, 3) := by decide +kernel
theorem dX12_statement_92 : decode cX12_statement 92 = .ok (.goto 101, 3) := by decide +kernel
theorem dX12_statement_95 : decode cX12_statement 95 = .ok (.aload_n 0, 1) := by decide +kernel
theorem dX12_statement_96 : decode cX12_statement 96 = .ok (.aload_n 0, 1) := by decide +kernel
theorem dX12_statement_97 : decode cX12_statement 97 = .ok (.getfield 34, 3) := by decide +kernel
theorem dX12_statement_100 : decode cX12_statement 100 = .ok (.invokevirtual 121, 3) := by decide +kernel
theorem dX12_statement_103 : decode cX12_statement 103 = .ok (.ifCond .eq 12, 3) := by decide +kernel
theorem dX12_statement_106 : decode cX12_statement 106 = .ok (.aload_n 0, 1) := by decide +kernel
theorem dX12_statement_107 : decode cX12_statement 107 = .ok (.bipush 22, 2) := by decide +kernel
theorem dX12_statement_109 : decode cX12_statement 109 = .ok (.invokevirtual 131, 3) := by decide +kernel
theorem dX12_statement_112 : decode cX12_statement 112 = .ok (.goto 81, 3) := by decide +kernel
theorem dX12_statement_115 : decode cX12_statement 115 = .ok (.aload_n 0, 1) := by decide +kernel
theorem dX12_statement_116 : decode cX12_statement 116 = .ok (.aload_n 0, 1) := by decide +kernel
theorem dX12_statement_117 : decode cX12_statement 117 = .ok (.getfield 37, 3) := by decide +kernel
theorem dX12_statement_120 : decode cX12_statement 120 = .ok (.invokevirtual 121, 3) := by decide +kernel
theorem dX12_statement_123 : decode cX12_statement 123 = .ok (.ifCond .eq 15, 3) := by decide +kernel
theorem dX12_statement_126 : decode cX12_statement 126 = .ok (.aload_n 0, 1) := by decide +kernel
theorem dX12_statement_127 : decode cX12_statement 127 = .ok (.iconst 0, 1) := by decide +kernel
theorem dX12_statement_128 : decode cX12_statement 128 = .ok (.bipush 122, 2) := by decide +kernel
theorem dX12_statement_130 : decode cX12_statement 130 = .ok (.bipush 20, 2) := by decide +kernel
theorem dX12_statement_132 : decode cX12_statement 132 = .ok (.invokevirtual 134, 3) := by decide +kernel
theorem dX12_statement_135 : decode cX12_statement 135 = .ok (.goto 58, 3) := by decide +kernel
theorem dX12_statement_138 : decode cX12_statement 138 = .ok (.aload_n 0, 1) := by decide +kernel
theorem dX12_statement_139 : decode cX12_statement 139 = .ok (.aload_n 0, 1) := by decide +kernel
theorem dX12_statement_140 : decode cX12_statement 140 = .ok (.getfield 40, 3) := by decide +kernel
theorem dX12_statement_143 : decode cX12_statement 143 = .ok (.invokevirtual 121, 3) := by decide +kernel
theorem dX12_statement_146 : decode cX12_statement 146 = .ok (.ifCond .eq 15, 3) := by decide +kernel
theorem dX12_statement_149 : decode cX12_statement 149 = .ok (.aload_n 0, 1) := by decide +kernel
theorem dX12_statement_150 : decode cX12_statement 150 = .ok (.iconst 1, 1) := by decide +kernel
theorem dX12_statement_151 : decode cX12_statement 151 = .ok (.bipush 123, 2) := by decide +kernel
theorem dX12_statement_153 : decode cX12_statement 153 = .ok (.bipush 20, 2) := by decide +kernel
theorem dX12_statement_155 : decode cX12_statement 155 = .ok (.invokevirtual 134, 3) := by decide +kernel
theorem dX12_statement_158 : decode cX12_statement 158 = .ok (.goto 35, 3) := by decide +kernel
theorem dX12_statement_161 : decode cX12_statement 161 = .ok (.aload_n 0, 1) := by decide +kernel
theorem dX12_statement_162 : decode cX12_statement 162 = .ok (.aload_n 0, 1) := by decide +kernel
theorem dX12_statement_163 : decode cX12_statement 163 = .ok (.getfield 43, 3) := by decide +kernel
theorem dX12_statement_166 : decode cX12_statement 166 = .ok (.invokevirtual 121, 3) := by decide +kernel
theorem dX12_statement_169 : decode cX12_statement 169 = .ok (.ifCond .eq 15, 3) := by decide +kernel
theorem dX12_statement_172 : decode cX12_statement 172 = .ok (.aload_n 0, 1) := by decide +kernel
theorem dX12_statement_173 : decode cX12_statement 173 = .ok (.iconst 2, 1) := by decide +kernel
theorem dX12_statement_174 : decode cX12_statement 174 = .ok (.bipush 124, 2) := by decide +kernel
theorem dX12_statement_176 : decode cX12_statement 176 = .ok (.bipush 100, 2) := by decide +kernel
theorem dX12_statement_178 : decode cX12_statement 178 = .ok (.invokevirtual 134, 3) := by decide +kernel
theorem dX12_statement_181 : decode cX12_statement 181 = .ok (.goto 12, 3) := by decide +kernel
theorem dX12_statement_184 : decode cX12_statement 184 = .ok (.aload_n 0, 1) := by decide +kernel
theorem dX12_statement_185 : decode cX12_statement 185 = .ok (.iconst 1, 1) := by decide +kernel
theorem dX12_statement_186 : decode cX12_statement 186 = .ok (.aload_n 0, 1) := by decide +kernel
theorem dX12_statement_187 : decode cX12_statement 187 = .ok (.getfield 89, 3) := by decide +kernel
theorem dX12_statement_190 : decode cX12_statement 190 = .ok (.invokevirtual 108, 3) := by decide +kernel
theorem dX12_statement_193 : decode cX12_statement 193 = .ok (.return_, 1) := by decide +kernel
def f_X12_statement (N : Nat) (l0 : Nat) (h : zH) : Option zH := (zgI h 12 (some l0) 6).bind fun x1 => if x1 = (1 : Int32) then (zgR h 12 (some l0) 13).bind fun x2 => (zck h 12 (some l0)).bind fun q1 => (f_X12_isWord N q1 x2 h).bind fun x3 => if x3 = 0 then (zgR h 12 (some l0) 14).bind fun x4 => (zck h 12 (some l0)).bind fun q2 => (f_X12_isWord N q2 x4 h).bind fun x5 => if x5 = 0 then (zgR h 12 (some l0) 15).bind fun x6 => (zck h 12 (some l0)).bind fun q3 => (f_X12_isWord N q3 x6 h).bind fun x7 => if x7 = 0 then (zgR h 12 (some l0) 16).bind fun x8 => (zck h 12 (some l0)).bind fun q4 => (f_X12_isWord N q4 x8 h).bind fun x9 => if x9 = 0 then (zgR h 12 (some l0) 17).bind fun x10 => (zck h 12 (some l0)).bind fun q5 => (f_X12_isWord N q5 x10 h).bind fun x11 => if x11 = 0 then (zgR h 12 (some l0) 18).bind fun x12 => (zck h 12 (some l0)).bind fun q6 => (f_X12_isWord N q6 x12 h).bind fun x13 => if x13 = 0 then (zgR h 12 (some l0) 19).bind fun x14 => (zck h 12 (some l0)).bind fun q7 => (f_X12_isWord N q7 x14 h).bind fun x15 => if x15 = 0 then (zgR h 12 (some l0) 20).bind fun x16 => (zck h 12 (some l0)).bind fun q8 => (f_X12_isWord N q8 x16 h).bind fun x17 => if x17 = 0 then (zgI h 12 (some l0) 7).bind fun x18 => (zck h 12 (some l0)).bind fun q9 => (f_X12_fail N q9 (1 : Int32) x18 h).bind fun h1 => some h1 else (zck h 12 (some l0)).bind fun q10 => (f_X12_once N q10 (2 : Int32) (124 : Int32) (100 : Int32) h).bind fun h2 => some h2 else (zck h 12 (some l0)).bind fun q11 => (f_X12_once N q11 (1 : Int32) (123 : Int32) (20 : Int32) h).bind fun h3 => some h3 else (zck h 12 (some l0)).bind fun q12 => (f_X12_once N q12 (0 : Int32) (122 : Int32) (20 : Int32) h).bind fun h4 => some h4 else (zck h 12 (some l0)).bind fun q13 => (f_X12_tie N q13 (22 : Int32) h).bind fun h5 => some h5 else (zck h 12 (some l0)).bind fun q14 => (f_X12_tie N q14 (21 : Int32) h).bind fun h6 => some h6 else (zck h 12 (some l0)).bind fun q15 => (f_X12_tie N q15 (0 : Int32) h).bind fun h7 => some h7 else (zck h 12 (some l0)).bind fun q16 => (f_X12_leg N q16 h).bind fun h8 => some h8 else (zck h 12 (some l0)).bind fun q17 => (f_X12_face N q17 h).bind fun h9 => some h9 else (zgI h 12 (some l0) 7).bind fun x19 => (zck h 12 (some l0)).bind fun q18 => (f_X12_fail N q18 (1 : Int32) x19 h).bind fun h10 => some h10
set_option maxHeartbeats 4000000 in
set_option maxRecDepth 100000 in
theorem s_X12_statement {g : zG} (hg : g.2.1.map (fun q => q.2) = zty) {h0 : zH} (N : Nat) (l0 : Nat) (h : zH) (h' : zH) (hf : f_X12_statement N l0 h = some h') : zR g jX12_statement h0 0 [some (zr (some l0))] [] h none h' := by
  unfold f_X12_statement at hf
  refine zr_aload_n (v := .inl (some l0)) dX12_statement_0 rfl rfl ?_
  revert hf; refine zbi (fun x1 e_x1 hf => ?_)
  refine zq_getI kg_529 dX12_statement_1 e_x1 ?_
  refine zr_iconst (v := (1 : Int32)) dX12_statement_4 (by decide) ?_
  by_cases hc1 : x1 = (1 : Int32)
  · rw [if_pos hc1] at hf
    refine zr_iceq_t (tgt := 20) dX12_statement_5 (by decide) hc1 ?_
    refine zr_aload_n (v := .inl (some l0)) dX12_statement_20 rfl rfl ?_
    refine zr_aload_n (v := .inl (some l0)) dX12_statement_21 rfl rfl ?_
    revert hf; refine zbi (fun x2 e_x2 hf => ?_)
    refine zq_getR kg_554 dX12_statement_22 e_x2 ?_
    revert hf; refine zbi (fun q1 e_q1 hf => ?_)
    revert hf; refine zbi (fun x3 e_x3 hf => ?_)
    refine zq_callV (J' := jX12_isWord) (as := [zr x2]) (rest := []) (r1 := (some (zi x3))) (q := (RX12, TX12, 31)) kw_649 km_X12_isWord kt_556 dX12_statement_25 rfl (Nat.le_of_ble_eq_true rfl) rfl rfl e_q1 rfl (c_X12_isWord hg e_x3) ?_
    by_cases hc2 : x3 = 0
    · rw [if_pos hc2] at hf
      refine zr_ifeq_t (tgt := 38) dX12_statement_28 (by decide) hc2 ?_
      refine zr_aload_n (v := .inl (some l0)) dX12_statement_38 rfl rfl ?_
      refine zr_aload_n (v := .inl (some l0)) dX12_statement_39 rfl rfl ?_
      revert hf; refine zbi (fun x4 e_x4 hf => ?_)
      refine zq_getR kg_557 dX12_statement_40 e_x4 ?_
      revert hf; refine zbi (fun q2 e_q2 hf => ?_)
      revert hf; refine zbi (fun x5 e_x5 hf => ?_)
      refine zq_callV (J' := jX12_isWord) (as := [zr x4]) (rest := []) (r1 := (some (zi x5))) (q := (RX12, TX12, 31)) kw_649 km_X12_isWord kt_556 dX12_statement_43 rfl (Nat.le_of_ble_eq_true rfl) rfl rfl e_q2 rfl (c_X12_isWord hg e_x5) ?_
      by_cases hc3 : x5 = 0
      · rw [if_pos hc3] at hf
        refine zr_ifeq_t (tgt := 56) dX12_statement_46 (by decide) hc3 ?_
        refine zr_aload_n (v := .inl (some l0)) dX12_statement_56 rfl rfl ?_
        refine zr_aload_n (v := .inl (some l0)) dX12_statement_57 rfl rfl ?_
        revert hf; refine zbi (fun x6 e_x6 hf => ?_)
        refine zq_getR kg_558 dX12_statement_58 e_x6 ?_
        revert hf; refine zbi (fun q3 e_q3 hf => ?_)
        revert hf; refine zbi (fun x7 e_x7 hf => ?_)
        refine zq_callV (J' := jX12_isWord) (as := [zr x6]) (rest := []) (r1 := (some (zi x7))) (q := (RX12, TX12, 31)) kw_649 km_X12_isWord kt_556 dX12_statement_61 rfl (Nat.le_of_ble_eq_true rfl) rfl rfl e_q3 rfl (c_X12_isWord hg e_x7) ?_
        by_cases hc4 : x7 = 0
        · rw [if_pos hc4] at hf
          refine zr_ifeq_t (tgt := 75) dX12_statement_64 (by decide) hc4 ?_
          refine zr_aload_n (v := .inl (some l0)) dX12_statement_75 rfl rfl ?_
          refine zr_aload_n (v := .inl (some l0)) dX12_statement_76 rfl rfl ?_
          revert hf; refine zbi (fun x8 e_x8 hf => ?_)
          refine zq_getR kg_559 dX12_statement_77 e_x8 ?_
          revert hf; refine zbi (fun q4 e_q4 hf => ?_)
          revert hf; refine zbi (fun x9 e_x9 hf => ?_)
          refine zq_callV (J' := jX12_isWord) (as := [zr x8]) (rest := []) (r1 := (some (zi x9))) (q := (RX12, TX12, 31)) kw_649 km_X12_isWord kt_556 dX12_statement_80 rfl (Nat.le_of_ble_eq_true rfl) rfl rfl e_q4 rfl (c_X12_isWord hg e_x9) ?_
          by_cases hc5 : x9 = 0
          · rw [if_pos hc5] at hf
            refine zr_ifeq_t (tgt := 95) dX12_statement_83 (by decide) hc5 ?_
            refine zr_aload_n (v := .inl (some l0)) dX12_statement_95 rfl rfl ?_
            refine zr_aload_n (v := .inl (some l0)) dX12_statement_96 rfl rfl ?_
            revert hf; refine zbi (fun x10 e_x10 hf => ?_)
            refine zq_getR kg_560 dX12_statement_97 e_x10 ?_
            revert hf; refine zbi (fun q5 e_q5 hf => ?_)
            revert hf; refine zbi (fun x11 e_x11 hf => ?_)
            refine zq_callV (J' := jX12_isWord) (as := [zr x10]) (rest := []) (r1 := (some (zi x11))) (q := (RX12, TX12, 31)) kw_649 km_X12_isWord kt_556 dX12_statement_100 rfl (Nat.le_of_ble_eq_true rfl) rfl rfl e_q5 rfl (c_X12_isWord hg e_x11) ?_
            by_cases hc6 : x11 = 0
            · rw [if_pos hc6] at hf
              refine zr_ifeq_t (tgt := 115) dX12_statement_103 (by decide) hc6 ?_
              refine zr_aload_n (v := .inl (some l0)) dX12_statement_115 rfl rfl ?_
              refine zr_aload_n (v := .inl (some l0)) dX12_statement_116 rfl rfl ?_
              revert hf; refine zbi (fun x12 e_x12 hf => ?_)
              refine zq_getR kg_561 dX12_statement_117 e_x12 ?_
              revert hf; refine zbi (fun q6 e_q6 hf => ?_)
              revert hf; refine zbi (fun x13 e_x13 hf => ?_)
              refine zq_callV (J' := jX12_isWord) (as := [zr x12]) (rest := []) (r1 := (some (zi x13))) (q := (RX12, TX12, 31)) kw_649 km_X12_isWord kt_556 dX12_statement_120 rfl (Nat.le_of_ble_eq_true rfl) rfl rfl e_q6 rfl (c_X12_isWord hg e_x13) ?_
              by_cases hc7 : x13 = 0
              · rw [if_pos hc7] at hf
                refine zr_ifeq_t (tgt := 138) dX12_statement_123 (by decide) hc7 ?_
                refine zr_aload_n (v := .inl (some l0)) dX12_statement_138 rfl rfl ?_
                refine zr_aload_n (v := .inl (some l0)) dX12_statement_139 rfl rfl ?_
                revert hf; refine zbi (fun x14 e_x14 hf => ?_)
                refine zq_getR kg_562 dX12_statement_140 e_x14 ?_
                revert hf; refine zbi (fun q7 e_q7 hf => ?_)
                revert hf; refine zbi (fun x15 e_x15 hf => ?_)
                refine zq_callV (J' := jX12_isWord) (as := [zr x14]) (rest := []) (r1 := (some (zi x15))) (q := (RX12, TX12, 31)) kw_649 km_X12_isWord kt_556 dX12_statement_143 rfl (Nat.le_of_ble_eq_true rfl) rfl rfl e_q7 rfl (c_X12_isWord hg e_x15) ?_
                by_cases hc8 : x15 = 0
                · rw [if_pos hc8] at hf
                  refine zr_ifeq_t (tgt := 161) dX12_statement_146 (by decide) hc8 ?_
                  refine zr_aload_n (v := .inl (some l0)) dX12_statement_161 rfl rfl ?_
                  refine zr_aload_n (v := .inl (some l0)) dX12_statement_162 rfl rfl ?_
                  revert hf; refine zbi (fun x16 e_x16 hf => ?_)
                  refine zq_getR kg_563 dX12_statement_163 e_x16 ?_
                  revert hf; refine zbi (fun q8 e_q8 hf => ?_)
                  revert hf; refine zbi (fun x17 e_x17 hf => ?_)
                  refine zq_callV (J' := jX12_isWord) (as := [zr x16]) (rest := []) (r1 := (some (zi x17))) (q := (RX12, TX12, 31)) kw_649 km_X12_isWord kt_556 dX12_statement_166 rfl (Nat.le_of_ble_eq_true rfl) rfl rfl e_q8 rfl (c_X12_isWord hg e_x17) ?_
                  by_cases hc9 : x17 = 0
                  · rw [if_pos hc9] at hf
                    refine zr_ifeq_t (tgt := 184) dX12_statement_169 (by decide) hc9 ?_
                    refine zr_aload_n (v := .inl (some l0)) dX12_statement_184 rfl rfl ?_
                    refine zr_iconst (v := (1 : Int32)) dX12_statement_185 (by decide) ?_
                    refine zr_aload_n (v := .inl (some l0)) dX12_statement_186 rfl rfl ?_
                    revert hf; refine zbi (fun x18 e_x18 hf => ?_)
                    refine zq_getI kg_525 dX12_statement_187 e_x18 ?_
                    revert hf; refine zbi (fun q9 e_q9 hf => ?_)
                    revert hf; refine zbi (fun h1 e_h1 hf => ?_)
                    refine zq_callV (J' := jX12_fail) (as := [zi (1 : Int32), zi x18]) (rest := []) (r1 := none) (q := (RX12, TX12, 31)) kw_632 km_X12_fail kt_564 dX12_statement_190 rfl (Nat.le_of_ble_eq_true rfl) rfl rfl e_q9 rfl (c_X12_fail hg e_h1) ?_
                    cases hf
                    exact zr_ret none trivial dX12_statement_193
                  · rw [if_neg hc9] at hf
                    refine zr_ifeq_f 184 dX12_statement_169 (by decide) hc9 ?_
                    refine zr_aload_n (v := .inl (some l0)) dX12_statement_172 rfl rfl ?_
                    refine zr_iconst (v := (2 : Int32)) dX12_statement_173 (by decide) ?_
                    refine zr_bipush (v := (124 : Int32)) dX12_statement_174 (by decide) ?_
                    refine zr_bipush (v := (100 : Int32)) dX12_statement_176 (by decide) ?_
                    revert hf; refine zbi (fun q10 e_q10 hf => ?_)
                    revert hf; refine zbi (fun h2 e_h2 hf => ?_)
                    refine zq_callV (J' := jX12_once) (as := [zi (2 : Int32), zi (124 : Int32), zi (100 : Int32)]) (rest := []) (r1 := none) (q := (RX12, TX12, 31)) kw_653 km_X12_once kt_566 dX12_statement_178 rfl (Nat.le_of_ble_eq_true rfl) rfl rfl e_q10 rfl (c_X12_once hg e_h2) ?_
                    refine zr_goto (tgt := 193) dX12_statement_181 (by decide) ?_
                    cases hf
                    exact zr_ret none trivial dX12_statement_193
                · rw [if_neg hc8] at hf
                  refine zr_ifeq_f 161 dX12_statement_146 (by decide) hc8 ?_
                  refine zr_aload_n (v := .inl (some l0)) dX12_statement_149 rfl rfl ?_
                  refine zr_iconst (v := (1 : Int32)) dX12_statement_150 (by decide) ?_
                  refine zr_bipush (v := (123 : Int32)) dX12_statement_151 (by decide) ?_
                  refine zr_bipush (v := (20 : Int32)) dX12_statement_153 (by decide) ?_
                  revert hf; refine zbi (fun q11 e_q11 hf => ?_)
                  revert hf; refine zbi (fun h3 e_h3 hf => ?_)
                  refine zq_callV (J' := jX12_once) (as := [zi (1 : Int32), zi (123 : Int32), zi (20 : Int32)]) (rest := []) (r1 := none) (q := (RX12, TX12, 31)) kw_653 km_X12_once kt_566 dX12_statement_155 rfl (Nat.le_of_ble_eq_true rfl) rfl rfl e_q11 rfl (c_X12_once hg e_h3) ?_
                  refine zr_goto (tgt := 193) dX12_statement_158 (by decide) ?_
                  cases hf
                  exact zr_ret none trivial dX12_statement_193
              · rw [if_neg hc7] at hf
                refine zr_ifeq_f 138 dX12_statement_123 (by decide) hc7 ?_
                refine zr_aload_n (v := .inl (some l0)) dX12_statement_126 rfl rfl ?_
                refine zr_iconst (v := (0 : Int32)) dX12_statement_127 (by decide) ?_
                refine zr_bipush (v := (122 : Int32)) dX12_statement_128 (by decide) ?_
                refine zr_bipush (v := (20 : Int32)) dX12_statement_130 (by decide) ?_
                revert hf; refine zbi (fun q12 e_q12 hf => ?_)
                revert hf; refine zbi (fun h4 e_h4 hf => ?_)
                refine zq_callV (J' := jX12_once) (as := [zi (0 : Int32), zi (122 : Int32), zi (20 : Int32)]) (rest := []) (r1 := none) (q := (RX12, TX12, 31)) kw_653 km_X12_once kt_566 dX12_statement_132 rfl (Nat.le_of_ble_eq_true rfl) rfl rfl e_q12 rfl (c_X12_once hg e_h4) ?_
                refine zr_goto (tgt := 193) dX12_statement_135 (by decide) ?_
                cases hf
                exact zr_ret none trivial dX12_statement_193
            · rw [if_neg hc6] at hf
              refine zr_ifeq_f 115 dX12_statement_103 (by decide) hc6 ?_
              refine zr_aload_n (v := .inl (some l0)) dX12_statement_106 rfl rfl ?_
              refine zr_bipush (v := (22 : Int32)) dX12_statement_107 (by decide) ?_
              revert hf; refine zbi (fun q13 e_q13 hf => ?_)
              revert hf; refine zbi (fun h5 e_h5 hf => ?_)
              refine zq_callV (J' := jX12_tie) (as := [zi (22 : Int32)]) (rest := []) (r1 := none) (q := (RX12, TX12, 31)) kw_657 km_X12_tie kt_568 dX12_statement_109 rfl (Nat.le_of_ble_eq_true rfl) rfl rfl e_q13 rfl (c_X12_tie hg e_h5) ?_
              refine zr_goto (tgt := 193) dX12_statement_112 (by decide) ?_
              cases hf
              exact zr_ret none trivial dX12_statement_193
          · rw [if_neg hc5] at hf
            refine zr_ifeq_f 95 dX12_statement_83 (by decide) hc5 ?_
            refine zr_aload_n (v := .inl (some l0)) dX12_statement_86 rfl rfl ?_
            refine zr_bipush (v := (21 : Int32)) dX12_statement_87 (by decide) ?_
            revert hf; refine zbi (fun q14 e_q14 hf => ?_)
            revert hf; refine zbi (fun h6 e_h6 hf => ?_)
            refine zq_callV (J' := jX12_tie) (as := [zi (21 : Int32)]) (rest := []) (r1 := none) (q := (RX12, TX12, 31)) kw_657 km_X12_tie kt_568 dX12_statement_89 rfl (Nat.le_of_ble_eq_true rfl) rfl rfl e_q14 rfl (c_X12_tie hg e_h6) ?_
            refine zr_goto (tgt := 193) dX12_statement_92 (by decide) ?_
            cases hf
            exact zr_ret none trivial dX12_statement_193
        · rw [if_neg hc4] at hf
          refine zr_ifeq_f 75 dX12_statement_64 (by decide) hc4 ?_
          refine zr_aload_n (v := .inl (some l0)) dX12_statement_67 rfl rfl ?_
          refine zr_iconst (v := (0 : Int32)) dX12_statement_68 (by decide) ?_
          revert hf; refine zbi (fun q15 e_q15 hf => ?_)
          revert hf; refine zbi (fun h7 e_h7 hf => ?_)
          refine zq_callV (J' := jX12_tie) (as := [zi (0 : Int32)]) (rest := []) (r1 := none) (q := (RX12, TX12, 31)) kw_657 km_X12_tie kt_568 dX12_statement_69 rfl (Nat.le_of_ble_eq_true rfl) rfl rfl e_q15 rfl (c_X12_tie hg e_h7) ?_
          refine zr_goto (tgt := 193) dX12_statement_72 (by decide) ?_
          cases hf
          exact zr_ret none trivial dX12_statement_193
      · rw [if_neg hc3] at hf
        refine zr_ifeq_f 56 dX12_statement_46 (by decide) hc3 ?_
        refine zr_aload_n (v := .inl (some l0)) dX12_statement_49 rfl rfl ?_
        revert hf; refine zbi (fun q16 e_q16 hf => ?_)
        revert hf; refine zbi (fun h8 e_h8 hf => ?_)
        refine zq_callV (J' := jX12_leg) (as := []) (rest := []) (r1 := none) (q := (RX12, TX12, 31)) kw_661 km_X12_leg kt_570 dX12_statement_50 rfl (Nat.le_of_ble_eq_true rfl) rfl rfl e_q16 rfl (c_X12_leg hg e_h8) ?_
        refine zr_goto (tgt := 193) dX12_statement_53 (by decide) ?_
        cases hf
        exact zr_ret none trivial dX12_statement_193
    · rw [if_neg hc2] at hf
      refine zr_ifeq_f 38 dX12_statement_28 (by decide) hc2 ?_
      refine zr_aload_n (v := .inl (some l0)) dX12_statement_31 rfl rfl ?_
      revert hf; refine zbi (fun q17 e_q17 hf => ?_)
      revert hf; refine zbi (fun h9 e_h9 hf => ?_)
      refine zq_callV (J' := jX12_face) (as := []) (rest := []) (r1 := none) (q := (RX12, TX12, 31)) kw_665 km_X12_face kt_572 dX12_statement_32 rfl (Nat.le_of_ble_eq_true rfl) rfl rfl e_q17 rfl (c_X12_face hg e_h9) ?_
      refine zr_goto (tgt := 193) dX12_statement_35 (by decide) ?_
      cases hf
      exact zr_ret none trivial dX12_statement_193
  · rw [if_neg hc1] at hf
    refine zr_iceq_f 20 dX12_statement_5 (by decide) hc1 ?_
    refine zr_aload_n (v := .inl (some l0)) dX12_statement_8 rfl rfl ?_
    refine zr_iconst (v := (1 : Int32)) dX12_statement_9 (by decide) ?_
    refine zr_aload_n (v := .inl (some l0)) dX12_statement_10 rfl rfl ?_
    revert hf; refine zbi (fun x19 e_x19 hf => ?_)
    refine zq_getI kg_525 dX12_statement_11 e_x19 ?_
    revert hf; refine zbi (fun q18 e_q18 hf => ?_)
    revert hf; refine zbi (fun h10 e_h10 hf => ?_)
    refine zq_callV (J' := jX12_fail) (as := [zi (1 : Int32), zi x19]) (rest := []) (r1 := none) (q := (RX12, TX12, 31)) kw_632 km_X12_fail kt_564 dX12_statement_14 rfl (Nat.le_of_ble_eq_true rfl) rfl rfl e_q18 rfl (c_X12_fail hg e_h10) ?_
    refine zr_goto (tgt := 193) dX12_statement_17 (by decide) ?_
    cases hf
    exact zr_ret none trivial dX12_statement_193
theorem c_X12_statement {g : zG} (hg : g.2.1.map (fun q => q.2) = zty) {N : Nat} {l0 : Nat} {h : zH} {h' : zH} (hf : f_X12_statement N l0 h = some h') : zCa g jX12_statement [zr (some l0)] h none h' :=
  zCa.of hg (by decide +kernel) (Nat.le_of_ble_eq_true rfl) (s_X12_statement hg N l0 h h' hf)
