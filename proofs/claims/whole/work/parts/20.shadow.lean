theorem dX12_arrow_0 : decode cX12_arrow 0 = .ok (.aload_n 0, 1) := by decide +kernel
theorem dX12_arrow_1 : decode cX12_arrow 1 = .ok (.getfield 170, 3) := by decide +kernel
theorem dX12_arrow_4 : decode cX12_arrow 4 = .ok (.bipush 6, 2) := by decide +kernel
theorem dX12_arrow_6 : decode cX12_arrow 6 = .ok (.if_icmp .eq 44, 3) := by decide +kernel
theorem dX12_arrow_9 : decode cX12_arrow 9 = .ok (.iload_n 1, 1) := by decide +kernel
theorem dX12_arrow_10 : decode cX12_arrow 10 = .ok (.ifCond .lt 40, 3) := by decide +kernel
theorem dX12_arrow_13 : decode cX12_arrow 13 = .ok (.iload_n 1, 1) := by decide +kernel
theorem dX12_arrow_14 : decode cX12_arrow 14 = .ok (.iconst 4, 1) := by decide +kernel
theorem dX12_arrow_15 : decode cX12_arrow 15 = .ok (.if_icmp .gt 35, 3) := by decide +kernel
theorem dX12_arrow_18 : decode cX12_arrow 18 = .ok (.iload_n 1, 1) := by decide +kernel
theorem dX12_arrow_19 : decode cX12_arrow 19 = .ok (.ifCond .ne 17, 3) := by decide +kernel
theorem dX12_arrow_22 : decode cX12_arrow 22 = .ok (.iload_n 2, 1) := by decide +kernel
theorem dX12_arrow_23 : decode cX12_arrow 23 = .ok (.invokestatic 173, 3) := by decide +kernel
theorem dX12_arrow_26 : decode cX12_arrow 26 = .ok (.ifCond .ne 24, 3) := by decide +kernel
theorem dX12_arrow_29 : decode cX12_arrow 29 = .ok (.iload_n 3, 1) := by decide +kernel
theorem dX12_arrow_30 : decode cX12_arrow 30 = .ok (.invokestatic 173, 3) := by decide +kernel
theorem dX12_arrow_33 : decode cX12_arrow 33 = .ok (.ifCond .ne 17, 3) := by decide +kernel
theorem dX12_arrow_36 : decode cX12_arrow 36 = .ok (.iload_n 1, 1) := by decide +kernel
theorem dX12_arrow_37 : decode cX12_arrow 37 = .ok (.iconst 4, 1) := by decide +kernel
theorem dX12_arrow_38 : decode cX12_arrow 38 = .ok (.if_icmp .ne 14, 3) := by decide +kernel
theorem dX12_arrow_41 : decode cX12_arrow 41 = .ok (.iload_n 2, 1) := by decide +kernel
theorem dX12_arrow_42 : decode cX12_arrow 42 = .ok (.ifCond .lt 8, 3) := by decide +kernel
theorem dX12_arrow_45 : decode cX12_arrow 45 = .ok (.iload_n 2, 1) := by decide +kernel
theorem dX12_arrow_46 : decode cX12_arrow 46 = .ok (.iconst 5, 1) := by decide +kernel
theorem dX12_arrow_47 : decode cX12_arrow 47 = .ok (.if_icmp .le 5, 3) := by decide +kernel
theorem dX12_arrow_50 : decode cX12_arrow 50 = .ok (.iconst (-1), 1) := by decide +kernel
theorem dX12_arrow_51 : decode cX12_arrow 51 = .ok (.ireturn, 1) := by decide +kernel
theorem dX12_arrow_52 : decode cX12_arrow 52 = .ok (.aload_n 0, 1) := by decide +kernel
theorem dX12_arrow_53 : decode cX12_arrow 53 = .ok (.getfield 53, 3) := by decide +kernel
theorem dX12_arrow_56 : decode cX12_arrow 56 = .ok (.aload_n 0, 1) := by decide +kernel
theorem dX12_arrow_57 : decode cX12_arrow 57 = .ok (.getfield 170, 3) := by decide +kernel
theorem dX12_arrow_60 : decode cX12_arrow 60 = .ok (.iload_n 1, 1) := by decide +kernel
theorem dX12_arrow_61 : decode cX12_arrow 61 = .ok (.iastore, 1) := by decide +kernel
theorem dX12_arrow_62 : decode cX12_arrow 62 = .ok (.aload_n 0, 1) := by decide +kernel
theorem dX12_arrow_63 : decode cX12_arrow 63 = .ok (.getfield 56, 3) := by decide +kernel
theorem dX12_arrow_66 : decode cX12_arrow 66 = .ok (.aload_n 0, 1) := by decide +kernel
theorem dX12_arrow_67 : decode cX12_arrow 67 = .ok (.getfield 170, 3) := by decide +kernel
theorem dX12_arrow_70 : decode cX12_arrow 70 = .ok (.iload_n 2, 1) := by decide +kernel
theorem dX12_arrow_71 : decode cX12_arrow 71 = .ok (.iastore, 1) := by decide +kernel
theorem dX12_arrow_72 : decode cX12_arrow 72 = .ok (.aload_n 0, 1) := by decide +kernel
theorem dX12_arrow_73 : decode cX12_arrow 73 = .ok (.getfield 59, 3) := by decide +kernel
theorem dX12_arrow_76 : decode cX12_arrow 76 = .ok (.aload_n 0, 1) := by decide +kernel
theorem dX12_arrow_77 : decode cX12_arrow 77 = .ok (.getfield 170, 3) := by decide +kernel
theorem dX12_arrow_80 : decode cX12_arrow 80 = .ok (.iload_n 3, 1) := by decide +kernel
theorem dX12_arrow_81 : decode cX12_arrow 81 = .ok (.iastore, 1) := by decide +kernel
theorem dX12_arrow_82 : decode cX12_arrow 82 = .ok (.aload_n 0, 1) := by decide +kernel
theorem dX12_arrow_83 : decode cX12_arrow 83 = .ok (.dup, 1) := by decide +kernel
theorem dX12_arrow_84 : decode cX12_arrow 84 = .ok (.getfield 170, 3) := by decide +kernel
theorem dX12_arrow_87 : decode cX12_arrow 87 = .ok (.iconst 1, 1) := by decide +kernel
theorem dX12_arrow_88 : decode cX12_arrow 88 = .ok (.iadd, 1) := by decide +kernel
theorem dX12_arrow_89 : decode cX12_arrow 89 = .ok (.putfield 170, 3) := by decide +kernel
theorem dX12_arrow_92 : decode cX12_arrow 92 = .ok (.aload_n 0, 1) := by decide +kernel
theorem dX12_arrow_93 : decode cX12_arrow 93 = .ok (.getfield 170, 3) := by decide +kernel
theorem dX12_arrow_96 : decode cX12_arrow 96 = .ok (.ireturn, 1) := by decide +kernel
def f_X12_arrow_52 (N : Nat) (l0 : Nat) (l1 : Int32) (l2 : Int32) (l3 : Int32) (h : zH) : Option (Int32 × zH) := (zgR h 12 (some l0) 24).bind fun x1 => (zgI h 12 (some l0) 23).bind fun x2 => (zst h 0 x1 x2 l1).bind fun h1 => (zgR h1 12 (some l0) 25).bind fun x3 => (zgI h1 12 (some l0) 23).bind fun x4 => (zst h1 0 x3 x4 l2).bind fun h2 => (zgR h2 12 (some l0) 26).bind fun x5 => (zgI h2 12 (some l0) 23).bind fun x6 => (zst h2 0 x5 x6 l3).bind fun h3 => (zgI h3 12 (some l0) 23).bind fun x7 => (zpu h3 12 (some l0) 23 (zi (x7 + (1 : Int32)))).bind fun h4 => (zgI h4 12 (some l0) 23).bind fun x8 => some (x8, h4)
set_option maxHeartbeats 4000000 in
set_option maxRecDepth 100000 in
theorem s_X12_arrow_52 {g : zG} (hg : g.2.1.map (fun q => q.2) = zty) {h0 : zH} (N : Nat) (l0 : Nat) (l1 : Int32) (l2 : Int32) (l3 : Int32) (h : zH) (r : Int32) (h' : zH) (hf : f_X12_arrow_52 N l0 l1 l2 l3 h = some (r, h')) : zR g jX12_arrow h0 52 [some (zr (some l0)), some (zi l1), some (zi l2), some (zi l3)] [] h (some (zi r)) h' := by
  unfold f_X12_arrow_52 at hf
  refine zr_aload_n (v := .inl (some l0)) dX12_arrow_52 rfl rfl ?_
  revert hf; refine zbi (fun x1 e_x1 hf => ?_)
  refine zq_getR kg_604 dX12_arrow_53 e_x1 ?_
  refine zr_aload_n (v := .inl (some l0)) dX12_arrow_56 rfl rfl ?_
  revert hf; refine zbi (fun x2 e_x2 hf => ?_)
  refine zq_getI kg_605 dX12_arrow_57 e_x2 ?_
  refine zr_iload_n (x := l1) dX12_arrow_60 rfl rfl ?_
  revert hf; refine zbi (fun h1 e_h1 hf => ?_)
  refine zq_iast dX12_arrow_61 e_h1 ?_
  refine zr_aload_n (v := .inl (some l0)) dX12_arrow_62 rfl rfl ?_
  revert hf; refine zbi (fun x3 e_x3 hf => ?_)
  refine zq_getR kg_606 dX12_arrow_63 e_x3 ?_
  refine zr_aload_n (v := .inl (some l0)) dX12_arrow_66 rfl rfl ?_
  revert hf; refine zbi (fun x4 e_x4 hf => ?_)
  refine zq_getI kg_605 dX12_arrow_67 e_x4 ?_
  refine zr_iload_n (x := l2) dX12_arrow_70 rfl rfl ?_
  revert hf; refine zbi (fun h2 e_h2 hf => ?_)
  refine zq_iast dX12_arrow_71 e_h2 ?_
  refine zr_aload_n (v := .inl (some l0)) dX12_arrow_72 rfl rfl ?_
  revert hf; refine zbi (fun x5 e_x5 hf => ?_)
  refine zq_getR kg_607 dX12_arrow_73 e_x5 ?_
  refine zr_aload_n (v := .inl (some l0)) dX12_arrow_76 rfl rfl ?_
  revert hf; refine zbi (fun x6 e_x6 hf => ?_)
  refine zq_getI kg_605 dX12_arrow_77 e_x6 ?_
  refine zr_iload_n (x := l3) dX12_arrow_80 rfl rfl ?_
  revert hf; refine zbi (fun h3 e_h3 hf => ?_)
  refine zq_iast dX12_arrow_81 e_h3 ?_
  refine zr_aload_n (v := .inl (some l0)) dX12_arrow_82 rfl rfl ?_
  refine zr_dup dX12_arrow_83 ?_
  revert hf; refine zbi (fun x7 e_x7 hf => ?_)
  refine zq_getI kg_605 dX12_arrow_84 e_x7 ?_
  refine zr_iconst (v := (1 : Int32)) dX12_arrow_87 (by decide) ?_
  refine zr_iadd dX12_arrow_88 ?_
  revert hf; refine zbi (fun h4 e_h4 hf => ?_)
  refine zq_put (kp_608 _) dX12_arrow_89 (zn_i _) e_h4 ?_
  refine zr_aload_n (v := .inl (some l0)) dX12_arrow_92 rfl rfl ?_
  revert hf; refine zbi (fun x8 e_x8 hf => ?_)
  refine zq_getI kg_605 dX12_arrow_93 e_x8 ?_
  cases hf
  exact zr_ret _ rfl dX12_arrow_96
def f_X12_arrow_36 (N : Nat) (l0 : Nat) (l1 : Int32) (l2 : Int32) (l3 : Int32) (h : zH) : Option (Int32 × zH) := if l1 = (4 : Int32) then if l2 < 0 then some (((-1) : Int32), h) else if l2 ≤ (5 : Int32) then f_X12_arrow_52 N l0 l1 l2 l3 h else some (((-1) : Int32), h) else f_X12_arrow_52 N l0 l1 l2 l3 h
set_option maxHeartbeats 4000000 in
set_option maxRecDepth 100000 in
theorem s_X12_arrow_36 {g : zG} (hg : g.2.1.map (fun q => q.2) = zty) {h0 : zH} (N : Nat) (l0 : Nat) (l1 : Int32) (l2 : Int32) (l3 : Int32) (h : zH) (r : Int32) (h' : zH) (hf : f_X12_arrow_36 N l0 l1 l2 l3 h = some (r, h')) : zR g jX12_arrow h0 36 [some (zr (some l0)), some (zi l1), some (zi l2), some (zi l3)] [] h (some (zi r)) h' := by
  unfold f_X12_arrow_36 at hf
  refine zr_iload_n (x := l1) dX12_arrow_36 rfl rfl ?_
  refine zr_iconst (v := (4 : Int32)) dX12_arrow_37 (by decide) ?_
  by_cases hc1 : l1 = (4 : Int32)
  · rw [if_pos hc1] at hf
    refine zr_icne_f 52 dX12_arrow_38 (by decide) hc1 ?_
    refine zr_iload_n (x := l2) dX12_arrow_41 rfl rfl ?_
    by_cases hc2 : l2 < 0
    · rw [if_pos hc2] at hf
      refine zr_iflt_t (tgt := 50) dX12_arrow_42 (by decide) hc2 ?_
      refine zr_iconst (v := ((-1) : Int32)) dX12_arrow_50 (by decide) ?_
      cases hf
      exact zr_ret _ rfl dX12_arrow_51
    · rw [if_neg hc2] at hf
      refine zr_iflt_f 50 dX12_arrow_42 (by decide) hc2 ?_
      refine zr_iload_n (x := l2) dX12_arrow_45 rfl rfl ?_
      refine zr_iconst (v := (5 : Int32)) dX12_arrow_46 (by decide) ?_
      by_cases hc3 : l2 ≤ (5 : Int32)
      · rw [if_pos hc3] at hf
        refine zr_icle_t (tgt := 52) dX12_arrow_47 (by decide) hc3 ?_
        exact s_X12_arrow_52 hg N l0 l1 l2 l3 h r h' hf
      · rw [if_neg hc3] at hf
        refine zr_icle_f 52 dX12_arrow_47 (by decide) hc3 ?_
        refine zr_iconst (v := ((-1) : Int32)) dX12_arrow_50 (by decide) ?_
        cases hf
        exact zr_ret _ rfl dX12_arrow_51
  · rw [if_neg hc1] at hf
    refine zr_icne_t (tgt := 52) dX12_arrow_38 (by decide) hc1 ?_
    exact s_X12_arrow_52 hg N l0 l1 l2 l3 h r h' hf
def f_X12_arrow (N : Nat) (l0 : Nat) (l1 : Int32) (l2 : Int32) (l3 : Int32) (h : zH) : Option (Int32 × zH) := (zgI h 12 (some l0) 23).bind fun x1 => if x1 = (6 : Int32) then some (((-1) : Int32), h) else if l1 < 0 then some (((-1) : Int32), h) else if (4 : Int32) < l1 then some (((-1) : Int32), h) else if l1 = 0 then (f_X12_isFar N l2 h).bind fun x2 => if x2 = 0 then (f_X12_isFar N l3 h).bind fun x3 => if x3 = 0 then f_X12_arrow_36 N l0 l1 l2 l3 h else some (((-1) : Int32), h) else some (((-1) : Int32), h) else f_X12_arrow_36 N l0 l1 l2 l3 h
set_option maxHeartbeats 4000000 in
set_option maxRecDepth 100000 in
theorem s_X12_arrow {g : zG} (hg : g.2.1.map (fun q => q.2) = zty) {h0 : zH} (N : Nat) (l0 : Nat) (l1 : Int32) (l2 : Int32) (l3 : Int32) (h : zH) (r : Int32) (h' : zH) (hf : f_X12_arrow N l0 l1 l2 l3 h = some (r, h')) : zR g jX12_arrow h0 0 [some (zr (some l0)), some (zi l1), some (zi l2), some (zi l3)] [] h (some (zi r)) h' := by
  unfold f_X12_arrow at hf
  refine zr_aload_n (v := .inl (some l0)) dX12_arrow_0 rfl rfl ?_
  revert hf; refine zbi (fun x1 e_x1 hf => ?_)
  refine zq_getI kg_605 dX12_arrow_1 e_x1 ?_
  refine zr_bipush (v := (6 : Int32)) dX12_arrow_4 (by decide) ?_
  by_cases hc1 : x1 = (6 : Int32)
  · rw [if_pos hc1] at hf
    refine zr_iceq_t (tgt := 50) dX12_arrow_6 (by decide) hc1 ?_
    refine zr_iconst (v := ((-1) : Int32)) dX12_arrow_50 (by decide) ?_
    cases hf
    exact zr_ret _ rfl dX12_arrow_51
  · rw [if_neg hc1] at hf
    refine zr_iceq_f 50 dX12_arrow_6 (by decide) hc1 ?_
    refine zr_iload_n (x := l1) dX12_arrow_9 rfl rfl ?_
    by_cases hc2 : l1 < 0
    · rw [if_pos hc2] at hf
      refine zr_iflt_t (tgt := 50) dX12_arrow_10 (by decide) hc2 ?_
      refine zr_iconst (v := ((-1) : Int32)) dX12_arrow_50 (by decide) ?_
      cases hf
      exact zr_ret _ rfl dX12_arrow_51
    · rw [if_neg hc2] at hf
      refine zr_iflt_f 50 dX12_arrow_10 (by decide) hc2 ?_
      refine zr_iload_n (x := l1) dX12_arrow_13 rfl rfl ?_
      refine zr_iconst (v := (4 : Int32)) dX12_arrow_14 (by decide) ?_
      by_cases hc3 : (4 : Int32) < l1
      · rw [if_pos hc3] at hf
        refine zr_icgt_t (tgt := 50) dX12_arrow_15 (by decide) hc3 ?_
        refine zr_iconst (v := ((-1) : Int32)) dX12_arrow_50 (by decide) ?_
        cases hf
        exact zr_ret _ rfl dX12_arrow_51
      · rw [if_neg hc3] at hf
        refine zr_icgt_f 50 dX12_arrow_15 (by decide) hc3 ?_
        refine zr_iload_n (x := l1) dX12_arrow_18 rfl rfl ?_
        by_cases hc4 : l1 = 0
        · rw [if_pos hc4] at hf
          refine zr_ifne_f 36 dX12_arrow_19 (by decide) hc4 ?_
          refine zr_iload_n (x := l2) dX12_arrow_22 rfl rfl ?_
          revert hf; refine zbi (fun x2 e_x2 hf => ?_)
          refine zq_callS (J' := jX12_isFar) (as := [zi l2]) (rest := []) (r1 := (some (zi x2))) kw_707 km_X12_isFar kt_610 dX12_arrow_23 rfl (Nat.le_of_ble_eq_true rfl) rfl (c_X12_isFar hg e_x2) ?_
          by_cases hc5 : x2 = 0
          · rw [if_pos hc5] at hf
            refine zr_ifne_f 50 dX12_arrow_26 (by decide) hc5 ?_
            refine zr_iload_n (x := l3) dX12_arrow_29 rfl rfl ?_
            revert hf; refine zbi (fun x3 e_x3 hf => ?_)
            refine zq_callS (J' := jX12_isFar) (as := [zi l3]) (rest := []) (r1 := (some (zi x3))) kw_707 km_X12_isFar kt_610 dX12_arrow_30 rfl (Nat.le_of_ble_eq_true rfl) rfl (c_X12_isFar hg e_x3) ?_
            by_cases hc6 : x3 = 0
            · rw [if_pos hc6] at hf
              refine zr_ifne_f 50 dX12_arrow_33 (by decide) hc6 ?_
              exact s_X12_arrow_36 hg N l0 l1 l2 l3 h r h' hf
            · rw [if_neg hc6] at hf
              refine zr_ifne_t (tgt := 50) dX12_arrow_33 (by decide) hc6 ?_
              refine zr_iconst (v := ((-1) : Int32)) dX12_arrow_50 (by decide) ?_
              cases hf
              exact zr_ret _ rfl dX12_arrow_51
          · rw [if_neg hc5] at hf
            refine zr_ifne_t (tgt := 50) dX12_arrow_26 (by decide) hc5 ?_
            refine zr_iconst (v := ((-1) : Int32)) dX12_arrow_50 (by decide) ?_
            cases hf
            exact zr_ret _ rfl dX12_arrow_51
        · rw [if_neg hc4] at hf
          refine zr_ifne_t (tgt := 36) dX12_arrow_19 (by decide) hc4 ?_
          exact s_X12_arrow_36 hg N l0 l1 l2 l3 h r h' hf
theorem c_X12_arrow {g : zG} (hg : g.2.1.map (fun q => q.2) = zty) {N : Nat} {l0 : Nat} {l1 : Int32} {l2 : Int32} {l3 : Int32} {h : zH} {r : Int32} {h' : zH} (hf : f_X12_arrow N l0 l1 l2 l3 h = some (r, h')) : zCa g jX12_arrow [zr (some l0), zi l1, zi l2, zi l3] h (some (zi r)) h' :=
  zCa.of hg (by decide +kernel) (Nat.le_of_ble_eq_true rfl) (s_X12_arrow hg N l0 l1 l2 l3 h r h' hf)
theorem dX12_hit_0 : decode cX12_hit 0 = .ok (.iconst 0, 1) := by decide +kernel
theorem dX12_hit_1 : decode cX12_hit 1 = .ok (.istore 4, 2) := by decide +kernel
theorem dX12_hit_3 : decode cX12_hit 3 = .ok (.iconst 0, 1) := by decide +kernel
theorem dX12_hit_4 : decode cX12_hit 4 = .ok (.istore 5, 2) := by decide +kernel
theorem dX12_hit_6 : decode cX12_hit 6 = .ok (.iload 5, 2) := by decide +kernel
theorem dX12_hit_8 : decode cX12_hit 8 = .ok (.aload_n 0, 1) := by decide +kernel
theorem dX12_hit_9 : decode cX12_hit 9 = .ok (.getfield 8, 3) := by decide +kernel
theorem dX12_hit_12 : decode cX12_hit 12 = .ok (.bipush 15, 2) := by decide +kernel
theorem dX12_hit_14 : decode cX12_hit 14 = .ok (.iload_n 1, 1) := by decide +kernel
theorem dX12_hit_15 : decode cX12_hit 15 = .ok (.iadd, 1) := by decide +kernel
theorem dX12_hit_16 : decode cX12_hit 16 = .ok (.iaload, 1) := by decide +kernel
theorem dX12_hit_17 : decode cX12_hit 17 = .ok (.if_icmp .ge 66, 3) := by decide +kernel
theorem dX12_hit_20 : decode cX12_hit 20 = .ok (.aload_n 0, 1) := by decide +kernel
theorem dX12_hit_21 : decode cX12_hit 21 = .ok (.getfield 8, 3) := by decide +kernel
theorem dX12_hit_24 : decode cX12_hit 24 = .ok (.bipush 19, 2) := by decide +kernel
theorem dX12_hit_26 : decode cX12_hit 26 = .ok (.bipush 12, 2) := by decide +kernel
theorem dX12_hit_28 : decode cX12_hit 28 = .ok (.iload_n 1, 1) := by decide +kernel
theorem dX12_hit_29 : decode cX12_hit 29 = .ok (.imul, 1) := by decide +kernel
theorem dX12_hit_30 : decode cX12_hit 30 = .ok (.iadd, 1) := by decide +kernel
theorem dX12_hit_31 : decode cX12_hit 31 = .ok (.iload 5, 2) := by decide +kernel
theorem dX12_hit_33 : decode cX12_hit 33 = .ok (.iadd, 1) := by decide +kernel
theorem dX12_hit_34 : decode cX12_hit 34 = .ok (.iaload, 1) := by decide +kernel
theorem dX12_hit_35 : decode cX12_hit 35 = .ok (.aload_n 0, 1) := by decide +kernel
theorem dX12_hit_36 : decode cX12_hit 36 = .ok (.getfield 8, 3) := by decide +kernel
theorem dX12_hit_39 : decode cX12_hit 39 = .ok (.bipush 124, 2) := by decide +kernel
theorem dX12_hit_41 : decode cX12_hit 41 = .ok (.iaload, 1) := by decide +kernel
theorem dX12_hit_42 : decode cX12_hit 42 = .ok (.iadd, 1) := by decide +kernel
theorem dX12_hit_43 : decode cX12_hit 43 = .ok (.istore 6, 2) := by decide +kernel
theorem dX12_hit_45 : decode cX12_hit 45 = .ok (.iload_n 2, 1) := by decide +kernel
theorem dX12_hit_46 : decode cX12_hit 46 = .ok (.iload_n 2, 1) := by decide +kernel
theorem dX12_hit_47 : decode cX12_hit 47 = .ok (.imul, 1) := by decide +kernel
theorem dX12_hit_48 : decode cX12_hit 48 = .ok (.iload_n 3, 1) := by decide +kernel
theorem dX12_hit_49 : decode cX12_hit 49 = .ok (.iload_n 3, 1) := by decide +kernel
theorem dX12_hit_50 : decode cX12_hit 50 = .ok (.imul, 1) := by decide +kernel
theorem dX12_hit_51 : decode cX12_hit 51 = .ok (.iadd, 1) := by decide +kernel
theorem dX12_hit_52 : decode cX12_hit 52 = .ok (.iload 6, 2) := by decide +kernel
theorem dX12_hit_54 : decode cX12_hit 54 = .ok (.iload 6, 2) := by decide +kernel
theorem dX12_hit_56 : decode cX12_hit 56 = .ok (.imul, 1) := by decide +kernel
theorem dX12_hit_57 : decode cX12_hit 57 = .ok (.if_icmp .gt 20, 3) := by decide +kernel
theorem dX12_hit_60 : decode cX12_hit 60 = .ok (.aload_n 0, 1) := by decide +kernel
theorem dX12_hit_61 : decode cX12_hit 61 = .ok (.getfield 8, 3) := by decide +kernel
theorem dX12_hit_64 : decode cX12_hit 64 = .ok (.bipush 67, 2) := by decide +kernel
theorem dX12_hit_66 : decode cX12_hit 66 = .ok (.bipush 12, 2) := by decide +kernel
theorem dX12_hit_68 : decode cX12_hit 68 = .ok (.iload_n 1, 1) := by decide +kernel
theorem dX12_hit_69 : decode cX12_hit 69 = .ok (.imul, 1) := by decide +kernel
theorem dX12_hit_70 : decode cX12_hit 70 = .ok (.iadd, 1) := by decide +kernel
theorem dX12_hit_71 : decode cX12_hit 71 = .ok (.iload 5, 2) := by decide +kernel
theorem dX12_hit_73 : decode cX12_hit 73 = .ok (.iadd, 1) := by decide +kernel
theorem dX12_hit_74 : decode cX12_hit 74 = .ok (.iaload, 1) := by decide +kernel
theorem dX12_hit_75 : decode cX12_hit 75 = .ok (.istore 4, 2) := by decide +kernel
theorem dX12_hit_77 : decode cX12_hit 77 = .ok (.iinc 5 1, 3) := by decide +kernel
theorem dX12_hit_80 : decode cX12_hit 80 = .ok (.goto (-74), 3) := by decide +kernel
theorem dX12_hit_83 : decode cX12_hit 83 = .ok (.iload 4, 2) := by decide +kernel
theorem dX12_hit_85 : decode cX12_hit 85 = .ok (.ireturn, 1) := by decide +kernel
def f_X12_hit_6 (N : Nat) : Nat → Nat → Int32 → Int32 → Int32 → Int32 → Int32 → zH → Option Int32
  | 0, _, _, _, _, _, _, _ => none
  | n + 1, l0, l1, l2, l3, l4, l5, h => (zgR h 12 (some l0) 0).bind fun x1 => (zld h 0 x1 ((15 : Int32) + l1)).bind fun x2 => if x2 ≤ l5 then some l4 else (zgR h 12 (some l0) 0).bind fun x3 => (zld h 0 x3 (((19 : Int32) + ((12 : Int32) * l1)) + l5)).bind fun x4 => (zgR h 12 (some l0) 0).bind fun x5 => (zld h 0 x5 (124 : Int32)).bind fun x6 => if ((x4 + x6) * (x4 + x6)) < ((l2 * l2) + (l3 * l3)) then f_X12_hit_6 N n l0 l1 l2 l3 l4 (l5 + (1 : Int32)) h else (zgR h 12 (some l0) 0).bind fun x7 => (zld h 0 x7 (((67 : Int32) + ((12 : Int32) * l1)) + l5)).bind fun x8 => f_X12_hit_6 N n l0 l1 l2 l3 x8 (l5 + (1 : Int32)) h
set_option maxHeartbeats 4000000 in
set_option maxRecDepth 100000 in
theorem s_X12_hit_6 {g : zG} (hg : g.2.1.map (fun q => q.2) = zty) {h0 : zH} (N : Nat) : ∀ (n : Nat) (l0 : Nat) (l1 : Int32) (l2 : Int32) (l3 : Int32) (l4 : Int32) (l5 : Int32) (h : zH) (r : Int32), f_X12_hit_6 N n l0 l1 l2 l3 l4 l5 h = some r → zR g jX12_hit h0 6 [some (zr (some l0)), some (zi l1), some (zi l2), some (zi l3), some (zi l4), some (zi l5), none] [] h (some (zi r)) h := by
  intro n
  induction n with
  | zero =>
    intro l0 l1 l2 l3 l4 l5 h r hf
    cases hf
  | succ n ih =>
    intro l0 l1 l2 l3 l4 l5 h r hf
    rw [f_X12_hit_6] at hf
    refine zr_iload (x := l5) dX12_hit_6 rfl ?_
    refine zr_aload_n (v := .inl (some l0)) dX12_hit_8 rfl rfl ?_
    revert hf; refine zbi (fun x1 e_x1 hf => ?_)
    refine zq_getR kg_490 dX12_hit_9 e_x1 ?_
    refine zr_bipush (v := (15 : Int32)) dX12_hit_12 (by decide) ?_
    refine zr_iload_n (x := l1) dX12_hit_14 rfl rfl ?_
    refine zr_iadd dX12_hit_15 ?_
    revert hf; refine zbi (fun x2 e_x2 hf => ?_)
    refine zq_iald dX12_hit_16 e_x2 ?_
    by_cases hc1 : x2 ≤ l5
    · rw [if_pos hc1] at hf
      refine zr_icge_t (tgt := 83) dX12_hit_17 (by decide) hc1 ?_
      refine zr_iload (x := l4) dX12_hit_83 rfl ?_
      cases hf
      exact zr_ret _ rfl dX12_hit_85
    · rw [if_neg hc1] at hf
      refine zr_icge_f 83 dX12_hit_17 (by decide) hc1 ?_
      refine zr_aload_n (v := .inl (some l0)) dX12_hit_20 rfl rfl ?_
      revert hf; refine zbi (fun x3 e_x3 hf => ?_)
      refine zq_getR kg_490 dX12_hit_21 e_x3 ?_
      refine zr_bipush (v := (19 : Int32)) dX12_hit_24 (by decide) ?_
      refine zr_bipush (v := (12 : Int32)) dX12_hit_26 (by decide) ?_
      refine zr_iload_n (x := l1) dX12_hit_28 rfl rfl ?_
      refine zr_imul dX12_hit_29 ?_
      refine zr_iadd dX12_hit_30 ?_
      refine zr_iload (x := l5) dX12_hit_31 rfl ?_
      refine zr_iadd dX12_hit_33 ?_
      revert hf; refine zbi (fun x4 e_x4 hf => ?_)
      refine zq_iald dX12_hit_34 e_x4 ?_
      refine zr_aload_n (v := .inl (some l0)) dX12_hit_35 rfl rfl ?_
      revert hf; refine zbi (fun x5 e_x5 hf => ?_)
      refine zq_getR kg_490 dX12_hit_36 e_x5 ?_
      refine zr_bipush (v := (124 : Int32)) dX12_hit_39 (by decide) ?_
      revert hf; refine zbi (fun x6 e_x6 hf => ?_)
      refine zq_iald dX12_hit_41 e_x6 ?_
      refine zr_iadd dX12_hit_42 ?_
      refine zq_istore (x := (x4 + x6)) (L' := [some (zr (some l0)), some (zi l1), some (zi l2), some (zi l3), some (zi l4), some (zi l5), some (zi (x4 + x6))]) dX12_hit_43 (by decide) rfl ?_
      refine zr_iload_n (x := l2) dX12_hit_45 rfl rfl ?_
      refine zr_iload_n (x := l2) dX12_hit_46 rfl rfl ?_
      refine zr_imul dX12_hit_47 ?_
      refine zr_iload_n (x := l3) dX12_hit_48 rfl rfl ?_
      refine zr_iload_n (x := l3) dX12_hit_49 rfl rfl ?_
      refine zr_imul dX12_hit_50 ?_
      refine zr_iadd dX12_hit_51 ?_
      refine zr_iload (x := (x4 + x6)) dX12_hit_52 rfl ?_
      refine zr_iload (x := (x4 + x6)) dX12_hit_54 rfl ?_
      refine zr_imul dX12_hit_56 ?_
      by_cases hc2 : ((x4 + x6) * (x4 + x6)) < ((l2 * l2) + (l3 * l3))
      · rw [if_pos hc2] at hf
        refine zr_icgt_t (tgt := 77) dX12_hit_57 (by decide) hc2 ?_
        refine zq_iinc (x := l5) (y := (1 : Int32)) (L' := [some (zr (some l0)), some (zi l1), some (zi l2), some (zi l3), some (zi l4), some (zi (l5 + (1 : Int32))), some (zi (x4 + x6))]) dX12_hit_77 rfl (by decide) (by decide) rfl ?_
        refine zr_goto (tgt := 6) dX12_hit_80 (by decide) ?_
        refine zr_forget 6 (L' := [some (zr (some l0)), some (zi l1), some (zi l2), some (zi l3), some (zi l4), some (zi (l5 + (1 : Int32))), none]) rfl ?_
        exact ih l0 l1 l2 l3 l4 (l5 + (1 : Int32)) h r hf
      · rw [if_neg hc2] at hf
        refine zr_icgt_f 77 dX12_hit_57 (by decide) hc2 ?_
        refine zr_aload_n (v := .inl (some l0)) dX12_hit_60 rfl rfl ?_
        revert hf; refine zbi (fun x7 e_x7 hf => ?_)
        refine zq_getR kg_490 dX12_hit_61 e_x7 ?_
        refine zr_bipush (v := (67 : Int32)) dX12_hit_64 (by decide) ?_
        refine zr_bipush (v := (12 : Int32)) dX12_hit_66 (by decide) ?_
        refine zr_iload_n (x := l1) dX12_hit_68 rfl rfl ?_
        refine zr_imul dX12_hit_69 ?_
        refine zr_iadd dX12_hit_70 ?_
        refine zr_iload (x := l5) dX12_hit_71 rfl ?_
        refine zr_iadd dX12_hit_73 ?_
        revert hf; refine zbi (fun x8 e_x8 hf => ?_)
        refine zq_iald dX12_hit_74 e_x8 ?_
        refine zq_istore (x := x8) (L' := [some (zr (some l0)), some (zi l1), some (zi l2), some (zi l3), some (zi x8), some (zi l5), some (zi (x4 + x6))]) dX12_hit_75 (by decide) rfl ?_
        refine zq_iinc (x := l5) (y := (1 : Int32)) (L' := [some (zr (some l0)), some (zi l1), some (zi l2), some (zi l3), some (zi x8), some (zi (l5 + (1 : Int32))), some (zi (x4 + x6))]) dX12_hit_77 rfl (by decide) (by decide) rfl ?_
        refine zr_goto (tgt := 6) dX12_hit_80 (by decide) ?_
        refine zr_forget 6 (L' := [some (zr (some l0)), some (zi l1), some (zi l2), some (zi l3), some (zi x8), some (zi (l5 + (1 : Int32))), none]) rfl ?_
        exact ih l0 l1 l2 l3 x8 (l5 + (1 : Int32)) h r hf
def f_X12_hit (N : Nat) (l0 : Nat) (l1 : Int32) (l2 : Int32) (l3 : Int32) (h : zH) : Option Int32 := f_X12_hit_6 N N l0 l1 l2 l3 (0 : Int32) (0 : Int32) h
set_option maxHeartbeats 4000000 in
set_option maxRecDepth 100000 in
theorem s_X12_hit {g : zG} (hg : g.2.1.map (fun q => q.2) = zty) {h0 : zH} (N : Nat) (l0 : Nat) (l1 : Int32) (l2 : Int32) (l3 : Int32) (h : zH) (r : Int32) (hf : f_X12_hit N l0 l1 l2 l3 h = some r) : zR g jX12_hit h0 0 [some (zr (some l0)), some (zi l1), some (zi l2), some (zi l3), none, none, none] [] h (some (zi r)) h := by
  unfold f_X12_hit at hf
  refine zr_iconst (v := (0 : Int32)) dX12_hit_0 (by decide) ?_
  refine zq_istore (x := (0 : Int32)) (L' := [some (zr (some l0)), some (zi l1), some (zi l2), some (zi l3), some (zi (0 : Int32)), none, none]) dX12_hit_1 (by decide) rfl ?_
  refine zr_iconst (v := (0 : Int32)) dX12_hit_3 (by decide) ?_
  refine zq_istore (x := (0 : Int32)) (L' := [some (zr (some l0)), some (zi l1), some (zi l2), some (zi l3), some (zi (0 : Int32)), some (zi (0 : Int32)), none]) dX12_hit_4 (by decide) rfl ?_
  exact s_X12_hit_6 hg N N l0 l1 l2 l3 (0 : Int32) (0 : Int32) h r hf
theorem c_X12_hit {g : zG} (hg : g.2.1.map (fun q => q.2) = zty) {N : Nat} {l0 : Nat} {l1 : Int32} {l2 : Int32} {l3 : Int32} {h : zH} {r : Int32} (hf : f_X12_hit N l0 l1 l2 l3 h = some r) : zCa g jX12_hit [zr (some l0), zi l1, zi l2, zi l3] h (some (zi r)) h :=
  zCa.of hg (by decide +kernel) (Nat.le_of_ble_eq_true rfl) (s_X12_hit hg N l0 l1 l2 l3 h r hf)
theorem dX12_shoot_0 : decode cX12_shoot 0 = .ok (.aload_n 0, 1) := by decide +kernel
theorem dX12_shoot_1 : decode cX12_shoot 1 = .ok (.getfield 170, 3) := by decide +kernel
theorem dX12_shoot_4 : decode cX12_shoot 4 = .ok (.istore_n 2, 1) := by decide +kernel
theorem dX12_shoot_5 : decode cX12_shoot 5 = .ok (.aload_n 0, 1) := by decide +kernel
theorem dX12_shoot_6 : decode cX12_shoot 6 = .ok (.iconst 0, 1) := by decide +kernel
theorem dX12_shoot_7 : decode cX12_shoot 7 = .ok (.putfield 170, 3) := by decide +kernel
theorem dX12_shoot_10 : decode cX12_shoot 10 = .ok (.aload_n 0, 1) := by decide +kernel
theorem dX12_shoot_11 : decode cX12_shoot 11 = .ok (.iload_n 1, 1) := by decide +kernel
theorem dX12_shoot_12 : decode cX12_shoot 12 = .ok (.invokevirtual 151, 3) := by decide +kernel
theorem dX12_shoot_15 : decode cX12_shoot 15 = .ok (.ifCond .eq 30, 3) := by decide +kernel
theorem dX12_shoot_18 : decode cX12_shoot 18 = .ok (.aload_n 0, 1) := by decide +kernel
theorem dX12_shoot_19 : decode cX12_shoot 19 = .ok (.getfield 8, 3) := by decide +kernel
theorem dX12_shoot_22 : decode cX12_shoot 22 = .ok (.iconst 0, 1) := by decide +kernel
theorem dX12_shoot_23 : decode cX12_shoot 23 = .ok (.iaload, 1) := by decide +kernel
theorem dX12_shoot_24 : decode cX12_shoot 24 = .ok (.ifCond .eq 21, 3) := by decide +kernel
theorem dX12_shoot_27 : decode cX12_shoot 27 = .ok (.aload_n 0, 1) := by decide +kernel
theorem dX12_shoot_28 : decode cX12_shoot 28 = .ok (.getfield 8, 3) := by decide +kernel
theorem dX12_shoot_31 : decode cX12_shoot 31 = .ok (.sipush 141, 3) := by decide +kernel
theorem dX12_shoot_34 : decode cX12_shoot 34 = .ok (.iload_n 1, 1) := by decide +kernel
theorem dX12_shoot_35 : decode cX12_shoot 35 = .ok (.iadd, 1) := by decide +kernel
theorem dX12_shoot_36 : decode cX12_shoot 36 = .ok (.iaload, 1) := by decide +kernel
theorem dX12_shoot_37 : decode cX12_shoot 37 = .ok (.aload_n 0, 1) := by decide +kernel
theorem dX12_shoot_38 : decode cX12_shoot 38 = .ok (.iconst 1, 1) := by decide +kernel
theorem dX12_shoot_39 : decode cX12_shoot 39 = .ok (.invokevirtual 147, 3) := by decide +kernel
theorem dX12_shoot_42 : decode cX12_shoot 42 = .ok (.if_icmp .ne 5, 3) := by decide +kernel
theorem dX12_shoot_45 : decode cX12_shoot 45 = .ok (.iconst (-1), 1) := by decide +kernel
theorem dX12_shoot_46 : decode cX12_shoot 46 = .ok (.ireturn, 1) := by decide +kernel
theorem dX12_shoot_47 : decode cX12_shoot 47 = .ok (.aload_n 0, 1) := by decide +kernel
theorem dX12_shoot_48 : decode cX12_shoot 48 = .ok (.aload_n 0, 1) := by decide +kernel
theorem dX12_shoot_49 : decode cX12_shoot 49 = .ok (.getfield 8, 3) := by decide +kernel
theorem dX12_shoot_52 : decode cX12_shoot 52 = .ok (.sipush 141, 3) := by decide +kernel
theorem dX12_shoot_55 : decode cX12_shoot 55 = .ok (.iload_n 1, 1) := by decide +kernel
theorem dX12_shoot_56 : decode cX12_shoot 56 = .ok (.iadd, 1) := by decide +kernel
theorem dX12_shoot_57 : decode cX12_shoot 57 = .ok (.iaload, 1) := by decide +kernel
theorem dX12_shoot_58 : decode cX12_shoot 58 = .ok (.invokevirtual 154, 3) := by decide +kernel
theorem dX12_shoot_61 : decode cX12_shoot 61 = .ok (.istore_n 3, 1) := by decide +kernel
theorem dX12_shoot_62 : decode cX12_shoot 62 = .ok (.iload_n 2, 1) := by decide +kernel
theorem dX12_shoot_63 : decode cX12_shoot 63 = .ok (.aload_n 0, 1) := by decide +kernel
theorem dX12_shoot_64 : decode cX12_shoot 64 = .ok (.getfield 8, 3) := by decide +kernel
theorem dX12_shoot_67 : decode cX12_shoot 67 = .ok (.iconst 2, 1) := by decide +kernel
theorem dX12_shoot_68 : decode cX12_shoot 68 = .ok (.iconst 3, 1) := by decide +kernel
theorem dX12_shoot_69 : decode cX12_shoot 69 = .ok (.iload_n 3, 1) := by decide +kernel
theorem dX12_shoot_70 : decode cX12_shoot 70 = .ok (.imul, 1) := by decide +kernel
theorem dX12_shoot_71 : decode cX12_shoot 71 = .ok (.iadd, 1) := by decide +kernel
theorem dX12_shoot_72 : decode cX12_shoot 72 = .ok (.iconst 1, 1) := by decide +kernel
theorem dX12_shoot_73 : decode cX12_shoot 73 = .ok (.iadd, 1) := by decide +kernel
theorem dX12_shoot_74 : decode cX12_shoot 74 = .ok (.iaload, 1) := by decide +kernel
theorem dX12_shoot_75 : decode cX12_shoot 75 = .ok (.if_icmp .eq 6, 3) := by decide +kernel
theorem dX12_shoot_78 : decode cX12_shoot 78 = .ok (.bipush (-2), 2) := by decide +kernel
theorem dX12_shoot_80 : decode cX12_shoot 80 = .ok (.ireturn, 1) := by decide +kernel
theorem dX12_shoot_81 : decode cX12_shoot 81 = .ok (.iconst 0, 1) := by decide +kernel
theorem dX12_shoot_82 : decode cX12_shoot 82 = .ok (.istore 4, 2) := by decide +kernel
theorem dX12_shoot_84 : decode cX12_shoot 84 = .ok (.iconst 0, 1) := by decide +kernel
theorem dX12_shoot_85 : decode cX12_shoot 85 = .ok (.istore 5, 2) := by decide +kernel
theorem dX12_shoot_87 : decode cX12_shoot 87 = .ok (.iload 5, 2) := by decide +kernel
theorem dX12_shoot_89 : decode cX12_shoot 89 = .ok (.iload_n 2, 1) := by decide +kernel
theorem dX12_shoot_90 : decode cX12_shoot 90 = .ok (.if_icmp .ge 166, 3) := by decide +kernel
theorem dX12_shoot_93 : decode cX12_shoot 93 = .ok (.aload_n 0, 1) := by decide +kernel
theorem dX12_shoot_94 : decode cX12_shoot 94 = .ok (.getfield 53, 3) := by decide +kernel
theorem dX12_shoot_97 : decode cX12_shoot 97 = .ok (.iload 5, 2) := by decide +kernel
theorem dX12_shoot_99 : decode cX12_shoot 99 = .ok (.iaload, 1) := by decide +kernel
theorem dX12_shoot_100 : decode cX12_shoot 100 = .ok (.istore 6, 2) := by decide +kernel
theorem dX12_shoot_102 : decode cX12_shoot 102 = .ok (.iload 6, 2) := by decide +kernel
theorem dX12_shoot_104 : decode cX12_shoot 104 = .ok (.iconst 4, 1) := by decide +kernel
theorem dX12_shoot_105 : decode cX12_shoot 105 = .ok (.if_icmp .ne 34, 3) := by decide +kernel
theorem dX12_shoot_108 : decode cX12_shoot 108 = .ok (.aload_n 0, 1) := by decide +kernel
theorem dX12_shoot_109 : decode cX12_shoot 109 = .ok (.getfield 56, 3) := by decide +kernel
theorem dX12_shoot_112 : decode cX12_shoot 112 = .ok (.iload 5, 2) := by decide +kernel
theorem dX12_shoot_114 : decode cX12_shoot 114 = .ok (.iaload, 1) := by decide +kernel
theorem dX12_shoot_115 : decode cX12_shoot 115 = .ok (.iload 5, 2) := by decide +kernel
theorem dX12_shoot_117 : decode cX12_shoot 117 = .ok (.if_icmp .ge 19, 3) := by decide +kernel
theorem dX12_shoot_120 : decode cX12_shoot 120 = .ok (.aload_n 0, 1) := by decide +kernel
theorem dX12_shoot_121 : decode cX12_shoot 121 = .ok (.getfield 53, 3) := by decide +kernel
theorem dX12_shoot_124 : decode cX12_shoot 124 = .ok (.aload_n 0, 1) := by decide +kernel
theorem dX12_shoot_125 : decode cX12_shoot 125 = .ok (.getfield 56, 3) := by decide +kernel
theorem dX12_shoot_128 : decode cX12_shoot 128 = .ok (.iload 5, 2) := by decide +kernel
theorem dX12_shoot_130 : decode cX12_shoot 130 = .ok (.iaload, 1) := by decide +kernel
theorem dX12_shoot_131 : decode cX12_shoot 131 = .ok (.iaload, 1) := by decide +kernel
theorem dX12_shoot_132 : decode cX12_shoot 132 = .ok (.iconst 1, 1) := by decide +kernel
theorem dX12_shoot_133 : decode cX12_shoot 133 = .ok (.if_icmp .ne 6, 3) := by decide +kernel
theorem dX12_shoot_136 : decode cX12_shoot 136 = .ok (.bipush (-3), 2) := by decide +kernel
theorem dX12_shoot_138 : decode cX12_shoot 138 = .ok (.ireturn, 1) := by decide +kernel
theorem dX12_shoot_139 : decode cX12_shoot 139 = .ok (.aload_n 0, 1) := by decide +kernel
theorem dX12_shoot_140 : decode cX12_shoot 140 = .ok (.getfield 62, 3) := by decide +kernel
theorem dX12_shoot_143 : decode cX12_shoot 143 = .ok (.iload 5, 2) := by decide +kernel
theorem dX12_shoot_145 : decode cX12_shoot 145 = .ok (.iload 6, 2) := by decide +kernel
theorem dX12_shoot_147 : decode cX12_shoot 147 = .ok (.ifCond .ne 36, 3) := by decide +kernel
theorem dX12_shoot_150 : decode cX12_shoot 150 = .ok (.aload_n 0, 1) := by decide +kernel
theorem dX12_shoot_151 : decode cX12_shoot 151 = .ok (.aload_n 0, 1) := by decide +kernel
theorem dX12_shoot_152 : decode cX12_shoot 152 = .ok (.getfield 8, 3) := by decide +kernel
theorem dX12_shoot_155 : decode cX12_shoot 155 = .ok (.iconst 2, 1) := by decide +kernel
theorem dX12_shoot_156 : decode cX12_shoot 156 = .ok (.iconst 3, 1) := by decide +kernel
theorem dX12_shoot_157 : decode cX12_shoot 157 = .ok (.iload_n 3, 1) := by decide +kernel
theorem dX12_shoot_158 : decode cX12_shoot 158 = .ok (.imul, 1) := by decide +kernel
theorem dX12_shoot_159 : decode cX12_shoot 159 = .ok (.iadd, 1) := by decide +kernel
theorem dX12_shoot_160 : decode cX12_shoot 160 = .ok (.iconst 2, 1) := by decide +kernel
theorem dX12_shoot_161 : decode cX12_shoot 161 = .ok (.iadd, 1) := by decide +kernel
theorem dX12_shoot_162 : decode cX12_shoot 162 = .ok (.iaload, 1) := by decide +kernel
theorem dX12_shoot_163 : decode cX12_shoot 163 = .ok (.aload_n 0, 1) := by decide +kernel
theorem dX12_shoot_164 : decode cX12_shoot 164 = .ok (.getfield 56, 3) := by decide +kernel
theorem dX12_shoot_167 : decode cX12_shoot 167 = .ok (.iload 5, 2) := by decide +kernel
theorem dX12_shoot_169 : decode cX12_shoot 169 = .ok (.iaload, 1) := by decide +kernel
theorem dX12_shoot_170 : decode cX12_shoot 170 = .ok (.aload_n 0, 1) := by decide +kernel
theorem dX12_shoot_171 : decode cX12_shoot 171 = .ok (.getfield 59, 3) := by decide +kernel
theorem dX12_shoot_174 : decode cX12_shoot 174 = .ok (.iload 5, 2) := by decide +kernel
theorem dX12_shoot_176 : decode cX12_shoot 176 = .ok (.iaload, 1) := by decide +kernel
theorem dX12_shoot_177 : decode cX12_shoot 177 = .ok (.invokevirtual 176, 3) := by decide +kernel
theorem dX12_shoot_180 : decode cX12_shoot 180 = .ok (.goto 57, 3) := by decide +kernel
theorem dX12_shoot_183 : decode cX12_shoot 183 = .ok (.iload 6, 2) := by decide +kernel
theorem dX12_shoot_185 : decode cX12_shoot 185 = .ok (.iconst 2, 1) := by decide +kernel
theorem dX12_shoot_186 : decode cX12_shoot 186 = .ok (.if_icmp .ne 13, 3) := by decide +kernel
theorem dX12_shoot_189 : decode cX12_shoot 189 = .ok (.aload_n 0, 1) := by decide +kernel
theorem dX12_shoot_190 : decode cX12_shoot 190 = .ok (.getfield 8, 3) := by decide +kernel
theorem dX12_shoot_193 : decode cX12_shoot 193 = .ok (.bipush 122, 2) := by decide +kernel
theorem dX12_shoot_195 : decode cX12_shoot 195 = .ok (.iaload, 1) := by decide +kernel
theorem dX12_shoot_196 : decode cX12_shoot 196 = .ok (.goto 41, 3) := by decide +kernel
theorem dX12_shoot_199 : decode cX12_shoot 199 = .ok (.iload 6, 2) := by decide +kernel
theorem dX12_shoot_201 : decode cX12_shoot 201 = .ok (.iconst 3, 1) := by decide +kernel
theorem dX12_shoot_202 : decode cX12_shoot 202 = .ok (.if_icmp .ne 13, 3) := by decide +kernel
theorem dX12_shoot_205 : decode cX12_shoot 205 = .ok (.aload_n 0, 1) := by decide +kernel
theorem dX12_shoot_206 : decode cX12_shoot 206 = .ok (.getfield 8, 3) := by decide +kernel
theorem dX12_shoot_209 : decode cX12_shoot 209 = .ok (.bipush 123, 2) := by decide +kernel
theorem dX12_shoot_211 : decode cX12_shoot 211 = .ok (.iaload, 1) := by decide +kernel
theorem dX12_shoot_212 : decode cX12_shoot 212 = .ok (.goto 25, 3) := by decide +kernel
theorem dX12_shoot_215 : decode cX12_shoot 215 = .ok (.iload 6, 2) := by decide +kernel
theorem dX12_shoot_217 : decode cX12_shoot 217 = .ok (.iconst 4, 1) := by decide +kernel
theorem dX12_shoot_218 : decode cX12_shoot 218 = .ok (.if_icmp .ne 18, 3) := by decide +kernel
theorem dX12_shoot_221 : decode cX12_shoot 221 = .ok (.aload_n 0, 1) := by decide +kernel
theorem dX12_shoot_222 : decode cX12_shoot 222 = .ok (.getfield 62, 3) := by decide +kernel
theorem dX12_shoot_225 : decode cX12_shoot 225 = .ok (.aload_n 0, 1) := by decide +kernel
theorem dX12_shoot_226 : decode cX12_shoot 226 = .ok (.getfield 56, 3) := by decide +kernel
theorem dX12_shoot_229 : decode cX12_shoot 229 = .ok (.iload 5, 2) := by decide +kernel
theorem dX12_shoot_231 : decode cX12_shoot 231 = .ok (.iaload, 1) := by decide +kernel
theorem dX12_shoot_232 : decode cX12_shoot 232 = .ok (.iaload, 1) := by decide +kernel
theorem dX12_shoot_233 : decode cX12_shoot 233 = .ok (.goto 4, 3) := by decide +kernel
theorem dX12_shoot_236 : decode cX12_shoot 236 = .ok (.iconst 0, 1) := by decide +kernel
theorem dX12_shoot_237 : decode cX12_shoot 237 = .ok (.iastore, 1) := by decide +kernel
theorem dX12_shoot_238 : decode cX12_shoot 238 = .ok (.iload 4, 2) := by decide +kernel
theorem dX12_shoot_240 : decode cX12_shoot 240 = .ok (.aload_n 0, 1) := by decide +kernel
theorem dX12_shoot_241 : decode cX12_shoot 241 = .ok (.getfield 62, 3) := by decide +kernel
theorem dX12_shoot_244 : decode cX12_shoot 244 = .ok (.iload 5, 2) := by decide +kernel
theorem dX12_shoot_246 : decode cX12_shoot 246 = .ok (.iaload, 1) := by decide +kernel
theorem dX12_shoot_247 : decode cX12_shoot 247 = .ok (.iadd, 1) := by decide +kernel
theorem dX12_shoot_248 : decode cX12_shoot 248 = .ok (.istore 4, 2) := by decide +kernel
theorem dX12_shoot_250 : decode cX12_shoot 250 = .ok (.iinc 5 1, 3) := by decide +kernel
theorem dX12_shoot_253 : decode cX12_shoot 253 = .ok (.goto (-166), 3) := by decide +kernel
theorem dX12_shoot_256 : decode cX12_shoot 256 = .ok (.aload_n 0, 1) := by decide +kernel
theorem dX12_shoot_257 : decode cX12_shoot 257 = .ok (.invokevirtual 144, 3) := by decide +kernel
theorem dX12_shoot_260 : decode cX12_shoot 260 = .ok (.aload_n 0, 1) := by decide +kernel
theorem dX12_shoot_261 : decode cX12_shoot 261 = .ok (.aload_n 0, 1) := by decide +kernel
theorem dX12_shoot_262 : decode cX12_shoot 262 = .ok (.getfield 8, 3) := by decide +kernel
theorem dX12_shoot_265 : decode cX12_shoot 265 = .ok (.sipush 141, 3) := by decide +kernel
theorem dX12_shoot_268 : decode cX12_shoot 268 = .ok (.iload_n 1, 1) := by decide +kernel
theorem dX12_shoot_269 : decode cX12_shoot 269 = .ok (.iadd, 1) := by decide +kernel
theorem dX12_shoot_270 : decode cX12_shoot 270 = .ok (.iaload, 1) := by decide +kernel
theorem dX12_shoot_271 : decode cX12_shoot 271 = .ok (.invokevirtual 157, 3) := by decide +kernel
theorem dX12_shoot_274 : decode cX12_shoot 274 = .ok (.istore 5, 2) := by decide +kernel
theorem dX12_shoot_276 : decode cX12_shoot 276 = .ok (.iconst 0, 1) := by decide +kernel
theorem dX12_shoot_277 : decode cX12_shoot 277 = .ok (.istore 6, 2) := by decide +kernel
theorem dX12_shoot_279 : decode cX12_shoot 279 = .ok (.iload 6, 2) := by decide +kernel
theorem dX12_shoot_281 : decode cX12_shoot 281 = .ok (.iload_n 2, 1) := by decide +kernel
theorem dX12_shoot_282 : decode cX12_shoot 282 = .ok (.if_icmp .ge 36, 3) := by decide +kernel
theorem dX12_shoot_285 : decode cX12_shoot 285 = .ok (.aload_n 0, 1) := by decide +kernel
theorem dX12_shoot_286 : decode cX12_shoot 286 = .ok (.getfield 8, 3) := by decide +kernel
theorem dX12_shoot_289 : decode cX12_shoot 289 = .ok (.sipush 157, 3) := by decide +kernel
theorem dX12_shoot_292 : decode cX12_shoot 292 = .ok (.sipush 288, 3) := by decide +kernel
theorem dX12_shoot_295 : decode cX12_shoot 295 = .ok (.iload_n 1, 1) := by decide +kernel
theorem dX12_shoot_296 : decode cX12_shoot 296 = .ok (.imul, 1) := by decide +kernel
theorem dX12_shoot_297 : decode cX12_shoot 297 = .ok (.iadd, 1) := by decide +kernel
theorem dX12_shoot_298 : decode cX12_shoot 298 = .ok (.iload 5, 2) := by decide +kernel
theorem dX12_shoot_300 : decode cX12_shoot 300 = .ok (.iadd, 1) := by decide +kernel
theorem dX12_shoot_301 : decode cX12_shoot 301 = .ok (.iload 6, 2) := by decide +kernel
theorem dX12_shoot_303 : decode cX12_shoot 303 = .ok (.iadd, 1) := by decide +kernel
theorem dX12_shoot_304 : decode cX12_shoot 304 = .ok (.aload_n 0, 1) := by decide +kernel
theorem dX12_shoot_305 : decode cX12_shoot 305 = .ok (.getfield 62, 3) := by decide +kernel
theorem dX12_shoot_308 : decode cX12_shoot 308 = .ok (.iload 6, 2) := by decide +kernel
theorem dX12_shoot_310 : decode cX12_shoot 310 = .ok (.iaload, 1) := by decide +kernel
theorem dX12_shoot_311 : decode cX12_shoot 311 = .ok (.iastore, 1) := by decide +kernel
theorem dX12_shoot_312 : decode cX12_shoot 312 = .ok (.iinc 6 1, 3) := by decide +kernel
theorem dX12_shoot_315 : decode cX12_shoot 315 = .ok (.goto (-36), 3) := by decide +kernel
theorem dX12_shoot_318 : decode cX12_shoot 318 = .ok (.aload_n 0, 1) := by decide +kernel
theorem dX12_shoot_319 : decode cX12_shoot 319 = .ok (.getfield 8, 3) := by decide +kernel
theorem dX12_shoot_322 : decode cX12_shoot 322 = .ok (.sipush 141, 3) := by decide +kernel
theorem dX12_shoot_325 : decode cX12_shoot 325 = .ok (.iload_n 1, 1) := by decide +kernel
theorem dX12_shoot_326 : decode cX12_shoot 326 = .ok (.iadd, 1) := by decide +kernel
theorem dX12_shoot_327 : decode cX12_shoot 327 = .ok (.dup2, 1) := by decide +kernel
theorem dX12_shoot_328 : decode cX12_shoot 328 = .ok (.iaload, 1) := by decide +kernel
theorem dX12_shoot_329 : decode cX12_shoot 329 = .ok (.iconst 1, 1) := by decide +kernel
theorem dX12_shoot_330 : decode cX12_shoot 330 = .ok (.iadd, 1) := by decide +kernel
theorem dX12_shoot_331 : decode cX12_shoot 331 = .ok (.iastore, 1) := by decide +kernel
theorem dX12_shoot_332 : decode cX12_shoot 332 = .ok (.iload 4, 2) := by decide +kernel
theorem dX12_shoot_334 : decode cX12_shoot 334 = .ok (.ireturn, 1) := by decide +kernel
def f_X12_shoot_237 (N : Nat) (k87 : Nat → Int32 → Int32 → Int32 → Int32 → Int32 → zH → Option (Int32 × zH)) (l0 : Nat) (l1 : Int32) (l2 : Int32) (l3 : Int32) (l4 : Int32) (l5 : Int32) (s0 : Int32) (s1 : Int32) (s2 : Option Nat) (h : zH) : Option (Int32 × zH) := (zst h 0 s2 s1 s0).bind fun h1 => (zgR h1 12 (some l0) 27).bind fun x1 => (zld h1 0 x1 l5).bind fun x2 => k87 l0 l1 l2 l3 (l4 + x2) (l5 + (1 : Int32)) h1
set_option maxHeartbeats 4000000 in
set_option maxRecDepth 100000 in
theorem s_X12_shoot_237 {g : zG} (hg : g.2.1.map (fun q => q.2) = zty) {h0 : zH} (N : Nat) (k87 : Nat → Int32 → Int32 → Int32 → Int32 → Int32 → zH → Option (Int32 × zH)) (hk87 : ∀ (l0 : Nat) (l1 : Int32) (l2 : Int32) (l3 : Int32) (l4 : Int32) (l5 : Int32) (h : zH) (r : Int32) (h' : zH), k87 l0 l1 l2 l3 l4 l5 h = some (r, h') → zR g jX12_shoot h0 87 [some (zr (some l0)), some (zi l1), some (zi l2), some (zi l3), some (zi l4), some (zi l5), none] [] h (some (zi r)) h') (l0 : Nat) (l1 : Int32) (l2 : Int32) (l3 : Int32) (l4 : Int32) (l5 : Int32) (s0 : Int32) (s1 : Int32) (s2 : Option Nat) (h : zH) (r : Int32) (h' : zH) (hf : f_X12_shoot_237 N k87 l0 l1 l2 l3 l4 l5 s0 s1 s2 h = some (r, h')) : zR g jX12_shoot h0 237 [some (zr (some l0)), some (zi l1), some (zi l2), some (zi l3), some (zi l4), some (zi l5), none] [zi s0, zi s1, zr s2] h (some (zi r)) h' := by
  unfold f_X12_shoot_237 at hf
  revert hf; refine zbi (fun h1 e_h1 hf => ?_)
  refine zq_iast dX12_shoot_237 e_h1 ?_
  refine zr_iload (x := l4) dX12_shoot_238 rfl ?_
  refine zr_aload_n (v := .inl (some l0)) dX12_shoot_240 rfl rfl ?_
  revert hf; refine zbi (fun x1 e_x1 hf => ?_)
  refine zq_getR kg_611 dX12_shoot_241 e_x1 ?_
  refine zr_iload (x := l5) dX12_shoot_244 rfl ?_
  revert hf; refine zbi (fun x2 e_x2 hf => ?_)
  refine zq_iald dX12_shoot_246 e_x2 ?_
  refine zr_iadd dX12_shoot_247 ?_
  refine zq_istore (x := (l4 + x2)) (L' := [some (zr (some l0)), some (zi l1), some (zi l2), some (zi l3), some (zi (l4 + x2)), some (zi l5), none]) dX12_shoot_248 (by decide) rfl ?_
  refine zq_iinc (x := l5) (y := (1 : Int32)) (L' := [some (zr (some l0)), some (zi l1), some (zi l2), some (zi l3), some (zi (l4 + x2)), some (zi (l5 + (1 : Int32))), none]) dX12_shoot_250 rfl (by decide) (by decide) rfl ?_
  refine zr_goto (tgt := 87) dX12_shoot_253 (by decide) ?_
  exact hk87 l0 l1 l2 l3 (l4 + x2) (l5 + (1 : Int32)) h1 r h' hf
def f_X12_shoot_139 (N : Nat) (k87 : Nat → Int32 → Int32 → Int32 → Int32 → Int32 → zH → Option (Int32 × zH)) (l0 : Nat) (l1 : Int32) (l2 : Int32) (l3 : Int32) (l4 : Int32) (l5 : Int32) (l6 : Int32) (h : zH) : Option (Int32 × zH) := (zgR h 12 (some l0) 27).bind fun x1 => if l6 = 0 then (zgR h 12 (some l0) 0).bind fun x10 => (zld h 0 x10 (((2 : Int32) + ((3 : Int32) * l3)) + (2 : Int32))).bind fun x11 => (zgR h 12 (some l0) 25).bind fun x12 => (zld h 0 x12 l5).bind fun x13 => (zgR h 12 (some l0) 26).bind fun x14 => (zld h 0 x14 l5).bind fun x15 => (zck h 12 (some l0)).bind fun q1 => (f_X12_hit N q1 x11 x13 x15 h).bind fun x16 => f_X12_shoot_237 N k87 l0 l1 l2 l3 l4 l5 x16 l5 x1 h else if l6 = (2 : Int32) then (zgR h 12 (some l0) 0).bind fun x8 => (zld h 0 x8 (122 : Int32)).bind fun x9 => f_X12_shoot_237 N k87 l0 l1 l2 l3 l4 l5 x9 l5 x1 h else if l6 = (3 : Int32) then (zgR h 12 (some l0) 0).bind fun x6 => (zld h 0 x6 (123 : Int32)).bind fun x7 => f_X12_shoot_237 N k87 l0 l1 l2 l3 l4 l5 x7 l5 x1 h else if l6 = (4 : Int32) then (zgR h 12 (some l0) 27).bind fun x2 => (zgR h 12 (some l0) 25).bind fun x3 => (zld h 0 x3 l5).bind fun x4 => (zld h 0 x2 x4).bind fun x5 => f_X12_shoot_237 N k87 l0 l1 l2 l3 l4 l5 x5 l5 x1 h else f_X12_shoot_237 N k87 l0 l1 l2 l3 l4 l5 (0 : Int32) l5 x1 h
set_option maxHeartbeats 4000000 in
set_option maxRecDepth 100000 in
theorem s_X12_shoot_139 {g : zG} (hg : g.2.1.map (fun q => q.2) = zty) {h0 : zH} (N : Nat) (k87 : Nat → Int32 → Int32 → Int32 → Int32 → Int32 → zH → Option (Int32 × zH)) (hk87 : ∀ (l0 : Nat) (l1 : Int32) (l2 : Int32) (l3 : Int32) (l4 : Int32) (l5 : Int32) (h : zH) (r : Int32) (h' : zH), k87 l0 l1 l2 l3 l4 l5 h = some (r, h') → zR g jX12_shoot h0 87 [some (zr (some l0)), some (zi l1), some (zi l2), some (zi l3), some (zi l4), some (zi l5), none] [] h (some (zi r)) h') (l0 : Nat) (l1 : Int32) (l2 : Int32) (l3 : Int32) (l4 : Int32) (l5 : Int32) (l6 : Int32) (h : zH) (r : Int32) (h' : zH) (hf : f_X12_shoot_139 N k87 l0 l1 l2 l3 l4 l5 l6 h = some (r, h')) : zR g jX12_shoot h0 139 [some (zr (some l0)), some (zi l1), some (zi l2), some (zi l3), some (zi l4), some (zi l5), some (zi l6)] [] h (some (zi r)) h' := by
  unfold f_X12_shoot_139 at hf
  refine zr_aload_n (v := .inl (some l0)) dX12_shoot_139 rfl rfl ?_
  revert hf; refine zbi (fun x1 e_x1 hf => ?_)
  refine zq_getR kg_611 dX12_shoot_140 e_x1 ?_
  refine zr_iload (x := l5) dX12_shoot_143 rfl ?_
  refine zr_iload (x := l6) dX12_shoot_145 rfl ?_
  by_cases hc1 : l6 = 0
  · rw [if_pos hc1] at hf
    refine zr_ifne_f 183 dX12_shoot_147 (by decide) hc1 ?_
    refine zr_aload_n (v := .inl (some l0)) dX12_shoot_150 rfl rfl ?_
    refine zr_aload_n (v := .inl (some l0)) dX12_shoot_151 rfl rfl ?_
    revert hf; refine zbi (fun x10 e_x10 hf => ?_)
    refine zq_getR kg_490 dX12_shoot_152 e_x10 ?_
    refine zr_iconst (v := (2 : Int32)) dX12_shoot_155 (by decide) ?_
    refine zr_iconst (v := (3 : Int32)) dX12_shoot_156 (by decide) ?_
    refine zr_iload_n (x := l3) dX12_shoot_157 rfl rfl ?_
    refine zr_imul dX12_shoot_158 ?_
    refine zr_iadd dX12_shoot_159 ?_
    refine zr_iconst (v := (2 : Int32)) dX12_shoot_160 (by decide) ?_
    refine zr_iadd dX12_shoot_161 ?_
    revert hf; refine zbi (fun x11 e_x11 hf => ?_)
    refine zq_iald dX12_shoot_162 e_x11 ?_
    refine zr_aload_n (v := .inl (some l0)) dX12_shoot_163 rfl rfl ?_
    revert hf; refine zbi (fun x12 e_x12 hf => ?_)
    refine zq_getR kg_606 dX12_shoot_164 e_x12 ?_
    refine zr_iload (x := l5) dX12_shoot_167 rfl ?_
    revert hf; refine zbi (fun x13 e_x13 hf => ?_)
    refine zq_iald dX12_shoot_169 e_x13 ?_
    refine zr_aload_n (v := .inl (some l0)) dX12_shoot_170 rfl rfl ?_
    revert hf; refine zbi (fun x14 e_x14 hf => ?_)
    refine zq_getR kg_607 dX12_shoot_171 e_x14 ?_
    refine zr_iload (x := l5) dX12_shoot_174 rfl ?_
    revert hf; refine zbi (fun x15 e_x15 hf => ?_)
    refine zq_iald dX12_shoot_176 e_x15 ?_
    revert hf; refine zbi (fun q1 e_q1 hf => ?_)
    revert hf; refine zbi (fun x16 e_x16 hf => ?_)
    refine zq_callV (J' := jX12_hit) (as := [zi x11, zi x13, zi x15]) (rest := [zi l5, zr x1]) (r1 := (some (zi x16))) (q := (RX12, TX12, 31)) kw_710 km_X12_hit kt_613 dX12_shoot_177 rfl (Nat.le_of_ble_eq_true rfl) rfl rfl e_q1 rfl (c_X12_hit hg e_x16) ?_
    refine zr_goto (tgt := 237) dX12_shoot_180 (by decide) ?_
    refine zr_forget 6 (L' := [some (zr (some l0)), some (zi l1), some (zi l2), some (zi l3), some (zi l4), some (zi l5), none]) rfl ?_
    exact s_X12_shoot_237 hg N _ hk87 l0 l1 l2 l3 l4 l5 x16 l5 x1 h r h' hf
  · rw [if_neg hc1] at hf
    refine zr_ifne_t (tgt := 183) dX12_shoot_147 (by decide) hc1 ?_
    refine zr_iload (x := l6) dX12_shoot_183 rfl ?_
    refine zr_iconst (v := (2 : Int32)) dX12_shoot_185 (by decide) ?_
    by_cases hc2 : l6 = (2 : Int32)
    · rw [if_pos hc2] at hf
      refine zr_icne_f 199 dX12_shoot_186 (by decide) hc2 ?_
      refine zr_aload_n (v := .inl (some l0)) dX12_shoot_189 rfl rfl ?_
      revert hf; refine zbi (fun x8 e_x8 hf => ?_)
      refine zq_getR kg_490 dX12_shoot_190 e_x8 ?_
      refine zr_bipush (v := (122 : Int32)) dX12_shoot_193 (by decide) ?_
      revert hf; refine zbi (fun x9 e_x9 hf => ?_)
      refine zq_iald dX12_shoot_195 e_x9 ?_
      refine zr_goto (tgt := 237) dX12_shoot_196 (by decide) ?_
      refine zr_forget 6 (L' := [some (zr (some l0)), some (zi l1), some (zi l2), some (zi l3), some (zi l4), some (zi l5), none]) rfl ?_
      exact s_X12_shoot_237 hg N _ hk87 l0 l1 l2 l3 l4 l5 x9 l5 x1 h r h' hf
    · rw [if_neg hc2] at hf
      refine zr_icne_t (tgt := 199) dX12_shoot_186 (by decide) hc2 ?_
      refine zr_iload (x := l6) dX12_shoot_199 rfl ?_
      refine zr_iconst (v := (3 : Int32)) dX12_shoot_201 (by decide) ?_
      by_cases hc3 : l6 = (3 : Int32)
      · rw [if_pos hc3] at hf
        refine zr_icne_f 215 dX12_shoot_202 (by decide) hc3 ?_
        refine zr_aload_n (v := .inl (some l0)) dX12_shoot_205 rfl rfl ?_
        revert hf; refine zbi (fun x6 e_x6 hf => ?_)
        refine zq_getR kg_490 dX12_shoot_206 e_x6 ?_
        refine zr_bipush (v := (123 : Int32)) dX12_shoot_209 (by decide) ?_
        revert hf; refine zbi (fun x7 e_x7 hf => ?_)
        refine zq_iald dX12_shoot_211 e_x7 ?_
        refine zr_goto (tgt := 237) dX12_shoot_212 (by decide) ?_
        refine zr_forget 6 (L' := [some (zr (some l0)), some (zi l1), some (zi l2), some (zi l3), some (zi l4), some (zi l5), none]) rfl ?_
        exact s_X12_shoot_237 hg N _ hk87 l0 l1 l2 l3 l4 l5 x7 l5 x1 h r h' hf
      · rw [if_neg hc3] at hf
        refine zr_icne_t (tgt := 215) dX12_shoot_202 (by decide) hc3 ?_
        refine zr_iload (x := l6) dX12_shoot_215 rfl ?_
        refine zr_iconst (v := (4 : Int32)) dX12_shoot_217 (by decide) ?_
        by_cases hc4 : l6 = (4 : Int32)
        · rw [if_pos hc4] at hf
          refine zr_icne_f 236 dX12_shoot_218 (by decide) hc4 ?_
          refine zr_aload_n (v := .inl (some l0)) dX12_shoot_221 rfl rfl ?_
          revert hf; refine zbi (fun x2 e_x2 hf => ?_)
          refine zq_getR kg_611 dX12_shoot_222 e_x2 ?_
          refine zr_aload_n (v := .inl (some l0)) dX12_shoot_225 rfl rfl ?_
          revert hf; refine zbi (fun x3 e_x3 hf => ?_)
          refine zq_getR kg_606 dX12_shoot_226 e_x3 ?_
          refine zr_iload (x := l5) dX12_shoot_229 rfl ?_
          revert hf; refine zbi (fun x4 e_x4 hf => ?_)
          refine zq_iald dX12_shoot_231 e_x4 ?_
          revert hf; refine zbi (fun x5 e_x5 hf => ?_)
          refine zq_iald dX12_shoot_232 e_x5 ?_
          refine zr_goto (tgt := 237) dX12_shoot_233 (by decide) ?_
          refine zr_forget 6 (L' := [some (zr (some l0)), some (zi l1), some (zi l2), some (zi l3), some (zi l4), some (zi l5), none]) rfl ?_
          exact s_X12_shoot_237 hg N _ hk87 l0 l1 l2 l3 l4 l5 x5 l5 x1 h r h' hf
        · rw [if_neg hc4] at hf
          refine zr_icne_t (tgt := 236) dX12_shoot_218 (by decide) hc4 ?_
          refine zr_iconst (v := (0 : Int32)) dX12_shoot_236 (by decide) ?_
          refine zr_forget 6 (L' := [some (zr (some l0)), some (zi l1), some (zi l2), some (zi l3), some (zi l4), some (zi l5), none]) rfl ?_
          exact s_X12_shoot_237 hg N _ hk87 l0 l1 l2 l3 l4 l5 (0 : Int32) l5 x1 h r h' hf
def f_X12_shoot_279 (N : Nat) : Nat → Nat → Int32 → Int32 → Int32 → Int32 → Int32 → zH → Option (Int32 × zH)
  | 0, _, _, _, _, _, _, _ => none
  | n + 1, l0, l1, l2, l4, l5, l6, h => if l2 ≤ l6 then (zgR h 12 (some l0) 0).bind fun x1 => (zld h 0 x1 ((141 : Int32) + l1)).bind fun x2 => (zst h 0 x1 ((141 : Int32) + l1) (x2 + (1 : Int32))).bind fun h1 => some (l4, h1) else (zgR h 12 (some l0) 0).bind fun x3 => (zgR h 12 (some l0) 27).bind fun x4 => (zld h 0 x4 l6).bind fun x5 => (zst h 0 x3 ((((157 : Int32) + ((288 : Int32) * l1)) + l5) + l6) x5).bind fun h2 => f_X12_shoot_279 N n l0 l1 l2 l4 l5 (l6 + (1 : Int32)) h2
set_option maxHeartbeats 4000000 in
set_option maxRecDepth 100000 in
theorem s_X12_shoot_279 {g : zG} (hg : g.2.1.map (fun q => q.2) = zty) {h0 : zH} (N : Nat) : ∀ (n : Nat) (l0 : Nat) (l1 : Int32) (l2 : Int32) (l4 : Int32) (l5 : Int32) (l6 : Int32) (h : zH) (r : Int32) (h' : zH), f_X12_shoot_279 N n l0 l1 l2 l4 l5 l6 h = some (r, h') → zR g jX12_shoot h0 279 [some (zr (some l0)), some (zi l1), some (zi l2), none, some (zi l4), some (zi l5), some (zi l6)] [] h (some (zi r)) h' := by
  intro n
  induction n with
  | zero =>
    intro l0 l1 l2 l4 l5 l6 h r h' hf
    cases hf
  | succ n ih =>
    intro l0 l1 l2 l4 l5 l6 h r h' hf
    rw [f_X12_shoot_279] at hf
    refine zr_iload (x := l6) dX12_shoot_279 rfl ?_
    refine zr_iload_n (x := l2) dX12_shoot_281 rfl rfl ?_
    by_cases hc1 : l2 ≤ l6
    · rw [if_pos hc1] at hf
      refine zr_icge_t (tgt := 318) dX12_shoot_282 (by decide) hc1 ?_
      refine zr_aload_n (v := .inl (some l0)) dX12_shoot_318 rfl rfl ?_
      revert hf; refine zbi (fun x1 e_x1 hf => ?_)
      refine zq_getR kg_490 dX12_shoot_319 e_x1 ?_
      refine zr_sipush (v := (141 : Int32)) dX12_shoot_322 (by decide) ?_
      refine zr_iload_n (x := l1) dX12_shoot_325 rfl rfl ?_
      refine zr_iadd dX12_shoot_326 ?_
      refine zr_dup2 dX12_shoot_327 ?_
      revert hf; refine zbi (fun x2 e_x2 hf => ?_)
      refine zq_iald dX12_shoot_328 e_x2 ?_
      refine zr_iconst (v := (1 : Int32)) dX12_shoot_329 (by decide) ?_
      refine zr_iadd dX12_shoot_330 ?_
      revert hf; refine zbi (fun h1 e_h1 hf => ?_)
      refine zq_iast dX12_shoot_331 e_h1 ?_
      refine zr_iload (x := l4) dX12_shoot_332 rfl ?_
      cases hf
      exact zr_ret _ rfl dX12_shoot_334
    · rw [if_neg hc1] at hf
      refine zr_icge_f 318 dX12_shoot_282 (by decide) hc1 ?_
      refine zr_aload_n (v := .inl (some l0)) dX12_shoot_285 rfl rfl ?_
      revert hf; refine zbi (fun x3 e_x3 hf => ?_)
      refine zq_getR kg_490 dX12_shoot_286 e_x3 ?_
      refine zr_sipush (v := (157 : Int32)) dX12_shoot_289 (by decide) ?_
      refine zr_sipush (v := (288 : Int32)) dX12_shoot_292 (by decide) ?_
      refine zr_iload_n (x := l1) dX12_shoot_295 rfl rfl ?_
      refine zr_imul dX12_shoot_296 ?_
      refine zr_iadd dX12_shoot_297 ?_
      refine zr_iload (x := l5) dX12_shoot_298 rfl ?_
      refine zr_iadd dX12_shoot_300 ?_
      refine zr_iload (x := l6) dX12_shoot_301 rfl ?_
      refine zr_iadd dX12_shoot_303 ?_
      refine zr_aload_n (v := .inl (some l0)) dX12_shoot_304 rfl rfl ?_
      revert hf; refine zbi (fun x4 e_x4 hf => ?_)
      refine zq_getR kg_611 dX12_shoot_305 e_x4 ?_
      refine zr_iload (x := l6) dX12_shoot_308 rfl ?_
      revert hf; refine zbi (fun x5 e_x5 hf => ?_)
      refine zq_iald dX12_shoot_310 e_x5 ?_
      revert hf; refine zbi (fun h2 e_h2 hf => ?_)
      refine zq_iast dX12_shoot_311 e_h2 ?_
      refine zq_iinc (x := l6) (y := (1 : Int32)) (L' := [some (zr (some l0)), some (zi l1), some (zi l2), none, some (zi l4), some (zi l5), some (zi (l6 + (1 : Int32)))]) dX12_shoot_312 rfl (by decide) (by decide) rfl ?_
      refine zr_goto (tgt := 279) dX12_shoot_315 (by decide) ?_
      exact ih l0 l1 l2 l4 l5 (l6 + (1 : Int32)) h2 r h' hf
def f_X12_shoot_87 (N : Nat) : Nat → Nat → Int32 → Int32 → Int32 → Int32 → Int32 → zH → Option (Int32 × zH)
  | 0, _, _, _, _, _, _, _ => none
  | n + 1, l0, l1, l2, l3, l4, l5, h => if l2 ≤ l5 then (zck h 12 (some l0)).bind fun q1 => (f_X12_keeps N q1 h).bind fun h1 => (zgR h1 12 (some l0) 0).bind fun x1 => (zld h1 0 x1 ((141 : Int32) + l1)).bind fun x2 => (zck h1 12 (some l0)).bind fun q2 => (f_X12_arrowsOf N q2 x2 h1).bind fun x3 => f_X12_shoot_279 N N l0 l1 l2 l4 x3 (0 : Int32) h1 else (zgR h 12 (some l0) 24).bind fun x4 => (zld h 0 x4 l5).bind fun x5 => if x5 = (4 : Int32) then (zgR h 12 (some l0) 25).bind fun x6 => (zld h 0 x6 l5).bind fun x7 => if l5 ≤ x7 then some (((-3) : Int32), h) else (zgR h 12 (some l0) 24).bind fun x8 => (zgR h 12 (some l0) 25).bind fun x9 => (zld h 0 x9 l5).bind fun x10 => (zld h 0 x8 x10).bind fun x11 => if x11 = (1 : Int32) then some (((-3) : Int32), h) else f_X12_shoot_139 N (fun l0 l1 l2 l3 l4 l5 h => f_X12_shoot_87 N n l0 l1 l2 l3 l4 l5 h) l0 l1 l2 l3 l4 l5 x5 h else f_X12_shoot_139 N (fun l0 l1 l2 l3 l4 l5 h => f_X12_shoot_87 N n l0 l1 l2 l3 l4 l5 h) l0 l1 l2 l3 l4 l5 x5 h
set_option maxHeartbeats 4000000 in
set_option maxRecDepth 100000 in
theorem s_X12_shoot_87 {g : zG} (hg : g.2.1.map (fun q => q.2) = zty) {h0 : zH} (N : Nat) : ∀ (n : Nat) (l0 : Nat) (l1 : Int32) (l2 : Int32) (l3 : Int32) (l4 : Int32) (l5 : Int32) (h : zH) (r : Int32) (h' : zH), f_X12_shoot_87 N n l0 l1 l2 l3 l4 l5 h = some (r, h') → zR g jX12_shoot h0 87 [some (zr (some l0)), some (zi l1), some (zi l2), some (zi l3), some (zi l4), some (zi l5), none] [] h (some (zi r)) h' := by
  intro n
  induction n with
  | zero =>
    intro l0 l1 l2 l3 l4 l5 h r h' hf
    cases hf
  | succ n ih =>
    intro l0 l1 l2 l3 l4 l5 h r h' hf
    rw [f_X12_shoot_87] at hf
    refine zr_iload (x := l5) dX12_shoot_87 rfl ?_
    refine zr_iload_n (x := l2) dX12_shoot_89 rfl rfl ?_
    by_cases hc1 : l2 ≤ l5
    · rw [if_pos hc1] at hf
      refine zr_icge_t (tgt := 256) dX12_shoot_90 (by decide) hc1 ?_
      refine zr_aload_n (v := .inl (some l0)) dX12_shoot_256 rfl rfl ?_
      revert hf; refine zbi (fun q1 e_q1 hf => ?_)
      revert hf; refine zbi (fun h1 e_h1 hf => ?_)
      refine zq_callV (J' := jX12_keeps) (as := []) (rest := []) (r1 := none) (q := (RX12, TX12, 31)) kw_674 km_X12_keeps kt_614 dX12_shoot_257 rfl (Nat.le_of_ble_eq_true rfl) rfl rfl e_q1 rfl (c_X12_keeps hg e_h1) ?_
      refine zr_aload_n (v := .inl (some l0)) dX12_shoot_260 rfl rfl ?_
      refine zr_aload_n (v := .inl (some l0)) dX12_shoot_261 rfl rfl ?_
      revert hf; refine zbi (fun x1 e_x1 hf => ?_)
      refine zq_getR kg_490 dX12_shoot_262 e_x1 ?_
      refine zr_sipush (v := (141 : Int32)) dX12_shoot_265 (by decide) ?_
      refine zr_iload_n (x := l1) dX12_shoot_268 rfl rfl ?_
      refine zr_iadd dX12_shoot_269 ?_
      revert hf; refine zbi (fun x2 e_x2 hf => ?_)
      refine zq_iald dX12_shoot_270 e_x2 ?_
      revert hf; refine zbi (fun q2 e_q2 hf => ?_)
      revert hf; refine zbi (fun x3 e_x3 hf => ?_)
      refine zq_callV (J' := jX12_arrowsOf) (as := [zi x2]) (rest := []) (r1 := (some (zi x3))) (q := (RX12, TX12, 31)) kw_690 km_X12_arrowsOf kt_615 dX12_shoot_271 rfl (Nat.le_of_ble_eq_true rfl) rfl rfl e_q2 rfl (c_X12_arrowsOf hg e_x3) ?_
      refine zq_istore (x := x3) (L' := [some (zr (some l0)), some (zi l1), some (zi l2), some (zi l3), some (zi l4), some (zi x3), none]) dX12_shoot_274 (by decide) rfl ?_
      refine zr_iconst (v := (0 : Int32)) dX12_shoot_276 (by decide) ?_
      refine zq_istore (x := (0 : Int32)) (L' := [some (zr (some l0)), some (zi l1), some (zi l2), some (zi l3), some (zi l4), some (zi x3), some (zi (0 : Int32))]) dX12_shoot_277 (by decide) rfl ?_
      refine zr_forget 3 (L' := [some (zr (some l0)), some (zi l1), some (zi l2), none, some (zi l4), some (zi x3), some (zi (0 : Int32))]) rfl ?_
      exact s_X12_shoot_279 hg N N l0 l1 l2 l4 x3 (0 : Int32) h1 r h' hf
    · rw [if_neg hc1] at hf
      refine zr_icge_f 256 dX12_shoot_90 (by decide) hc1 ?_
      refine zr_aload_n (v := .inl (some l0)) dX12_shoot_93 rfl rfl ?_
      revert hf; refine zbi (fun x4 e_x4 hf => ?_)
      refine zq_getR kg_604 dX12_shoot_94 e_x4 ?_
      refine zr_iload (x := l5) dX12_shoot_97 rfl ?_
      revert hf; refine zbi (fun x5 e_x5 hf => ?_)
      refine zq_iald dX12_shoot_99 e_x5 ?_
      refine zq_istore (x := x5) (L' := [some (zr (some l0)), some (zi l1), some (zi l2), some (zi l3), some (zi l4), some (zi l5), some (zi x5)]) dX12_shoot_100 (by decide) rfl ?_
      refine zr_iload (x := x5) dX12_shoot_102 rfl ?_
      refine zr_iconst (v := (4 : Int32)) dX12_shoot_104 (by decide) ?_
      by_cases hc2 : x5 = (4 : Int32)
      · rw [if_pos hc2] at hf
        refine zr_icne_f 139 dX12_shoot_105 (by decide) hc2 ?_
        refine zr_aload_n (v := .inl (some l0)) dX12_shoot_108 rfl rfl ?_
        revert hf; refine zbi (fun x6 e_x6 hf => ?_)
        refine zq_getR kg_606 dX12_shoot_109 e_x6 ?_
        refine zr_iload (x := l5) dX12_shoot_112 rfl ?_
        revert hf; refine zbi (fun x7 e_x7 hf => ?_)
        refine zq_iald dX12_shoot_114 e_x7 ?_
        refine zr_iload (x := l5) dX12_shoot_115 rfl ?_
        by_cases hc3 : l5 ≤ x7
        · rw [if_pos hc3] at hf
          refine zr_icge_t (tgt := 136) dX12_shoot_117 (by decide) hc3 ?_
          refine zr_bipush (v := ((-3) : Int32)) dX12_shoot_136 (by decide) ?_
          cases hf
          exact zr_ret _ rfl dX12_shoot_138
        · rw [if_neg hc3] at hf
          refine zr_icge_f 136 dX12_shoot_117 (by decide) hc3 ?_
          refine zr_aload_n (v := .inl (some l0)) dX12_shoot_120 rfl rfl ?_
          revert hf; refine zbi (fun x8 e_x8 hf => ?_)
          refine zq_getR kg_604 dX12_shoot_121 e_x8 ?_
          refine zr_aload_n (v := .inl (some l0)) dX12_shoot_124 rfl rfl ?_
          revert hf; refine zbi (fun x9 e_x9 hf => ?_)
          refine zq_getR kg_606 dX12_shoot_125 e_x9 ?_
          refine zr_iload (x := l5) dX12_shoot_128 rfl ?_
          revert hf; refine zbi (fun x10 e_x10 hf => ?_)
          refine zq_iald dX12_shoot_130 e_x10 ?_
          revert hf; refine zbi (fun x11 e_x11 hf => ?_)
          refine zq_iald dX12_shoot_131 e_x11 ?_
          refine zr_iconst (v := (1 : Int32)) dX12_shoot_132 (by decide) ?_
          by_cases hc4 : x11 = (1 : Int32)
          · rw [if_pos hc4] at hf
            refine zr_icne_f 139 dX12_shoot_133 (by decide) hc4 ?_
            refine zr_bipush (v := ((-3) : Int32)) dX12_shoot_136 (by decide) ?_
            cases hf
            exact zr_ret _ rfl dX12_shoot_138
          · rw [if_neg hc4] at hf
            refine zr_icne_t (tgt := 139) dX12_shoot_133 (by decide) hc4 ?_
            exact s_X12_shoot_139 hg N _ ih l0 l1 l2 l3 l4 l5 x5 h r h' hf
      · rw [if_neg hc2] at hf
        refine zr_icne_t (tgt := 139) dX12_shoot_105 (by decide) hc2 ?_
        exact s_X12_shoot_139 hg N _ ih l0 l1 l2 l3 l4 l5 x5 h r h' hf
def f_X12_shoot (N : Nat) (l0 : Nat) (l1 : Int32) (h : zH) : Option (Int32 × zH) := (zgI h 12 (some l0) 23).bind fun x1 => (zpu h 12 (some l0) 23 (zi (0 : Int32))).bind fun h1 => (zck h1 12 (some l0)).bind fun q1 => (f_X12_isArcher N q1 l1 h1).bind fun x2 => if x2 = 0 then some (((-1) : Int32), h1) else (zgR h1 12 (some l0) 0).bind fun x3 => (zld h1 0 x3 (0 : Int32)).bind fun x4 => if x4 = 0 then some (((-1) : Int32), h1) else (zgR h1 12 (some l0) 0).bind fun x5 => (zld h1 0 x5 ((141 : Int32) + l1)).bind fun x6 => (zck h1 12 (some l0)).bind fun q2 => (f_X12_of N q2 (1 : Int32) h1).bind fun x7 => if x6 = x7 then some (((-1) : Int32), h1) else (zgR h1 12 (some l0) 0).bind fun x8 => (zld h1 0 x8 ((141 : Int32) + l1)).bind fun x9 => (zck h1 12 (some l0)).bind fun q3 => (f_X12_legOf N q3 x9 h1).bind fun x10 => (zgR h1 12 (some l0) 0).bind fun x11 => (zld h1 0 x11 (((2 : Int32) + ((3 : Int32) * x10)) + (1 : Int32))).bind fun x12 => if x1 = x12 then f_X12_shoot_87 N N l0 l1 x1 x10 (0 : Int32) (0 : Int32) h1 else some (((-2) : Int32), h1)
set_option maxHeartbeats 4000000 in
set_option maxRecDepth 100000 in
theorem s_X12_shoot {g : zG} (hg : g.2.1.map (fun q => q.2) = zty) {h0 : zH} (N : Nat) (l0 : Nat) (l1 : Int32) (h : zH) (r : Int32) (h' : zH) (hf : f_X12_shoot N l0 l1 h = some (r, h')) : zR g jX12_shoot h0 0 [some (zr (some l0)), some (zi l1), none, none, none, none, none] [] h (some (zi r)) h' := by
  unfold f_X12_shoot at hf
  refine zr_aload_n (v := .inl (some l0)) dX12_shoot_0 rfl rfl ?_
  revert hf; refine zbi (fun x1 e_x1 hf => ?_)
  refine zq_getI kg_605 dX12_shoot_1 e_x1 ?_
  refine zq_istore_n (x := x1) (L' := [some (zr (some l0)), some (zi l1), some (zi x1), none, none, none, none]) dX12_shoot_4 rfl (by decide) rfl ?_
  refine zr_aload_n (v := .inl (some l0)) dX12_shoot_5 rfl rfl ?_
  refine zr_iconst (v := (0 : Int32)) dX12_shoot_6 (by decide) ?_
  revert hf; refine zbi (fun h1 e_h1 hf => ?_)
  refine zq_put (kp_608 _) dX12_shoot_7 (zn_i _) e_h1 ?_
  refine zr_aload_n (v := .inl (some l0)) dX12_shoot_10 rfl rfl ?_
  refine zr_iload_n (x := l1) dX12_shoot_11 rfl rfl ?_
  revert hf; refine zbi (fun q1 e_q1 hf => ?_)
  revert hf; refine zbi (fun x2 e_x2 hf => ?_)
  refine zq_callV (J' := jX12_isArcher) (as := [zi l1]) (rest := []) (r1 := (some (zi x2))) (q := (RX12, TX12, 31)) kw_682 km_X12_isArcher kt_616 dX12_shoot_12 rfl (Nat.le_of_ble_eq_true rfl) rfl rfl e_q1 rfl (c_X12_isArcher hg e_x2) ?_
  by_cases hc1 : x2 = 0
  · rw [if_pos hc1] at hf
    refine zr_ifeq_t (tgt := 45) dX12_shoot_15 (by decide) hc1 ?_
    refine zr_iconst (v := ((-1) : Int32)) dX12_shoot_45 (by decide) ?_
    cases hf
    exact zr_ret _ rfl dX12_shoot_46
  · rw [if_neg hc1] at hf
    refine zr_ifeq_f 45 dX12_shoot_15 (by decide) hc1 ?_
    refine zr_aload_n (v := .inl (some l0)) dX12_shoot_18 rfl rfl ?_
    revert hf; refine zbi (fun x3 e_x3 hf => ?_)
    refine zq_getR kg_490 dX12_shoot_19 e_x3 ?_
    refine zr_iconst (v := (0 : Int32)) dX12_shoot_22 (by decide) ?_
    revert hf; refine zbi (fun x4 e_x4 hf => ?_)
    refine zq_iald dX12_shoot_23 e_x4 ?_
    by_cases hc2 : x4 = 0
    · rw [if_pos hc2] at hf
      refine zr_ifeq_t (tgt := 45) dX12_shoot_24 (by decide) hc2 ?_
      refine zr_iconst (v := ((-1) : Int32)) dX12_shoot_45 (by decide) ?_
      cases hf
      exact zr_ret _ rfl dX12_shoot_46
    · rw [if_neg hc2] at hf
      refine zr_ifeq_f 45 dX12_shoot_24 (by decide) hc2 ?_
      refine zr_aload_n (v := .inl (some l0)) dX12_shoot_27 rfl rfl ?_
      revert hf; refine zbi (fun x5 e_x5 hf => ?_)
      refine zq_getR kg_490 dX12_shoot_28 e_x5 ?_
      refine zr_sipush (v := (141 : Int32)) dX12_shoot_31 (by decide) ?_
      refine zr_iload_n (x := l1) dX12_shoot_34 rfl rfl ?_
      refine zr_iadd dX12_shoot_35 ?_
      revert hf; refine zbi (fun x6 e_x6 hf => ?_)
      refine zq_iald dX12_shoot_36 e_x6 ?_
      refine zr_aload_n (v := .inl (some l0)) dX12_shoot_37 rfl rfl ?_
      refine zr_iconst (v := (1 : Int32)) dX12_shoot_38 (by decide) ?_
      revert hf; refine zbi (fun q2 e_q2 hf => ?_)
      revert hf; refine zbi (fun x7 e_x7 hf => ?_)
      refine zq_callV (J' := jX12_of) (as := [zi (1 : Int32)]) (rest := [zi x6]) (r1 := (some (zi x7))) (q := (RX12, TX12, 31)) kw_669 km_X12_of kt_617 dX12_shoot_39 rfl (Nat.le_of_ble_eq_true rfl) rfl rfl e_q2 rfl (c_X12_of hg e_x7) ?_
      by_cases hc3 : x6 = x7
      · rw [if_pos hc3] at hf
        refine zr_icne_f 47 dX12_shoot_42 (by decide) hc3 ?_
        refine zr_iconst (v := ((-1) : Int32)) dX12_shoot_45 (by decide) ?_
        cases hf
        exact zr_ret _ rfl dX12_shoot_46
      · rw [if_neg hc3] at hf
        refine zr_icne_t (tgt := 47) dX12_shoot_42 (by decide) hc3 ?_
        refine zr_aload_n (v := .inl (some l0)) dX12_shoot_47 rfl rfl ?_
        refine zr_aload_n (v := .inl (some l0)) dX12_shoot_48 rfl rfl ?_
        revert hf; refine zbi (fun x8 e_x8 hf => ?_)
        refine zq_getR kg_490 dX12_shoot_49 e_x8 ?_
        refine zr_sipush (v := (141 : Int32)) dX12_shoot_52 (by decide) ?_
        refine zr_iload_n (x := l1) dX12_shoot_55 rfl rfl ?_
        refine zr_iadd dX12_shoot_56 ?_
        revert hf; refine zbi (fun x9 e_x9 hf => ?_)
        refine zq_iald dX12_shoot_57 e_x9 ?_
        revert hf; refine zbi (fun q3 e_q3 hf => ?_)
        revert hf; refine zbi (fun x10 e_x10 hf => ?_)
        refine zq_callV (J' := jX12_legOf) (as := [zi x9]) (rest := []) (r1 := (some (zi x10))) (q := (RX12, TX12, 31)) kw_686 km_X12_legOf kt_618 dX12_shoot_58 rfl (Nat.le_of_ble_eq_true rfl) rfl rfl e_q3 rfl (c_X12_legOf hg e_x10) ?_
        refine zq_istore_n (x := x10) (L' := [some (zr (some l0)), some (zi l1), some (zi x1), some (zi x10), none, none, none]) dX12_shoot_61 rfl (by decide) rfl ?_
        refine zr_iload_n (x := x1) dX12_shoot_62 rfl rfl ?_
        refine zr_aload_n (v := .inl (some l0)) dX12_shoot_63 rfl rfl ?_
        revert hf; refine zbi (fun x11 e_x11 hf => ?_)
        refine zq_getR kg_490 dX12_shoot_64 e_x11 ?_
        refine zr_iconst (v := (2 : Int32)) dX12_shoot_67 (by decide) ?_
        refine zr_iconst (v := (3 : Int32)) dX12_shoot_68 (by decide) ?_
        refine zr_iload_n (x := x10) dX12_shoot_69 rfl rfl ?_
        refine zr_imul dX12_shoot_70 ?_
        refine zr_iadd dX12_shoot_71 ?_
        refine zr_iconst (v := (1 : Int32)) dX12_shoot_72 (by decide) ?_
        refine zr_iadd dX12_shoot_73 ?_
        revert hf; refine zbi (fun x12 e_x12 hf => ?_)
        refine zq_iald dX12_shoot_74 e_x12 ?_
        by_cases hc4 : x1 = x12
        · rw [if_pos hc4] at hf
          refine zr_iceq_t (tgt := 81) dX12_shoot_75 (by decide) hc4 ?_
          refine zr_iconst (v := (0 : Int32)) dX12_shoot_81 (by decide) ?_
          refine zq_istore (x := (0 : Int32)) (L' := [some (zr (some l0)), some (zi l1), some (zi x1), some (zi x10), some (zi (0 : Int32)), none, none]) dX12_shoot_82 (by decide) rfl ?_
          refine zr_iconst (v := (0 : Int32)) dX12_shoot_84 (by decide) ?_
          refine zq_istore (x := (0 : Int32)) (L' := [some (zr (some l0)), some (zi l1), some (zi x1), some (zi x10), some (zi (0 : Int32)), some (zi (0 : Int32)), none]) dX12_shoot_85 (by decide) rfl ?_
          exact s_X12_shoot_87 hg N N l0 l1 x1 x10 (0 : Int32) (0 : Int32) h1 r h' hf
        · rw [if_neg hc4] at hf
          refine zr_iceq_f 81 dX12_shoot_75 (by decide) hc4 ?_
          refine zr_bipush (v := ((-2) : Int32)) dX12_shoot_78 (by decide) ?_
          cases hf
          exact zr_ret _ rfl dX12_shoot_80
theorem c_X12_shoot {g : zG} (hg : g.2.1.map (fun q => q.2) = zty) {N : Nat} {l0 : Nat} {l1 : Int32} {h : zH} {r : Int32} {h' : zH} (hf : f_X12_shoot N l0 l1 h = some (r, h')) : zCa g jX12_shoot [zr (some l0), zi l1] h (some (zi r)) h' :=
  zCa.of hg (by decide +kernel) (Nat.le_of_ble_eq_true rfl) (s_X12_shoot hg N l0 l1 h r h' hf)
theorem dX12_value_0 : decode cX12_value 0 = .ok (.aload_n 0, 1) := by decide +kernel
theorem dX12_value_1 : decode cX12_value 1 = .ok (.iload_n 1, 1) := by decide +kernel
theorem dX12_value_2 : decode cX12_value 2 = .ok (.invokevirtual 151, 3) := by decide +kernel
theorem dX12_value_5 : decode cX12_value 5 = .ok (.ifCond .eq 44, 3) := by decide +kernel
theorem dX12_value_8 : decode cX12_value 8 = .ok (.iload_n 2, 1) := by decide +kernel
theorem dX12_value_9 : decode cX12_value 9 = .ok (.ifCond .lt 40, 3) := by decide +kernel
theorem dX12_value_12 : decode cX12_value 12 = .ok (.iload_n 2, 1) := by decide +kernel
theorem dX12_value_13 : decode cX12_value 13 = .ok (.aload_n 0, 1) := by decide +kernel
theorem dX12_value_14 : decode cX12_value 14 = .ok (.aload_n 0, 1) := by decide +kernel
theorem dX12_value_15 : decode cX12_value 15 = .ok (.getfield 8, 3) := by decide +kernel
theorem dX12_value_18 : decode cX12_value 18 = .ok (.sipush 141, 3) := by decide +kernel
theorem dX12_value_21 : decode cX12_value 21 = .ok (.iload_n 1, 1) := by decide +kernel
theorem dX12_value_22 : decode cX12_value 22 = .ok (.iadd, 1) := by decide +kernel
theorem dX12_value_23 : decode cX12_value 23 = .ok (.iaload, 1) := by decide +kernel
theorem dX12_value_24 : decode cX12_value 24 = .ok (.invokevirtual 157, 3) := by decide +kernel
theorem dX12_value_27 : decode cX12_value 27 = .ok (.if_icmp .ge 22, 3) := by decide +kernel
theorem dX12_value_30 : decode cX12_value 30 = .ok (.aload_n 0, 1) := by decide +kernel
theorem dX12_value_31 : decode cX12_value 31 = .ok (.getfield 8, 3) := by decide +kernel
theorem dX12_value_34 : decode cX12_value 34 = .ok (.sipush 157, 3) := by decide +kernel
theorem dX12_value_37 : decode cX12_value 37 = .ok (.sipush 288, 3) := by decide +kernel
theorem dX12_value_40 : decode cX12_value 40 = .ok (.iload_n 1, 1) := by decide +kernel
theorem dX12_value_41 : decode cX12_value 41 = .ok (.imul, 1) := by decide +kernel
theorem dX12_value_42 : decode cX12_value 42 = .ok (.iadd, 1) := by decide +kernel
theorem dX12_value_43 : decode cX12_value 43 = .ok (.iload_n 2, 1) := by decide +kernel
theorem dX12_value_44 : decode cX12_value 44 = .ok (.iadd, 1) := by decide +kernel
theorem dX12_value_45 : decode cX12_value 45 = .ok (.iaload, 1) := by decide +kernel
theorem dX12_value_46 : decode cX12_value 46 = .ok (.goto 4, 3) := by decide +kernel
theorem dX12_value_49 : decode cX12_value 49 = .ok (.iconst (-1), 1) := by decide +kernel
theorem dX12_value_50 : decode cX12_value 50 = .ok (.ireturn, 1) := by decide +kernel
def f_X12_value (N : Nat) (l0 : Nat) (l1 : Int32) (l2 : Int32) (h : zH) : Option Int32 := (zck h 12 (some l0)).bind fun q1 => (f_X12_isArcher N q1 l1 h).bind fun x1 => if x1 = 0 then some ((-1) : Int32) else if l2 < 0 then some ((-1) : Int32) else (zgR h 12 (some l0) 0).bind fun x2 => (zld h 0 x2 ((141 : Int32) + l1)).bind fun x3 => (zck h 12 (some l0)).bind fun q2 => (f_X12_arrowsOf N q2 x3 h).bind fun x4 => if x4 ≤ l2 then some ((-1) : Int32) else (zgR h 12 (some l0) 0).bind fun x5 => (zld h 0 x5 (((157 : Int32) + ((288 : Int32) * l1)) + l2)).bind fun x6 => some x6
set_option maxHeartbeats 4000000 in
set_option maxRecDepth 100000 in
theorem s_X12_value {g : zG} (hg : g.2.1.map (fun q => q.2) = zty) {h0 : zH} (N : Nat) (l0 : Nat) (l1 : Int32) (l2 : Int32) (h : zH) (r : Int32) (hf : f_X12_value N l0 l1 l2 h = some r) : zR g jX12_value h0 0 [some (zr (some l0)), some (zi l1), some (zi l2)] [] h (some (zi r)) h := by
  unfold f_X12_value at hf
  refine zr_aload_n (v := .inl (some l0)) dX12_value_0 rfl rfl ?_
  refine zr_iload_n (x := l1) dX12_value_1 rfl rfl ?_
  revert hf; refine zbi (fun q1 e_q1 hf => ?_)
  revert hf; refine zbi (fun x1 e_x1 hf => ?_)
  refine zq_callV (J' := jX12_isArcher) (as := [zi l1]) (rest := []) (r1 := (some (zi x1))) (q := (RX12, TX12, 31)) kw_682 km_X12_isArcher kt_619 dX12_value_2 rfl (Nat.le_of_ble_eq_true rfl) rfl rfl e_q1 rfl (c_X12_isArcher hg e_x1) ?_
  by_cases hc1 : x1 = 0
  · rw [if_pos hc1] at hf
    refine zr_ifeq_t (tgt := 49) dX12_value_5 (by decide) hc1 ?_
    refine zr_iconst (v := ((-1) : Int32)) dX12_value_49 (by decide) ?_
    cases hf
    exact zr_ret _ rfl dX12_value_50
  · rw [if_neg hc1] at hf
    refine zr_ifeq_f 49 dX12_value_5 (by decide) hc1 ?_
    refine zr_iload_n (x := l2) dX12_value_8 rfl rfl ?_
    by_cases hc2 : l2 < 0
    · rw [if_pos hc2] at hf
      refine zr_iflt_t (tgt := 49) dX12_value_9 (by decide) hc2 ?_
      refine zr_iconst (v := ((-1) : Int32)) dX12_value_49 (by decide) ?_
      cases hf
      exact zr_ret _ rfl dX12_value_50
    · rw [if_neg hc2] at hf
      refine zr_iflt_f 49 dX12_value_9 (by decide) hc2 ?_
      refine zr_iload_n (x := l2) dX12_value_12 rfl rfl ?_
      refine zr_aload_n (v := .inl (some l0)) dX12_value_13 rfl rfl ?_
      refine zr_aload_n (v := .inl (some l0)) dX12_value_14 rfl rfl ?_
      revert hf; refine zbi (fun x2 e_x2 hf => ?_)
      refine zq_getR kg_490 dX12_value_15 e_x2 ?_
      refine zr_sipush (v := (141 : Int32)) dX12_value_18 (by decide) ?_
      refine zr_iload_n (x := l1) dX12_value_21 rfl rfl ?_
      refine zr_iadd dX12_value_22 ?_
      revert hf; refine zbi (fun x3 e_x3 hf => ?_)
      refine zq_iald dX12_value_23 e_x3 ?_
      revert hf; refine zbi (fun q2 e_q2 hf => ?_)
      revert hf; refine zbi (fun x4 e_x4 hf => ?_)
      refine zq_callV (J' := jX12_arrowsOf) (as := [zi x3]) (rest := [zi l2]) (r1 := (some (zi x4))) (q := (RX12, TX12, 31)) kw_690 km_X12_arrowsOf kt_620 dX12_value_24 rfl (Nat.le_of_ble_eq_true rfl) rfl rfl e_q2 rfl (c_X12_arrowsOf hg e_x4) ?_
      by_cases hc3 : x4 ≤ l2
      · rw [if_pos hc3] at hf
        refine zr_icge_t (tgt := 49) dX12_value_27 (by decide) hc3 ?_
        refine zr_iconst (v := ((-1) : Int32)) dX12_value_49 (by decide) ?_
        cases hf
        exact zr_ret _ rfl dX12_value_50
      · rw [if_neg hc3] at hf
        refine zr_icge_f 49 dX12_value_27 (by decide) hc3 ?_
        refine zr_aload_n (v := .inl (some l0)) dX12_value_30 rfl rfl ?_
        revert hf; refine zbi (fun x5 e_x5 hf => ?_)
        refine zq_getR kg_490 dX12_value_31 e_x5 ?_
        refine zr_sipush (v := (157 : Int32)) dX12_value_34 (by decide) ?_
        refine zr_sipush (v := (288 : Int32)) dX12_value_37 (by decide) ?_
        refine zr_iload_n (x := l1) dX12_value_40 rfl rfl ?_
        refine zr_imul dX12_value_41 ?_
        refine zr_iadd dX12_value_42 ?_
        refine zr_iload_n (x := l2) dX12_value_43 rfl rfl ?_
        refine zr_iadd dX12_value_44 ?_
        revert hf; refine zbi (fun x6 e_x6 hf => ?_)
        refine zq_iald dX12_value_45 e_x6 ?_
        refine zr_goto (tgt := 50) dX12_value_46 (by decide) ?_
        cases hf
        exact zr_ret _ rfl dX12_value_50
theorem c_X12_value {g : zG} (hg : g.2.1.map (fun q => q.2) = zty) {N : Nat} {l0 : Nat} {l1 : Int32} {l2 : Int32} {h : zH} {r : Int32} (hf : f_X12_value N l0 l1 l2 h = some r) : zCa g jX12_value [zr (some l0), zi l1, zi l2] h (some (zi r)) h :=
  zCa.of hg (by decide +kernel) (Nat.le_of_ble_eq_true rfl) (s_X12_value hg N l0 l1 l2 h r hf)
theorem dX12_take_0 : decode cX12_take 0 = .ok (.aload_n 0, 1) := by decide +kernel
theorem dX12_take_1 : decode cX12_take 1 = .ok (.iload_n 1, 1) := by decide +kernel
theorem dX12_take_2 : decode cX12_take 2 = .ok (.invokevirtual 151, 3) := by decide +kernel
theorem dX12_take_5 : decode cX12_take 5 = .ok (.ifCond .eq 16, 3) := by decide +kernel
theorem dX12_take_8 : decode cX12_take 8 = .ok (.aload_n 0, 1) := by decide +kernel
theorem dX12_take_9 : decode cX12_take 9 = .ok (.getfield 8, 3) := by decide +kernel
theorem dX12_take_12 : decode cX12_take 12 = .ok (.sipush 141, 3) := by decide +kernel
theorem dX12_take_15 : decode cX12_take 15 = .ok (.iload_n 1, 1) := by decide +kernel
theorem dX12_take_16 : decode cX12_take 16 = .ok (.iadd, 1) := by decide +kernel
theorem dX12_take_17 : decode cX12_take 17 = .ok (.iaload, 1) := by decide +kernel
theorem dX12_take_18 : decode cX12_take 18 = .ok (.ifCond .ne 5, 3) := by decide +kernel
theorem dX12_take_21 : decode cX12_take 21 = .ok (.iconst (-1), 1) := by decide +kernel
theorem dX12_take_22 : decode cX12_take 22 = .ok (.ireturn, 1) := by decide +kernel
theorem dX12_take_23 : decode cX12_take 23 = .ok (.aload_n 0, 1) := by decide +kernel
theorem dX12_take_24 : decode cX12_take 24 = .ok (.invokevirtual 144, 3) := by decide +kernel
theorem dX12_take_27 : decode cX12_take 27 = .ok (.aload_n 0, 1) := by decide +kernel
theorem dX12_take_28 : decode cX12_take 28 = .ok (.getfield 8, 3) := by decide +kernel
theorem dX12_take_31 : decode cX12_take 31 = .ok (.sipush 141, 3) := by decide +kernel
theorem dX12_take_34 : decode cX12_take 34 = .ok (.iload_n 1, 1) := by decide +kernel
theorem dX12_take_35 : decode cX12_take 35 = .ok (.iadd, 1) := by decide +kernel
theorem dX12_take_36 : decode cX12_take 36 = .ok (.dup2, 1) := by decide +kernel
theorem dX12_take_37 : decode cX12_take 37 = .ok (.iaload, 1) := by decide +kernel
theorem dX12_take_38 : decode cX12_take 38 = .ok (.iconst 1, 1) := by decide +kernel
theorem dX12_take_39 : decode cX12_take 39 = .ok (.isub, 1) := by decide +kernel
theorem dX12_take_40 : decode cX12_take 40 = .ok (.iastore, 1) := by decide +kernel
theorem dX12_take_41 : decode cX12_take 41 = .ok (.aload_n 0, 1) := by decide +kernel
theorem dX12_take_42 : decode cX12_take 42 = .ok (.getfield 8, 3) := by decide +kernel
theorem dX12_take_45 : decode cX12_take 45 = .ok (.sipush 141, 3) := by decide +kernel
theorem dX12_take_48 : decode cX12_take 48 = .ok (.iload_n 1, 1) := by decide +kernel
theorem dX12_take_49 : decode cX12_take 49 = .ok (.iadd, 1) := by decide +kernel
theorem dX12_take_50 : decode cX12_take 50 = .ok (.iaload, 1) := by decide +kernel
theorem dX12_take_51 : decode cX12_take 51 = .ok (.ireturn, 1) := by decide +kernel
def f_X12_take (N : Nat) (l0 : Nat) (l1 : Int32) (h : zH) : Option (Int32 × zH) := (zck h 12 (some l0)).bind fun q1 => (f_X12_isArcher N q1 l1 h).bind fun x1 => if x1 = 0 then some (((-1) : Int32), h) else (zgR h 12 (some l0) 0).bind fun x2 => (zld h 0 x2 ((141 : Int32) + l1)).bind fun x3 => if x3 = 0 then some (((-1) : Int32), h) else (zck h 12 (some l0)).bind fun q2 => (f_X12_keeps N q2 h).bind fun h1 => (zgR h1 12 (some l0) 0).bind fun x4 => (zld h1 0 x4 ((141 : Int32) + l1)).bind fun x5 => (zst h1 0 x4 ((141 : Int32) + l1) (x5 - (1 : Int32))).bind fun h2 => (zgR h2 12 (some l0) 0).bind fun x6 => (zld h2 0 x6 ((141 : Int32) + l1)).bind fun x7 => some (x7, h2)
set_option maxHeartbeats 4000000 in
set_option maxRecDepth 100000 in
theorem s_X12_take {g : zG} (hg : g.2.1.map (fun q => q.2) = zty) {h0 : zH} (N : Nat) (l0 : Nat) (l1 : Int32) (h : zH) (r : Int32) (h' : zH) (hf : f_X12_take N l0 l1 h = some (r, h')) : zR g jX12_take h0 0 [some (zr (some l0)), some (zi l1)] [] h (some (zi r)) h' := by
  unfold f_X12_take at hf
  refine zr_aload_n (v := .inl (some l0)) dX12_take_0 rfl rfl ?_
  refine zr_iload_n (x := l1) dX12_take_1 rfl rfl ?_
  revert hf; refine zbi (fun q1 e_q1 hf => ?_)
  revert hf; refine zbi (fun x1 e_x1 hf => ?_)
  refine zq_callV (J' := jX12_isArcher) (as := [zi l1]) (rest := []) (r1 := (some (zi x1))) (q := (RX12, TX12, 31)) kw_682 km_X12_isArcher kt_621 dX12_take_2 rfl (Nat.le_of_ble_eq_true rfl) rfl rfl e_q1 rfl (c_X12_isArcher hg e_x1) ?_
  by_cases hc1 : x1 = 0
  · rw [if_pos hc1] at hf
    refine zr_ifeq_t (tgt := 21) dX12_take_5 (by decide) hc1 ?_
    refine zr_iconst (v := ((-1) : Int32)) dX12_take_21 (by decide) ?_
    cases hf
    exact zr_ret _ rfl dX12_take_22
  · rw [if_neg hc1] at hf
    refine zr_ifeq_f 21 dX12_take_5 (by decide) hc1 ?_
    refine zr_aload_n (v := .inl (some l0)) dX12_take_8 rfl rfl ?_
    revert hf; refine zbi (fun x2 e_x2 hf => ?_)
    refine zq_getR kg_490 dX12_take_9 e_x2 ?_
    refine zr_sipush (v := (141 : Int32)) dX12_take_12 (by decide) ?_
    refine zr_iload_n (x := l1) dX12_take_15 rfl rfl ?_
    refine zr_iadd dX12_take_16 ?_
    revert hf; refine zbi (fun x3 e_x3 hf => ?_)
    refine zq_iald dX12_take_17 e_x3 ?_
    by_cases hc2 : x3 = 0
    · rw [if_pos hc2] at hf
      refine zr_ifne_f 23 dX12_take_18 (by decide) hc2 ?_
      refine zr_iconst (v := ((-1) : Int32)) dX12_take_21 (by decide) ?_
      cases hf
      exact zr_ret _ rfl dX12_take_22
    · rw [if_neg hc2] at hf
      refine zr_ifne_t (tgt := 23) dX12_take_18 (by decide) hc2 ?_
      refine zr_aload_n (v := .inl (some l0)) dX12_take_23 rfl rfl ?_
      revert hf; refine zbi (fun q2 e_q2 hf => ?_)
      revert hf; refine zbi (fun h1 e_h1 hf => ?_)
      refine zq_callV (J' := jX12_keeps) (as := []) (rest := []) (r1 := none) (q := (RX12, TX12, 31)) kw_674 km_X12_keeps kt_622 dX12_take_24 rfl (Nat.le_of_ble_eq_true rfl) rfl rfl e_q2 rfl (c_X12_keeps hg e_h1) ?_
      refine zr_aload_n (v := .inl (some l0)) dX12_take_27 rfl rfl ?_
      revert hf; refine zbi (fun x4 e_x4 hf => ?_)
      refine zq_getR kg_490 dX12_take_28 e_x4 ?_
      refine zr_sipush (v := (141 : Int32)) dX12_take_31 (by decide) ?_
      refine zr_iload_n (x := l1) dX12_take_34 rfl rfl ?_
      refine zr_iadd dX12_take_35 ?_
      refine zr_dup2 dX12_take_36 ?_
      revert hf; refine zbi (fun x5 e_x5 hf => ?_)
      refine zq_iald dX12_take_37 e_x5 ?_
      refine zr_iconst (v := (1 : Int32)) dX12_take_38 (by decide) ?_
      refine zr_isub dX12_take_39 ?_
      revert hf; refine zbi (fun h2 e_h2 hf => ?_)
      refine zq_iast dX12_take_40 e_h2 ?_
      refine zr_aload_n (v := .inl (some l0)) dX12_take_41 rfl rfl ?_
      revert hf; refine zbi (fun x6 e_x6 hf => ?_)
      refine zq_getR kg_490 dX12_take_42 e_x6 ?_
      refine zr_sipush (v := (141 : Int32)) dX12_take_45 (by decide) ?_
      refine zr_iload_n (x := l1) dX12_take_48 rfl rfl ?_
      refine zr_iadd dX12_take_49 ?_
      revert hf; refine zbi (fun x7 e_x7 hf => ?_)
      refine zq_iald dX12_take_50 e_x7 ?_
      cases hf
      exact zr_ret _ rfl dX12_take_51
theorem c_X12_take {g : zG} (hg : g.2.1.map (fun q => q.2) = zty) {N : Nat} {l0 : Nat} {l1 : Int32} {h : zH} {r : Int32} {h' : zH} (hf : f_X12_take N l0 l1 h = some (r, h')) : zCa g jX12_take [zr (some l0), zi l1] h (some (zi r)) h' :=
  zCa.of hg (by decide +kernel) (Nat.le_of_ble_eq_true rfl) (s_X12_take hg N l0 l1 h r h' hf)
theorem dX12_off_0 : decode cX12_off 0 = .ok (.aload_n 0, 1) := by decide +kernel
theorem dX12_off_1 : decode cX12_off 1 = .ok (.iload_n 1, 1) := by decide +kernel
theorem dX12_off_2 : decode cX12_off 2 = .ok (.invokevirtual 151, 3) := by decide +kernel
theorem dX12_off_5 : decode cX12_off 5 = .ok (.ifCond .eq 73, 3) := by decide +kernel
theorem dX12_off_8 : decode cX12_off 8 = .ok (.aload_n 0, 1) := by decide +kernel
theorem dX12_off_9 : decode cX12_off 9 = .ok (.getfield 8, 3) := by decide +kernel
theorem dX12_off_12 : decode cX12_off 12 = .ok (.iconst 0, 1) := by decide +kernel
theorem dX12_off_13 : decode cX12_off 13 = .ok (.iaload, 1) := by decide +kernel
theorem dX12_off_14 : decode cX12_off 14 = .ok (.ifCond .eq 64, 3) := by decide +kernel
theorem dX12_off_17 : decode cX12_off 17 = .ok (.aload_n 0, 1) := by decide +kernel
theorem dX12_off_18 : decode cX12_off 18 = .ok (.getfield 8, 3) := by decide +kernel
theorem dX12_off_21 : decode cX12_off 21 = .ok (.sipush 141, 3) := by decide +kernel
theorem dX12_off_24 : decode cX12_off 24 = .ok (.iload_n 1, 1) := by decide +kernel
theorem dX12_off_25 : decode cX12_off 25 = .ok (.iadd, 1) := by decide +kernel
theorem dX12_off_26 : decode cX12_off 26 = .ok (.iaload, 1) := by decide +kernel
theorem dX12_off_27 : decode cX12_off 27 = .ok (.aload_n 0, 1) := by decide +kernel
theorem dX12_off_28 : decode cX12_off 28 = .ok (.iconst 1, 1) := by decide +kernel
theorem dX12_off_29 : decode cX12_off 29 = .ok (.invokevirtual 147, 3) := by decide +kernel
theorem dX12_off_32 : decode cX12_off 32 = .ok (.if_icmp .ne 46, 3) := by decide +kernel
theorem dX12_off_35 : decode cX12_off 35 = .ok (.aload_n 0, 1) := by decide +kernel
theorem dX12_off_36 : decode cX12_off 36 = .ok (.getfield 8, 3) := by decide +kernel
theorem dX12_off_39 : decode cX12_off 39 = .ok (.sipush 4765, 3) := by decide +kernel
theorem dX12_off_42 : decode cX12_off 42 = .ok (.iload_n 1, 1) := by decide +kernel
theorem dX12_off_43 : decode cX12_off 43 = .ok (.iadd, 1) := by decide +kernel
theorem dX12_off_44 : decode cX12_off 44 = .ok (.iaload, 1) := by decide +kernel
theorem dX12_off_45 : decode cX12_off 45 = .ok (.bipush 8, 2) := by decide +kernel
theorem dX12_off_47 : decode cX12_off 47 = .ok (.if_icmp .eq 31, 3) := by decide +kernel
theorem dX12_off_50 : decode cX12_off 50 = .ok (.iload_n 2, 1) := by decide +kernel
theorem dX12_off_51 : decode cX12_off 51 = .ok (.ifCond .eq 8, 3) := by decide +kernel
theorem dX12_off_54 : decode cX12_off 54 = .ok (.iload_n 2, 1) := by decide +kernel
theorem dX12_off_55 : decode cX12_off 55 = .ok (.iconst 1, 1) := by decide +kernel
theorem dX12_off_56 : decode cX12_off 56 = .ok (.if_icmp .ne 22, 3) := by decide +kernel
theorem dX12_off_59 : decode cX12_off 59 = .ok (.iload_n 2, 1) := by decide +kernel
theorem dX12_off_60 : decode cX12_off 60 = .ok (.ifCond .ne 20, 3) := by decide +kernel
theorem dX12_off_63 : decode cX12_off 63 = .ok (.iload_n 3, 1) := by decide +kernel
theorem dX12_off_64 : decode cX12_off 64 = .ok (.invokestatic 173, 3) := by decide +kernel
theorem dX12_off_67 : decode cX12_off 67 = .ok (.ifCond .ne 11, 3) := by decide +kernel
theorem dX12_off_70 : decode cX12_off 70 = .ok (.iload 4, 2) := by decide +kernel
theorem dX12_off_72 : decode cX12_off 72 = .ok (.invokestatic 173, 3) := by decide +kernel
theorem dX12_off_75 : decode cX12_off 75 = .ok (.ifCond .eq 5, 3) := by decide +kernel
theorem dX12_off_78 : decode cX12_off 78 = .ok (.iconst (-1), 1) := by decide +kernel
theorem dX12_off_79 : decode cX12_off 79 = .ok (.ireturn, 1) := by decide +kernel
theorem dX12_off_80 : decode cX12_off 80 = .ok (.aload_n 0, 1) := by decide +kernel
theorem dX12_off_81 : decode cX12_off 81 = .ok (.invokevirtual 144, 3) := by decide +kernel
theorem dX12_off_84 : decode cX12_off 84 = .ok (.aload_n 0, 1) := by decide +kernel
theorem dX12_off_85 : decode cX12_off 85 = .ok (.getfield 8, 3) := by decide +kernel
theorem dX12_off_88 : decode cX12_off 88 = .ok (.sipush 4781, 3) := by decide +kernel
theorem dX12_off_91 : decode cX12_off 91 = .ok (.bipush 8, 2) := by decide +kernel
theorem dX12_off_93 : decode cX12_off 93 = .ok (.iload_n 1, 1) := by decide +kernel
theorem dX12_off_94 : decode cX12_off 94 = .ok (.imul, 1) := by decide +kernel
theorem dX12_off_95 : decode cX12_off 95 = .ok (.iadd, 1) := by decide +kernel
theorem dX12_off_96 : decode cX12_off 96 = .ok (.aload_n 0, 1) := by decide +kernel
theorem dX12_off_97 : decode cX12_off 97 = .ok (.getfield 8, 3) := by decide +kernel
theorem dX12_off_100 : decode cX12_off 100 = .ok (.sipush 4765, 3) := by decide +kernel
theorem dX12_off_103 : decode cX12_off 103 = .ok (.iload_n 1, 1) := by decide +kernel
theorem dX12_off_104 : decode cX12_off 104 = .ok (.iadd, 1) := by decide +kernel
theorem dX12_off_105 : decode cX12_off 105 = .ok (.iaload, 1) := by decide +kernel
theorem dX12_off_106 : decode cX12_off 106 = .ok (.iadd, 1) := by decide +kernel
theorem dX12_off_107 : decode cX12_off 107 = .ok (.iload_n 2, 1) := by decide +kernel
theorem dX12_off_108 : decode cX12_off 108 = .ok (.iconst 1, 1) := by decide +kernel
theorem dX12_off_109 : decode cX12_off 109 = .ok (.if_icmp .ne 8, 3) := by decide +kernel
theorem dX12_off_112 : decode cX12_off 112 = .ok (.ldc 179, 2) := by decide +kernel
theorem dX12_off_114 : decode cX12_off 114 = .ok (.goto 12, 3) := by decide +kernel
theorem dX12_off_117 : decode cX12_off 117 = .ok (.iload_n 3, 1) := by decide +kernel
theorem dX12_off_118 : decode cX12_off 118 = .ok (.iload_n 3, 1) := by decide +kernel
theorem dX12_off_119 : decode cX12_off 119 = .ok (.imul, 1) := by decide +kernel
theorem dX12_off_120 : decode cX12_off 120 = .ok (.iload 4, 2) := by decide +kernel
theorem dX12_off_122 : decode cX12_off 122 = .ok (.iload 4, 2) := by decide +kernel
theorem dX12_off_124 : decode cX12_off 124 = .ok (.imul, 1) := by decide +kernel
theorem dX12_off_125 : decode cX12_off 125 = .ok (.iadd, 1) := by decide +kernel
theorem dX12_off_126 : decode cX12_off 126 = .ok (.iastore, 1) := by decide +kernel
theorem dX12_off_127 : decode cX12_off 127 = .ok (.aload_n 0, 1) := by decide +kernel
theorem dX12_off_128 : decode cX12_off 128 = .ok (.getfield 8, 3) := by decide +kernel
theorem dX12_off_131 : decode cX12_off 131 = .ok (.sipush 4765, 3) := by decide +kernel
theorem dX12_off_134 : decode cX12_off 134 = .ok (.iload_n 1, 1) := by decide +kernel
theorem dX12_off_135 : decode cX12_off 135 = .ok (.iadd, 1) := by decide +kernel
theorem dX12_off_136 : decode cX12_off 136 = .ok (.dup2, 1) := by decide +kernel
theorem dX12_off_137 : decode cX12_off 137 = .ok (.iaload, 1) := by decide +kernel
theorem dX12_off_138 : decode cX12_off 138 = .ok (.iconst 1, 1) := by decide +kernel
theorem dX12_off_139 : decode cX12_off 139 = .ok (.iadd, 1) := by decide +kernel
theorem dX12_off_140 : decode cX12_off 140 = .ok (.iastore, 1) := by decide +kernel
theorem dX12_off_141 : decode cX12_off 141 = .ok (.aload_n 0, 1) := by decide +kernel
theorem dX12_off_142 : decode cX12_off 142 = .ok (.getfield 8, 3) := by decide +kernel
theorem dX12_off_145 : decode cX12_off 145 = .ok (.sipush 4765, 3) := by decide +kernel
theorem dX12_off_148 : decode cX12_off 148 = .ok (.iload_n 1, 1) := by decide +kernel
theorem dX12_off_149 : decode cX12_off 149 = .ok (.iadd, 1) := by decide +kernel
theorem dX12_off_150 : decode cX12_off 150 = .ok (.iaload, 1) := by decide +kernel
theorem dX12_off_151 : decode cX12_off 151 = .ok (.ireturn, 1) := by decide +kernel
def f_X12_off_126 (N : Nat) (l0 : Nat) (l1 : Int32) (s0 : Int32) (s1 : Int32) (s2 : Option Nat) (h : zH) : Option (Int32 × zH) := (zst h 0 s2 s1 s0).bind fun h1 => (zgR h1 12 (some l0) 0).bind fun x1 => (zld h1 0 x1 ((4765 : Int32) + l1)).bind fun x2 => (zst h1 0 x1 ((4765 : Int32) + l1) (x2 + (1 : Int32))).bind fun h2 => (zgR h2 12 (some l0) 0).bind fun x3 => (zld h2 0 x3 ((4765 : Int32) + l1)).bind fun x4 => some (x4, h2)
set_option maxHeartbeats 4000000 in
set_option maxRecDepth 100000 in
theorem s_X12_off_126 {g : zG} (hg : g.2.1.map (fun q => q.2) = zty) {h0 : zH} (N : Nat) (l0 : Nat) (l1 : Int32) (s0 : Int32) (s1 : Int32) (s2 : Option Nat) (h : zH) (r : Int32) (h' : zH) (hf : f_X12_off_126 N l0 l1 s0 s1 s2 h = some (r, h')) : zR g jX12_off h0 126 [some (zr (some l0)), some (zi l1), none, none, none] [zi s0, zi s1, zr s2] h (some (zi r)) h' := by
  unfold f_X12_off_126 at hf
  revert hf; refine zbi (fun h1 e_h1 hf => ?_)
  refine zq_iast dX12_off_126 e_h1 ?_
  refine zr_aload_n (v := .inl (some l0)) dX12_off_127 rfl rfl ?_
  revert hf; refine zbi (fun x1 e_x1 hf => ?_)
  refine zq_getR kg_490 dX12_off_128 e_x1 ?_
  refine zr_sipush (v := (4765 : Int32)) dX12_off_131 (by decide) ?_
  refine zr_iload_n (x := l1) dX12_off_134 rfl rfl ?_
  refine zr_iadd dX12_off_135 ?_
  refine zr_dup2 dX12_off_136 ?_
  revert hf; refine zbi (fun x2 e_x2 hf => ?_)
  refine zq_iald dX12_off_137 e_x2 ?_
  refine zr_iconst (v := (1 : Int32)) dX12_off_138 (by decide) ?_
  refine zr_iadd dX12_off_139 ?_
  revert hf; refine zbi (fun h2 e_h2 hf => ?_)
  refine zq_iast dX12_off_140 e_h2 ?_
  refine zr_aload_n (v := .inl (some l0)) dX12_off_141 rfl rfl ?_
  revert hf; refine zbi (fun x3 e_x3 hf => ?_)
  refine zq_getR kg_490 dX12_off_142 e_x3 ?_
  refine zr_sipush (v := (4765 : Int32)) dX12_off_145 (by decide) ?_
  refine zr_iload_n (x := l1) dX12_off_148 rfl rfl ?_
  refine zr_iadd dX12_off_149 ?_
  revert hf; refine zbi (fun x4 e_x4 hf => ?_)
  refine zq_iald dX12_off_150 e_x4 ?_
  cases hf
  exact zr_ret _ rfl dX12_off_151
def f_X12_off_80 (N : Nat) (l0 : Nat) (l1 : Int32) (l2 : Int32) (l3 : Int32) (l4 : Int32) (h : zH) : Option (Int32 × zH) := (zck h 12 (some l0)).bind fun q1 => (f_X12_keeps N q1 h).bind fun h1 => (zgR h1 12 (some l0) 0).bind fun x1 => (zgR h1 12 (some l0) 0).bind fun x2 => (zld h1 0 x2 ((4765 : Int32) + l1)).bind fun x3 => if l2 = (1 : Int32) then f_X12_off_126 N l0 l1 (2147483647 : Int32) (((4781 : Int32) + ((8 : Int32) * l1)) + x3) x1 h1 else f_X12_off_126 N l0 l1 ((l3 * l3) + (l4 * l4)) (((4781 : Int32) + ((8 : Int32) * l1)) + x3) x1 h1
set_option maxHeartbeats 4000000 in
set_option maxRecDepth 100000 in
theorem s_X12_off_80 {g : zG} (hg : g.2.1.map (fun q => q.2) = zty) {h0 : zH} (N : Nat) (l0 : Nat) (l1 : Int32) (l2 : Int32) (l3 : Int32) (l4 : Int32) (h : zH) (r : Int32) (h' : zH) (hf : f_X12_off_80 N l0 l1 l2 l3 l4 h = some (r, h')) : zR g jX12_off h0 80 [some (zr (some l0)), some (zi l1), some (zi l2), some (zi l3), some (zi l4)] [] h (some (zi r)) h' := by
  unfold f_X12_off_80 at hf
  refine zr_aload_n (v := .inl (some l0)) dX12_off_80 rfl rfl ?_
  revert hf; refine zbi (fun q1 e_q1 hf => ?_)
  revert hf; refine zbi (fun h1 e_h1 hf => ?_)
  refine zq_callV (J' := jX12_keeps) (as := []) (rest := []) (r1 := none) (q := (RX12, TX12, 31)) kw_674 km_X12_keeps kt_623 dX12_off_81 rfl (Nat.le_of_ble_eq_true rfl) rfl rfl e_q1 rfl (c_X12_keeps hg e_h1) ?_
  refine zr_aload_n (v := .inl (some l0)) dX12_off_84 rfl rfl ?_
  revert hf; refine zbi (fun x1 e_x1 hf => ?_)
  refine zq_getR kg_490 dX12_off_85 e_x1 ?_
  refine zr_sipush (v := (4781 : Int32)) dX12_off_88 (by decide) ?_
  refine zr_bipush (v := (8 : Int32)) dX12_off_91 (by decide) ?_
  refine zr_iload_n (x := l1) dX12_off_93 rfl rfl ?_
  refine zr_imul dX12_off_94 ?_
  refine zr_iadd dX12_off_95 ?_
  refine zr_aload_n (v := .inl (some l0)) dX12_off_96 rfl rfl ?_
  revert hf; refine zbi (fun x2 e_x2 hf => ?_)
  refine zq_getR kg_490 dX12_off_97 e_x2 ?_
  refine zr_sipush (v := (4765 : Int32)) dX12_off_100 (by decide) ?_
  refine zr_iload_n (x := l1) dX12_off_103 rfl rfl ?_
  refine zr_iadd dX12_off_104 ?_
  revert hf; refine zbi (fun x3 e_x3 hf => ?_)
  refine zq_iald dX12_off_105 e_x3 ?_
  refine zr_iadd dX12_off_106 ?_
  refine zr_iload_n (x := l2) dX12_off_107 rfl rfl ?_
  refine zr_iconst (v := (1 : Int32)) dX12_off_108 (by decide) ?_
  by_cases hc1 : l2 = (1 : Int32)
  · rw [if_pos hc1] at hf
    refine zr_icne_f 117 dX12_off_109 (by decide) hc1 ?_
    refine zr_ldc (v := (2147483647 : Int32)) kw_714 dX12_off_112 ?_
    refine zr_goto (tgt := 126) dX12_off_114 (by decide) ?_
    refine zr_forget 2 (L' := [some (zr (some l0)), some (zi l1), none, some (zi l3), some (zi l4)]) rfl ?_
    refine zr_forget 3 (L' := [some (zr (some l0)), some (zi l1), none, none, some (zi l4)]) rfl ?_
    refine zr_forget 4 (L' := [some (zr (some l0)), some (zi l1), none, none, none]) rfl ?_
    exact s_X12_off_126 hg N l0 l1 (2147483647 : Int32) (((4781 : Int32) + ((8 : Int32) * l1)) + x3) x1 h1 r h' hf
  · rw [if_neg hc1] at hf
    refine zr_icne_t (tgt := 117) dX12_off_109 (by decide) hc1 ?_
    refine zr_iload_n (x := l3) dX12_off_117 rfl rfl ?_
    refine zr_iload_n (x := l3) dX12_off_118 rfl rfl ?_
    refine zr_imul dX12_off_119 ?_
    refine zr_iload (x := l4) dX12_off_120 rfl ?_
    refine zr_iload (x := l4) dX12_off_122 rfl ?_
    refine zr_imul dX12_off_124 ?_
    refine zr_iadd dX12_off_125 ?_
    refine zr_forget 2 (L' := [some (zr (some l0)), some (zi l1), none, some (zi l3), some (zi l4)]) rfl ?_
    refine zr_forget 3 (L' := [some (zr (some l0)), some (zi l1), none, none, some (zi l4)]) rfl ?_
    refine zr_forget 4 (L' := [some (zr (some l0)), some (zi l1), none, none, none]) rfl ?_
    exact s_X12_off_126 hg N l0 l1 ((l3 * l3) + (l4 * l4)) (((4781 : Int32) + ((8 : Int32) * l1)) + x3) x1 h1 r h' hf
def f_X12_off_59 (N : Nat) (l0 : Nat) (l1 : Int32) (l2 : Int32) (l3 : Int32) (l4 : Int32) (h : zH) : Option (Int32 × zH) := if l2 = 0 then (f_X12_isFar N l3 h).bind fun x1 => if x1 = 0 then (f_X12_isFar N l4 h).bind fun x2 => if x2 = 0 then f_X12_off_80 N l0 l1 l2 l3 l4 h else some (((-1) : Int32), h) else some (((-1) : Int32), h) else f_X12_off_80 N l0 l1 l2 l3 l4 h
set_option maxHeartbeats 4000000 in
set_option maxRecDepth 100000 in
theorem s_X12_off_59 {g : zG} (hg : g.2.1.map (fun q => q.2) = zty) {h0 : zH} (N : Nat) (l0 : Nat) (l1 : Int32) (l2 : Int32) (l3 : Int32) (l4 : Int32) (h : zH) (r : Int32) (h' : zH) (hf : f_X12_off_59 N l0 l1 l2 l3 l4 h = some (r, h')) : zR g jX12_off h0 59 [some (zr (some l0)), some (zi l1), some (zi l2), some (zi l3), some (zi l4)] [] h (some (zi r)) h' := by
  unfold f_X12_off_59 at hf
  refine zr_iload_n (x := l2) dX12_off_59 rfl rfl ?_
  by_cases hc1 : l2 = 0
  · rw [if_pos hc1] at hf
    refine zr_ifne_f 80 dX12_off_60 (by decide) hc1 ?_
    refine zr_iload_n (x := l3) dX12_off_63 rfl rfl ?_
    revert hf; refine zbi (fun x1 e_x1 hf => ?_)
    refine zq_callS (J' := jX12_isFar) (as := [zi l3]) (rest := []) (r1 := (some (zi x1))) kw_707 km_X12_isFar kt_624 dX12_off_64 rfl (Nat.le_of_ble_eq_true rfl) rfl (c_X12_isFar hg e_x1) ?_
    by_cases hc2 : x1 = 0
    · rw [if_pos hc2] at hf
      refine zr_ifne_f 78 dX12_off_67 (by decide) hc2 ?_
      refine zr_iload (x := l4) dX12_off_70 rfl ?_
      revert hf; refine zbi (fun x2 e_x2 hf => ?_)
      refine zq_callS (J' := jX12_isFar) (as := [zi l4]) (rest := []) (r1 := (some (zi x2))) kw_707 km_X12_isFar kt_624 dX12_off_72 rfl (Nat.le_of_ble_eq_true rfl) rfl (c_X12_isFar hg e_x2) ?_
      by_cases hc3 : x2 = 0
      · rw [if_pos hc3] at hf
        refine zr_ifeq_t (tgt := 80) dX12_off_75 (by decide) hc3 ?_
        exact s_X12_off_80 hg N l0 l1 l2 l3 l4 h r h' hf
      · rw [if_neg hc3] at hf
        refine zr_ifeq_f 80 dX12_off_75 (by decide) hc3 ?_
        refine zr_iconst (v := ((-1) : Int32)) dX12_off_78 (by decide) ?_
        cases hf
        exact zr_ret _ rfl dX12_off_79
    · rw [if_neg hc2] at hf
      refine zr_ifne_t (tgt := 78) dX12_off_67 (by decide) hc2 ?_
      refine zr_iconst (v := ((-1) : Int32)) dX12_off_78 (by decide) ?_
      cases hf
      exact zr_ret _ rfl dX12_off_79
  · rw [if_neg hc1] at hf
    refine zr_ifne_t (tgt := 80) dX12_off_60 (by decide) hc1 ?_
    exact s_X12_off_80 hg N l0 l1 l2 l3 l4 h r h' hf
def f_X12_off (N : Nat) (l0 : Nat) (l1 : Int32) (l2 : Int32) (l3 : Int32) (l4 : Int32) (h : zH) : Option (Int32 × zH) := (zck h 12 (some l0)).bind fun q1 => (f_X12_isArcher N q1 l1 h).bind fun x1 => if x1 = 0 then some (((-1) : Int32), h) else (zgR h 12 (some l0) 0).bind fun x2 => (zld h 0 x2 (0 : Int32)).bind fun x3 => if x3 = 0 then some (((-1) : Int32), h) else (zgR h 12 (some l0) 0).bind fun x4 => (zld h 0 x4 ((141 : Int32) + l1)).bind fun x5 => (zck h 12 (some l0)).bind fun q2 => (f_X12_of N q2 (1 : Int32) h).bind fun x6 => if x5 = x6 then (zgR h 12 (some l0) 0).bind fun x7 => (zld h 0 x7 ((4765 : Int32) + l1)).bind fun x8 => if x8 = (8 : Int32) then some (((-1) : Int32), h) else if l2 = 0 then f_X12_off_59 N l0 l1 l2 l3 l4 h else if l2 = (1 : Int32) then f_X12_off_59 N l0 l1 l2 l3 l4 h else some (((-1) : Int32), h) else some (((-1) : Int32), h)
set_option maxHeartbeats 4000000 in
set_option maxRecDepth 100000 in
theorem s_X12_off {g : zG} (hg : g.2.1.map (fun q => q.2) = zty) {h0 : zH} (N : Nat) (l0 : Nat) (l1 : Int32) (l2 : Int32) (l3 : Int32) (l4 : Int32) (h : zH) (r : Int32) (h' : zH) (hf : f_X12_off N l0 l1 l2 l3 l4 h = some (r, h')) : zR g jX12_off h0 0 [some (zr (some l0)), some (zi l1), some (zi l2), some (zi l3), some (zi l4)] [] h (some (zi r)) h' := by
  unfold f_X12_off at hf
  refine zr_aload_n (v := .inl (some l0)) dX12_off_0 rfl rfl ?_
  refine zr_iload_n (x := l1) dX12_off_1 rfl rfl ?_
  revert hf; refine zbi (fun q1 e_q1 hf => ?_)
  revert hf; refine zbi (fun x1 e_x1 hf => ?_)
  refine zq_callV (J' := jX12_isArcher) (as := [zi l1]) (rest := []) (r1 := (some (zi x1))) (q := (RX12, TX12, 31)) kw_682 km_X12_isArcher kt_625 dX12_off_2 rfl (Nat.le_of_ble_eq_true rfl) rfl rfl e_q1 rfl (c_X12_isArcher hg e_x1) ?_
  by_cases hc1 : x1 = 0
  · rw [if_pos hc1] at hf
    refine zr_ifeq_t (tgt := 78) dX12_off_5 (by decide) hc1 ?_
    refine zr_iconst (v := ((-1) : Int32)) dX12_off_78 (by decide) ?_
    cases hf
    exact zr_ret _ rfl dX12_off_79
  · rw [if_neg hc1] at hf
    refine zr_ifeq_f 78 dX12_off_5 (by decide) hc1 ?_
    refine zr_aload_n (v := .inl (some l0)) dX12_off_8 rfl rfl ?_
    revert hf; refine zbi (fun x2 e_x2 hf => ?_)
    refine zq_getR kg_490 dX12_off_9 e_x2 ?_
    refine zr_iconst (v := (0 : Int32)) dX12_off_12 (by decide) ?_
    revert hf; refine zbi (fun x3 e_x3 hf => ?_)
    refine zq_iald dX12_off_13 e_x3 ?_
    by_cases hc2 : x3 = 0
    · rw [if_pos hc2] at hf
      refine zr_ifeq_t (tgt := 78) dX12_off_14 (by decide) hc2 ?_
      refine zr_iconst (v := ((-1) : Int32)) dX12_off_78 (by decide) ?_
      cases hf
      exact zr_ret _ rfl dX12_off_79
    · rw [if_neg hc2] at hf
      refine zr_ifeq_f 78 dX12_off_14 (by decide) hc2 ?_
      refine zr_aload_n (v := .inl (some l0)) dX12_off_17 rfl rfl ?_
      revert hf; refine zbi (fun x4 e_x4 hf => ?_)
      refine zq_getR kg_490 dX12_off_18 e_x4 ?_
      refine zr_sipush (v := (141 : Int32)) dX12_off_21 (by decide) ?_
      refine zr_iload_n (x := l1) dX12_off_24 rfl rfl ?_
      refine zr_iadd dX12_off_25 ?_
      revert hf; refine zbi (fun x5 e_x5 hf => ?_)
      refine zq_iald dX12_off_26 e_x5 ?_
      refine zr_aload_n (v := .inl (some l0)) dX12_off_27 rfl rfl ?_
      refine zr_iconst (v := (1 : Int32)) dX12_off_28 (by decide) ?_
      revert hf; refine zbi (fun q2 e_q2 hf => ?_)
      revert hf; refine zbi (fun x6 e_x6 hf => ?_)
      refine zq_callV (J' := jX12_of) (as := [zi (1 : Int32)]) (rest := [zi x5]) (r1 := (some (zi x6))) (q := (RX12, TX12, 31)) kw_669 km_X12_of kt_626 dX12_off_29 rfl (Nat.le_of_ble_eq_true rfl) rfl rfl e_q2 rfl (c_X12_of hg e_x6) ?_
      by_cases hc3 : x5 = x6
      · rw [if_pos hc3] at hf
        refine zr_icne_f 78 dX12_off_32 (by decide) hc3 ?_
        refine zr_aload_n (v := .inl (some l0)) dX12_off_35 rfl rfl ?_
        revert hf; refine zbi (fun x7 e_x7 hf => ?_)
        refine zq_getR kg_490 dX12_off_36 e_x7 ?_
        refine zr_sipush (v := (4765 : Int32)) dX12_off_39 (by decide) ?_
        refine zr_iload_n (x := l1) dX12_off_42 rfl rfl ?_
        refine zr_iadd dX12_off_43 ?_
        revert hf; refine zbi (fun x8 e_x8 hf => ?_)
        refine zq_iald dX12_off_44 e_x8 ?_
        refine zr_bipush (v := (8 : Int32)) dX12_off_45 (by decide) ?_
        by_cases hc4 : x8 = (8 : Int32)
        · rw [if_pos hc4] at hf
          refine zr_iceq_t (tgt := 78) dX12_off_47 (by decide) hc4 ?_
          refine zr_iconst (v := ((-1) : Int32)) dX12_off_78 (by decide) ?_
          cases hf
          exact zr_ret _ rfl dX12_off_79
        · rw [if_neg hc4] at hf
          refine zr_iceq_f 78 dX12_off_47 (by decide) hc4 ?_
          refine zr_iload_n (x := l2) dX12_off_50 rfl rfl ?_
          by_cases hc5 : l2 = 0
          · rw [if_pos hc5] at hf
            refine zr_ifeq_t (tgt := 59) dX12_off_51 (by decide) hc5 ?_
            exact s_X12_off_59 hg N l0 l1 l2 l3 l4 h r h' hf
          · rw [if_neg hc5] at hf
            refine zr_ifeq_f 59 dX12_off_51 (by decide) hc5 ?_
            refine zr_iload_n (x := l2) dX12_off_54 rfl rfl ?_
            refine zr_iconst (v := (1 : Int32)) dX12_off_55 (by decide) ?_
            by_cases hc6 : l2 = (1 : Int32)
            · rw [if_pos hc6] at hf
              refine zr_icne_f 78 dX12_off_56 (by decide) hc6 ?_
              exact s_X12_off_59 hg N l0 l1 l2 l3 l4 h r h' hf
            · rw [if_neg hc6] at hf
              refine zr_icne_t (tgt := 78) dX12_off_56 (by decide) hc6 ?_
              refine zr_iconst (v := ((-1) : Int32)) dX12_off_78 (by decide) ?_
              cases hf
              exact zr_ret _ rfl dX12_off_79
      · rw [if_neg hc3] at hf
        refine zr_icne_t (tgt := 78) dX12_off_32 (by decide) hc3 ?_
        refine zr_iconst (v := ((-1) : Int32)) dX12_off_78 (by decide) ?_
        cases hf
        exact zr_ret _ rfl dX12_off_79
theorem c_X12_off {g : zG} (hg : g.2.1.map (fun q => q.2) = zty) {N : Nat} {l0 : Nat} {l1 : Int32} {l2 : Int32} {l3 : Int32} {l4 : Int32} {h : zH} {r : Int32} {h' : zH} (hf : f_X12_off N l0 l1 l2 l3 l4 h = some (r, h')) : zCa g jX12_off [zr (some l0), zi l1, zi l2, zi l3, zi l4] h (some (zi r)) h' :=
  zCa.of hg (by decide +kernel) (Nat.le_of_ble_eq_true rfl) (s_X12_off hg N l0 l1 l2 l3 l4 h r h' hf)
theorem dX12_most_0 : decode cX12_most 0 = .ok (.iconst 0, 1) := by decide +kernel
theorem dX12_most_1 : decode cX12_most 1 = .ok (.istore_n 3, 1) := by decide +kernel
theorem dX12_most_2 : decode cX12_most 2 = .ok (.iconst 0, 1) := by decide +kernel
theorem dX12_most_3 : decode cX12_most 3 = .ok (.istore 4, 2) := by decide +kernel
theorem dX12_most_5 : decode cX12_most 5 = .ok (.iload 4, 2) := by decide +kernel
theorem dX12_most_7 : decode cX12_most 7 = .ok (.aload_n 0, 1) := by decide +kernel
theorem dX12_most_8 : decode cX12_most 8 = .ok (.aload_n 0, 1) := by decide +kernel
theorem dX12_most_9 : decode cX12_most 9 = .ok (.getfield 8, 3) := by decide +kernel
theorem dX12_most_12 : decode cX12_most 12 = .ok (.sipush 141, 3) := by decide +kernel
theorem dX12_most_15 : decode cX12_most 15 = .ok (.iload_n 1, 1) := by decide +kernel
theorem dX12_most_16 : decode cX12_most 16 = .ok (.iadd, 1) := by decide +kernel
theorem dX12_most_17 : decode cX12_most 17 = .ok (.iaload, 1) := by decide +kernel
theorem dX12_most_18 : decode cX12_most 18 = .ok (.invokevirtual 157, 3) := by decide +kernel
theorem dX12_most_21 : decode cX12_most 21 = .ok (.if_icmp .ge 33, 3) := by decide +kernel
theorem dX12_most_24 : decode cX12_most 24 = .ok (.aload_n 0, 1) := by decide +kernel
theorem dX12_most_25 : decode cX12_most 25 = .ok (.getfield 8, 3) := by decide +kernel
theorem dX12_most_28 : decode cX12_most 28 = .ok (.sipush 157, 3) := by decide +kernel
theorem dX12_most_31 : decode cX12_most 31 = .ok (.sipush 288, 3) := by decide +kernel
theorem dX12_most_34 : decode cX12_most 34 = .ok (.iload_n 1, 1) := by decide +kernel
theorem dX12_most_35 : decode cX12_most 35 = .ok (.imul, 1) := by decide +kernel
theorem dX12_most_36 : decode cX12_most 36 = .ok (.iadd, 1) := by decide +kernel
theorem dX12_most_37 : decode cX12_most 37 = .ok (.iload 4, 2) := by decide +kernel
theorem dX12_most_39 : decode cX12_most 39 = .ok (.iadd, 1) := by decide +kernel
theorem dX12_most_40 : decode cX12_most 40 = .ok (.iaload, 1) := by decide +kernel
theorem dX12_most_41 : decode cX12_most 41 = .ok (.iload_n 2, 1) := by decide +kernel
theorem dX12_most_42 : decode cX12_most 42 = .ok (.if_icmp .ne 6, 3) := by decide +kernel
theorem dX12_most_45 : decode cX12_most 45 = .ok (.iinc 3 1, 3) := by decide +kernel
theorem dX12_most_48 : decode cX12_most 48 = .ok (.iinc 4 1, 3) := by decide +kernel
theorem dX12_most_51 : decode cX12_most 51 = .ok (.goto (-46), 3) := by decide +kernel
theorem dX12_most_54 : decode cX12_most 54 = .ok (.iload_n 3, 1) := by decide +kernel
theorem dX12_most_55 : decode cX12_most 55 = .ok (.ireturn, 1) := by decide +kernel
def f_X12_most_5 (N : Nat) : Nat → Nat → Int32 → Int32 → Int32 → Int32 → zH → Option Int32
  | 0, _, _, _, _, _, _ => none
  | n + 1, l0, l1, l2, l3, l4, h => (zgR h 12 (some l0) 0).bind fun x1 => (zld h 0 x1 ((141 : Int32) + l1)).bind fun x2 => (zck h 12 (some l0)).bind fun q1 => (f_X12_arrowsOf N q1 x2 h).bind fun x3 => if x3 ≤ l4 then some l3 else (zgR h 12 (some l0) 0).bind fun x4 => (zld h 0 x4 (((157 : Int32) + ((288 : Int32) * l1)) + l4)).bind fun x5 => if x5 = l2 then f_X12_most_5 N n l0 l1 l2 (l3 + (1 : Int32)) (l4 + (1 : Int32)) h else f_X12_most_5 N n l0 l1 l2 l3 (l4 + (1 : Int32)) h
set_option maxHeartbeats 4000000 in
set_option maxRecDepth 100000 in
theorem s_X12_most_5 {g : zG} (hg : g.2.1.map (fun q => q.2) = zty) {h0 : zH} (N : Nat) : ∀ (n : Nat) (l0 : Nat) (l1 : Int32) (l2 : Int32) (l3 : Int32) (l4 : Int32) (h : zH) (r : Int32), f_X12_most_5 N n l0 l1 l2 l3 l4 h = some r → zR g jX12_most h0 5 [some (zr (some l0)), some (zi l1), some (zi l2), some (zi l3), some (zi l4)] [] h (some (zi r)) h := by
  intro n
  induction n with
  | zero =>
    intro l0 l1 l2 l3 l4 h r hf
    cases hf
  | succ n ih =>
    intro l0 l1 l2 l3 l4 h r hf
    rw [f_X12_most_5] at hf
    refine zr_iload (x := l4) dX12_most_5 rfl ?_
    refine zr_aload_n (v := .inl (some l0)) dX12_most_7 rfl rfl ?_
    refine zr_aload_n (v := .inl (some l0)) dX12_most_8 rfl rfl ?_
    revert hf; refine zbi (fun x1 e_x1 hf => ?_)
    refine zq_getR kg_490 dX12_most_9 e_x1 ?_
    refine zr_sipush (v := (141 : Int32)) dX12_most_12 (by decide) ?_
    refine zr_iload_n (x := l1) dX12_most_15 rfl rfl ?_
    refine zr_iadd dX12_most_16 ?_
    revert hf; refine zbi (fun x2 e_x2 hf => ?_)
    refine zq_iald dX12_most_17 e_x2 ?_
    revert hf; refine zbi (fun q1 e_q1 hf => ?_)
    revert hf; refine zbi (fun x3 e_x3 hf => ?_)
    refine zq_callV (J' := jX12_arrowsOf) (as := [zi x2]) (rest := [zi l4]) (r1 := (some (zi x3))) (q := (RX12, TX12, 31)) kw_690 km_X12_arrowsOf kt_627 dX12_most_18 rfl (Nat.le_of_ble_eq_true rfl) rfl rfl e_q1 rfl (c_X12_arrowsOf hg e_x3) ?_
    by_cases hc1 : x3 ≤ l4
    · rw [if_pos hc1] at hf
      refine zr_icge_t (tgt := 54) dX12_most_21 (by decide) hc1 ?_
      refine zr_iload_n (x := l3) dX12_most_54 rfl rfl ?_
      cases hf
      exact zr_ret _ rfl dX12_most_55
    · rw [if_neg hc1] at hf
      refine zr_icge_f 54 dX12_most_21 (by decide) hc1 ?_
      refine zr_aload_n (v := .inl (some l0)) dX12_most_24 rfl rfl ?_
      revert hf; refine zbi (fun x4 e_x4 hf => ?_)
      refine zq_getR kg_490 dX12_most_25 e_x4 ?_
      refine zr_sipush (v := (157 : Int32)) dX12_most_28 (by decide) ?_
      refine zr_sipush (v := (288 : Int32)) dX12_most_31 (by decide) ?_
      refine zr_iload_n (x := l1) dX12_most_34 rfl rfl ?_
      refine zr_imul dX12_most_35 ?_
      refine zr_iadd dX12_most_36 ?_
      refine zr_iload (x := l4) dX12_most_37 rfl ?_
      refine zr_iadd dX12_most_39 ?_
      revert hf; refine zbi (fun x5 e_x5 hf => ?_)
      refine zq_iald dX12_most_40 e_x5 ?_
      refine zr_iload_n (x := l2) dX12_most_41 rfl rfl ?_
      by_cases hc2 : x5 = l2
      · rw [if_pos hc2] at hf
        refine zr_icne_f 48 dX12_most_42 (by decide) hc2 ?_
        refine zq_iinc (x := l3) (y := (1 : Int32)) (L' := [some (zr (some l0)), some (zi l1), some (zi l2), some (zi (l3 + (1 : Int32))), some (zi l4)]) dX12_most_45 rfl (by decide) (by decide) rfl ?_
        refine zq_iinc (x := l4) (y := (1 : Int32)) (L' := [some (zr (some l0)), some (zi l1), some (zi l2), some (zi (l3 + (1 : Int32))), some (zi (l4 + (1 : Int32)))]) dX12_most_48 rfl (by decide) (by decide) rfl ?_
        refine zr_goto (tgt := 5) dX12_most_51 (by decide) ?_
        exact ih l0 l1 l2 (l3 + (1 : Int32)) (l4 + (1 : Int32)) h r hf
      · rw [if_neg hc2] at hf
        refine zr_icne_t (tgt := 48) dX12_most_42 (by decide) hc2 ?_
        refine zq_iinc (x := l4) (y := (1 : Int32)) (L' := [some (zr (some l0)), some (zi l1), some (zi l2), some (zi l3), some (zi (l4 + (1 : Int32)))]) dX12_most_48 rfl (by decide) (by decide) rfl ?_
        refine zr_goto (tgt := 5) dX12_most_51 (by decide) ?_
        exact ih l0 l1 l2 l3 (l4 + (1 : Int32)) h r hf
def f_X12_most (N : Nat) (l0 : Nat) (l1 : Int32) (l2 : Int32) (h : zH) : Option Int32 := f_X12_most_5 N N l0 l1 l2 (0 : Int32) (0 : Int32) h
set_option maxHeartbeats 4000000 in
set_option maxRecDepth 100000 in
theorem s_X12_most {g : zG} (hg : g.2.1.map (fun q => q.2) = zty) {h0 : zH} (N : Nat) (l0 : Nat) (l1 : Int32) (l2 : Int32) (h : zH) (r : Int32) (hf : f_X12_most N l0 l1 l2 h = some r) : zR g jX12_most h0 0 [some (zr (some l0)), some (zi l1), some (zi l2), none, none] [] h (some (zi r)) h := by
  unfold f_X12_most at hf
  refine zr_iconst (v := (0 : Int32)) dX12_most_0 (by decide) ?_
  refine zq_istore_n (x := (0 : Int32)) (L' := [some (zr (some l0)), some (zi l1), some (zi l2), some (zi (0 : Int32)), none]) dX12_most_1 rfl (by decide) rfl ?_
  refine zr_iconst (v := (0 : Int32)) dX12_most_2 (by decide) ?_
  refine zq_istore (x := (0 : Int32)) (L' := [some (zr (some l0)), some (zi l1), some (zi l2), some (zi (0 : Int32)), some (zi (0 : Int32))]) dX12_most_3 (by decide) rfl ?_
  exact s_X12_most_5 hg N N l0 l1 l2 (0 : Int32) (0 : Int32) h r hf
theorem c_X12_most {g : zG} (hg : g.2.1.map (fun q => q.2) = zty) {N : Nat} {l0 : Nat} {l1 : Int32} {l2 : Int32} {h : zH} {r : Int32} (hf : f_X12_most N l0 l1 l2 h = some r) : zCa g jX12_most [zr (some l0), zi l1, zi l2] h (some (zi r)) h :=
  zCa.of hg (by decide +kernel) (Nat.le_of_ble_eq_true rfl) (s_X12_most hg N l0 l1 l2 h r hf)
theorem dX12_square_0 : decode cX12_square 0 = .ok (.iload_n 2, 1) := by decide +kernel
theorem dX12_square_1 : decode cX12_square 1 = .ok (.aload_n 0, 1) := by decide +kernel
theorem dX12_square_2 : decode cX12_square 2 = .ok (.getfield 8, 3) := by decide +kernel
theorem dX12_square_5 : decode cX12_square 5 = .ok (.sipush 4765, 3) := by decide +kernel
theorem dX12_square_8 : decode cX12_square 8 = .ok (.iload_n 1, 1) := by decide +kernel
theorem dX12_square_9 : decode cX12_square 9 = .ok (.iadd, 1) := by decide +kernel
theorem dX12_square_10 : decode cX12_square 10 = .ok (.iaload, 1) := by decide +kernel
theorem dX12_square_11 : decode cX12_square 11 = .ok (.if_icmp .ge 21, 3) := by decide +kernel
theorem dX12_square_14 : decode cX12_square 14 = .ok (.aload_n 0, 1) := by decide +kernel
theorem dX12_square_15 : decode cX12_square 15 = .ok (.getfield 8, 3) := by decide +kernel
theorem dX12_square_18 : decode cX12_square 18 = .ok (.sipush 4781, 3) := by decide +kernel
theorem dX12_square_21 : decode cX12_square 21 = .ok (.bipush 8, 2) := by decide +kernel
theorem dX12_square_23 : decode cX12_square 23 = .ok (.iload_n 1, 1) := by decide +kernel
theorem dX12_square_24 : decode cX12_square 24 = .ok (.imul, 1) := by decide +kernel
theorem dX12_square_25 : decode cX12_square 25 = .ok (.iadd, 1) := by decide +kernel
theorem dX12_square_26 : decode cX12_square 26 = .ok (.iload_n 2, 1) := by decide +kernel
theorem dX12_square_27 : decode cX12_square 27 = .ok (.iadd, 1) := by decide +kernel
theorem dX12_square_28 : decode cX12_square 28 = .ok (.iaload, 1) := by decide +kernel
theorem dX12_square_29 : decode cX12_square 29 = .ok (.goto 5, 3) := by decide +kernel
theorem dX12_square_32 : decode cX12_square 32 = .ok (.ldc 179, 2) := by decide +kernel
theorem dX12_square_34 : decode cX12_square 34 = .ok (.ireturn, 1) := by decide +kernel
def f_X12_square (N : Nat) (l0 : Nat) (l1 : Int32) (l2 : Int32) (h : zH) : Option Int32 := (zgR h 12 (some l0) 0).bind fun x1 => (zld h 0 x1 ((4765 : Int32) + l1)).bind fun x2 => if x2 ≤ l2 then some (2147483647 : Int32) else (zgR h 12 (some l0) 0).bind fun x3 => (zld h 0 x3 (((4781 : Int32) + ((8 : Int32) * l1)) + l2)).bind fun x4 => some x4
set_option maxHeartbeats 4000000 in
set_option maxRecDepth 100000 in
theorem s_X12_square {g : zG} (hg : g.2.1.map (fun q => q.2) = zty) {h0 : zH} (N : Nat) (l0 : Nat) (l1 : Int32) (l2 : Int32) (h : zH) (r : Int32) (hf : f_X12_square N l0 l1 l2 h = some r) : zR g jX12_square h0 0 [some (zr (some l0)), some (zi l1), some (zi l2)] [] h (some (zi r)) h := by
  unfold f_X12_square at hf
  refine zr_iload_n (x := l2) dX12_square_0 rfl rfl ?_
  refine zr_aload_n (v := .inl (some l0)) dX12_square_1 rfl rfl ?_
  revert hf; refine zbi (fun x1 e_x1 hf => ?_)
  refine zq_getR kg_490 dX12_square_2 e_x1 ?_
  refine zr_sipush (v := (4765 : Int32)) dX12_square_5 (by decide) ?_
  refine zr_iload_n (x := l1) dX12_square_8 rfl rfl ?_
  refine zr_iadd dX12_square_9 ?_
  revert hf; refine zbi (fun x2 e_x2 hf => ?_)
  refine zq_iald dX12_square_10 e_x2 ?_
  by_cases hc1 : x2 ≤ l2
  · rw [if_pos hc1] at hf
    refine zr_icge_t (tgt := 32) dX12_square_11 (by decide) hc1 ?_
    refine zr_ldc (v := (2147483647 : Int32)) kw_714 dX12_square_32 ?_
    cases hf
    exact zr_ret _ rfl dX12_square_34
  · rw [if_neg hc1] at hf
    refine zr_icge_f 32 dX12_square_11 (by decide) hc1 ?_
    refine zr_aload_n (v := .inl (some l0)) dX12_square_14 rfl rfl ?_
    revert hf; refine zbi (fun x3 e_x3 hf => ?_)
    refine zq_getR kg_490 dX12_square_15 e_x3 ?_
    refine zr_sipush (v := (4781 : Int32)) dX12_square_18 (by decide) ?_
    refine zr_bipush (v := (8 : Int32)) dX12_square_21 (by decide) ?_
    refine zr_iload_n (x := l1) dX12_square_23 rfl rfl ?_
    refine zr_imul dX12_square_24 ?_
    refine zr_iadd dX12_square_25 ?_
    refine zr_iload_n (x := l2) dX12_square_26 rfl rfl ?_
    refine zr_iadd dX12_square_27 ?_
    revert hf; refine zbi (fun x4 e_x4 hf => ?_)
    refine zq_iald dX12_square_28 e_x4 ?_
    refine zr_goto (tgt := 34) dX12_square_29 (by decide) ?_
    cases hf
    exact zr_ret _ rfl dX12_square_34
theorem c_X12_square {g : zG} (hg : g.2.1.map (fun q => q.2) = zty) {N : Nat} {l0 : Nat} {l1 : Int32} {l2 : Int32} {h : zH} {r : Int32} (hf : f_X12_square N l0 l1 l2 h = some r) : zCa g jX12_square [zr (some l0), zi l1, zi l2] h (some (zi r)) h :=
  zCa.of hg (by decide +kernel) (Nat.le_of_ble_eq_true rfl) (s_X12_square hg N l0 l1 l2 h r hf)
theorem dX12_signOf_0 : decode cX12_signOf 0 = .ok (.iload_n 0, 1) := by decide +kernel
theorem dX12_signOf_1 : decode cX12_signOf 1 = .ok (.ifCond .le 7, 3) := by decide +kernel
theorem dX12_signOf_4 : decode cX12_signOf 4 = .ok (.iconst 1, 1) := by decide +kernel
theorem dX12_signOf_5 : decode cX12_signOf 5 = .ok (.goto 12, 3) := by decide +kernel
theorem dX12_signOf_8 : decode cX12_signOf 8 = .ok (.iload_n 0, 1) := by decide +kernel
theorem dX12_signOf_9 : decode cX12_signOf 9 = .ok (.ifCond .ge 7, 3) := by decide +kernel
theorem dX12_signOf_12 : decode cX12_signOf 12 = .ok (.iconst (-1), 1) := by decide +kernel
theorem dX12_signOf_13 : decode cX12_signOf 13 = .ok (.goto 4, 3) := by decide +kernel
theorem dX12_signOf_16 : decode cX12_signOf 16 = .ok (.iconst 0, 1) := by decide +kernel
theorem dX12_signOf_17 : decode cX12_signOf 17 = .ok (.ireturn, 1) := by decide +kernel
def f_X12_signOf (N : Nat) (l0 : Int32) (h : zH) : Option Int32 := if l0 ≤ 0 then if 0 ≤ l0 then some (0 : Int32) else some ((-1) : Int32) else some (1 : Int32)
set_option maxHeartbeats 4000000 in
set_option maxRecDepth 100000 in
theorem s_X12_signOf {g : zG} (hg : g.2.1.map (fun q => q.2) = zty) {h0 : zH} (N : Nat) (l0 : Int32) (h : zH) (r : Int32) (hf : f_X12_signOf N l0 h = some r) : zR g jX12_signOf h0 0 [some (zi l0)] [] h (some (zi r)) h := by
  unfold f_X12_signOf at hf
  refine zr_iload_n (x := l0) dX12_signOf_0 rfl rfl ?_
  by_cases hc1 : l0 ≤ 0
  · rw [if_pos hc1] at hf
    refine zr_ifle_t (tgt := 8) dX12_signOf_1 (by decide) hc1 ?_
    refine zr_iload_n (x := l0) dX12_signOf_8 rfl rfl ?_
    by_cases hc2 : 0 ≤ l0
    · rw [if_pos hc2] at hf
      refine zr_ifge_t (tgt := 16) dX12_signOf_9 (by decide) hc2 ?_
      refine zr_iconst (v := (0 : Int32)) dX12_signOf_16 (by decide) ?_
      cases hf
      exact zr_ret _ rfl dX12_signOf_17
    · rw [if_neg hc2] at hf
      refine zr_ifge_f 16 dX12_signOf_9 (by decide) hc2 ?_
      refine zr_iconst (v := ((-1) : Int32)) dX12_signOf_12 (by decide) ?_
      refine zr_goto (tgt := 17) dX12_signOf_13 (by decide) ?_
      cases hf
      exact zr_ret _ rfl dX12_signOf_17
  · rw [if_neg hc1] at hf
    refine zr_ifle_f 8 dX12_signOf_1 (by decide) hc1 ?_
    refine zr_iconst (v := (1 : Int32)) dX12_signOf_4 (by decide) ?_
    refine zr_goto (tgt := 17) dX12_signOf_5 (by decide) ?_
    cases hf
    exact zr_ret _ rfl dX12_signOf_17
theorem c_X12_signOf {g : zG} (hg : g.2.1.map (fun q => q.2) = zty) {N : Nat} {l0 : Int32} {h : zH} {r : Int32} (hf : f_X12_signOf N l0 h = some r) : zCa g jX12_signOf [zi l0] h (some (zi r)) h :=
  zCa.of hg (by decide +kernel) (Nat.le_of_ble_eq_true rfl) (s_X12_signOf hg N l0 h r hf)
theorem dX12_ahead_0 : decode cX12_ahead 0 = .ok (.aload_n 0, 1) := by decide +kernel
theorem dX12_ahead_1 : decode cX12_ahead 1 = .ok (.iload_n 1, 1) := by decide +kernel
theorem dX12_ahead_2 : decode cX12_ahead 2 = .ok (.invokevirtual 151, 3) := by decide +kernel
theorem dX12_ahead_5 : decode cX12_ahead 5 = .ok (.ifCond .eq 20, 3) := by decide +kernel
theorem dX12_ahead_8 : decode cX12_ahead 8 = .ok (.aload_n 0, 1) := by decide +kernel
theorem dX12_ahead_9 : decode cX12_ahead 9 = .ok (.iload_n 2, 1) := by decide +kernel
theorem dX12_ahead_10 : decode cX12_ahead 10 = .ok (.invokevirtual 151, 3) := by decide +kernel
theorem dX12_ahead_13 : decode cX12_ahead 13 = .ok (.ifCond .eq 12, 3) := by decide +kernel
theorem dX12_ahead_16 : decode cX12_ahead 16 = .ok (.aload_n 0, 1) := by decide +kernel
theorem dX12_ahead_17 : decode cX12_ahead 17 = .ok (.getfield 8, 3) := by decide +kernel
theorem dX12_ahead_20 : decode cX12_ahead 20 = .ok (.iconst 0, 1) := by decide +kernel
theorem dX12_ahead_21 : decode cX12_ahead 21 = .ok (.iaload, 1) := by decide +kernel
theorem dX12_ahead_22 : decode cX12_ahead 22 = .ok (.ifCond .ne 6, 3) := by decide +kernel
theorem dX12_ahead_25 : decode cX12_ahead 25 = .ok (.bipush (-2), 2) := by decide +kernel
theorem dX12_ahead_27 : decode cX12_ahead 27 = .ok (.ireturn, 1) := by decide +kernel
theorem dX12_ahead_28 : decode cX12_ahead 28 = .ok (.aload_n 0, 1) := by decide +kernel
theorem dX12_ahead_29 : decode cX12_ahead 29 = .ok (.iload_n 1, 1) := by decide +kernel
theorem dX12_ahead_30 : decode cX12_ahead 30 = .ok (.invokevirtual 164, 3) := by decide +kernel
theorem dX12_ahead_33 : decode cX12_ahead 33 = .ok (.aload_n 0, 1) := by decide +kernel
theorem dX12_ahead_34 : decode cX12_ahead 34 = .ok (.iload_n 2, 1) := by decide +kernel
theorem dX12_ahead_35 : decode cX12_ahead 35 = .ok (.invokevirtual 164, 3) := by decide +kernel
theorem dX12_ahead_38 : decode cX12_ahead 38 = .ok (.isub, 1) := by decide +kernel
theorem dX12_ahead_39 : decode cX12_ahead 39 = .ok (.invokestatic 180, 3) := by decide +kernel
theorem dX12_ahead_42 : decode cX12_ahead 42 = .ok (.istore_n 3, 1) := by decide +kernel
theorem dX12_ahead_43 : decode cX12_ahead 43 = .ok (.iconst 0, 1) := by decide +kernel
theorem dX12_ahead_44 : decode cX12_ahead 44 = .ok (.istore 4, 2) := by decide +kernel
theorem dX12_ahead_46 : decode cX12_ahead 46 = .ok (.iload 4, 2) := by decide +kernel
theorem dX12_ahead_48 : decode cX12_ahead 48 = .ok (.aload_n 0, 1) := by decide +kernel
theorem dX12_ahead_49 : decode cX12_ahead 49 = .ok (.getfield 8, 3) := by decide +kernel
theorem dX12_ahead_52 : decode cX12_ahead 52 = .ok (.bipush 115, 2) := by decide +kernel
theorem dX12_ahead_54 : decode cX12_ahead 54 = .ok (.iaload, 1) := by decide +kernel
theorem dX12_ahead_55 : decode cX12_ahead 55 = .ok (.if_icmp .ge 143, 3) := by decide +kernel
theorem dX12_ahead_58 : decode cX12_ahead 58 = .ok (.iload_n 3, 1) := by decide +kernel
theorem dX12_ahead_59 : decode cX12_ahead 59 = .ok (.ifCond .ne 139, 3) := by decide +kernel
theorem dX12_ahead_62 : decode cX12_ahead 62 = .ok (.aload_n 0, 1) := by decide +kernel
theorem dX12_ahead_63 : decode cX12_ahead 63 = .ok (.getfield 8, 3) := by decide +kernel
theorem dX12_ahead_66 : decode cX12_ahead 66 = .ok (.bipush 116, 2) := by decide +kernel
theorem dX12_ahead_68 : decode cX12_ahead 68 = .ok (.iload 4, 2) := by decide +kernel
theorem dX12_ahead_70 : decode cX12_ahead 70 = .ok (.iadd, 1) := by decide +kernel
theorem dX12_ahead_71 : decode cX12_ahead 71 = .ok (.iaload, 1) := by decide +kernel
theorem dX12_ahead_72 : decode cX12_ahead 72 = .ok (.istore 5, 2) := by decide +kernel
theorem dX12_ahead_74 : decode cX12_ahead 74 = .ok (.iload 5, 2) := by decide +kernel
theorem dX12_ahead_76 : decode cX12_ahead 76 = .ok (.bipush 21, 2) := by decide +kernel
theorem dX12_ahead_78 : decode cX12_ahead 78 = .ok (.if_icmp .ne 21, 3) := by decide +kernel
theorem dX12_ahead_81 : decode cX12_ahead 81 = .ok (.aload_n 0, 1) := by decide +kernel
theorem dX12_ahead_82 : decode cX12_ahead 82 = .ok (.iload_n 1, 1) := by decide +kernel
theorem dX12_ahead_83 : decode cX12_ahead 83 = .ok (.invokevirtual 167, 3) := by decide +kernel
theorem dX12_ahead_86 : decode cX12_ahead 86 = .ok (.aload_n 0, 1) := by decide +kernel
theorem dX12_ahead_87 : decode cX12_ahead 87 = .ok (.iload_n 2, 1) := by decide +kernel
theorem dX12_ahead_88 : decode cX12_ahead 88 = .ok (.invokevirtual 167, 3) := by decide +kernel
theorem dX12_ahead_91 : decode cX12_ahead 91 = .ok (.isub, 1) := by decide +kernel
theorem dX12_ahead_92 : decode cX12_ahead 92 = .ok (.invokestatic 180, 3) := by decide +kernel
theorem dX12_ahead_95 : decode cX12_ahead 95 = .ok (.istore_n 3, 1) := by decide +kernel
theorem dX12_ahead_96 : decode cX12_ahead 96 = .ok (.goto 96, 3) := by decide +kernel
theorem dX12_ahead_99 : decode cX12_ahead 99 = .ok (.iload 5, 2) := by decide +kernel
theorem dX12_ahead_101 : decode cX12_ahead 101 = .ok (.bipush 21, 2) := by decide +kernel
theorem dX12_ahead_103 : decode cX12_ahead 103 = .ok (.if_icmp .ge 25, 3) := by decide +kernel
theorem dX12_ahead_106 : decode cX12_ahead 106 = .ok (.aload_n 0, 1) := by decide +kernel
theorem dX12_ahead_107 : decode cX12_ahead 107 = .ok (.iload_n 1, 1) := by decide +kernel
theorem dX12_ahead_108 : decode cX12_ahead 108 = .ok (.iload 5, 2) := by decide +kernel
theorem dX12_ahead_110 : decode cX12_ahead 110 = .ok (.invokevirtual 183, 3) := by decide +kernel
theorem dX12_ahead_113 : decode cX12_ahead 113 = .ok (.aload_n 0, 1) := by decide +kernel
theorem dX12_ahead_114 : decode cX12_ahead 114 = .ok (.iload_n 2, 1) := by decide +kernel
theorem dX12_ahead_115 : decode cX12_ahead 115 = .ok (.iload 5, 2) := by decide +kernel
theorem dX12_ahead_117 : decode cX12_ahead 117 = .ok (.invokevirtual 183, 3) := by decide +kernel
theorem dX12_ahead_120 : decode cX12_ahead 120 = .ok (.isub, 1) := by decide +kernel
theorem dX12_ahead_121 : decode cX12_ahead 121 = .ok (.invokestatic 180, 3) := by decide +kernel
theorem dX12_ahead_124 : decode cX12_ahead 124 = .ok (.istore_n 3, 1) := by decide +kernel
theorem dX12_ahead_125 : decode cX12_ahead 125 = .ok (.goto 67, 3) := by decide +kernel
theorem dX12_ahead_128 : decode cX12_ahead 128 = .ok (.iconst 0, 1) := by decide +kernel
theorem dX12_ahead_129 : decode cX12_ahead 129 = .ok (.istore 6, 2) := by decide +kernel
theorem dX12_ahead_131 : decode cX12_ahead 131 = .ok (.iload 6, 2) := by decide +kernel
theorem dX12_ahead_133 : decode cX12_ahead 133 = .ok (.bipush 8, 2) := by decide +kernel
theorem dX12_ahead_135 : decode cX12_ahead 135 = .ok (.if_icmp .ge 57, 3) := by decide +kernel
theorem dX12_ahead_138 : decode cX12_ahead 138 = .ok (.iload_n 3, 1) := by decide +kernel
theorem dX12_ahead_139 : decode cX12_ahead 139 = .ok (.ifCond .ne 53, 3) := by decide +kernel
theorem dX12_ahead_142 : decode cX12_ahead 142 = .ok (.aload_n 0, 1) := by decide +kernel
theorem dX12_ahead_143 : decode cX12_ahead 143 = .ok (.iload_n 1, 1) := by decide +kernel
theorem dX12_ahead_144 : decode cX12_ahead 144 = .ok (.iload 6, 2) := by decide +kernel
theorem dX12_ahead_146 : decode cX12_ahead 146 = .ok (.invokevirtual 186, 3) := by decide +kernel
theorem dX12_ahead_149 : decode cX12_ahead 149 = .ok (.aload_n 0, 1) := by decide +kernel
theorem dX12_ahead_150 : decode cX12_ahead 150 = .ok (.iload_n 2, 1) := by decide +kernel
theorem dX12_ahead_151 : decode cX12_ahead 151 = .ok (.iload 6, 2) := by decide +kernel
theorem dX12_ahead_153 : decode cX12_ahead 153 = .ok (.invokevirtual 186, 3) := by decide +kernel
theorem dX12_ahead_156 : decode cX12_ahead 156 = .ok (.if_icmp .ge 7, 3) := by decide +kernel
theorem dX12_ahead_159 : decode cX12_ahead 159 = .ok (.iconst 1, 1) := by decide +kernel
theorem dX12_ahead_160 : decode cX12_ahead 160 = .ok (.goto 25, 3) := by decide +kernel
theorem dX12_ahead_163 : decode cX12_ahead 163 = .ok (.aload_n 0, 1) := by decide +kernel
theorem dX12_ahead_164 : decode cX12_ahead 164 = .ok (.iload_n 1, 1) := by decide +kernel
theorem dX12_ahead_165 : decode cX12_ahead 165 = .ok (.iload 6, 2) := by decide +kernel
theorem dX12_ahead_167 : decode cX12_ahead 167 = .ok (.invokevirtual 186, 3) := by decide +kernel
theorem dX12_ahead_170 : decode cX12_ahead 170 = .ok (.aload_n 0, 1) := by decide +kernel
theorem dX12_ahead_171 : decode cX12_ahead 171 = .ok (.iload_n 2, 1) := by decide +kernel
theorem dX12_ahead_172 : decode cX12_ahead 172 = .ok (.iload 6, 2) := by decide +kernel
theorem dX12_ahead_174 : decode cX12_ahead 174 = .ok (.invokevirtual 186, 3) := by decide +kernel
theorem dX12_ahead_177 : decode cX12_ahead 177 = .ok (.if_icmp .le 7, 3) := by decide +kernel
theorem dX12_ahead_180 : decode cX12_ahead 180 = .ok (.iconst (-1), 1) := by decide +kernel
theorem dX12_ahead_181 : decode cX12_ahead 181 = .ok (.goto 4, 3) := by decide +kernel
theorem dX12_ahead_184 : decode cX12_ahead 184 = .ok (.iconst 0, 1) := by decide +kernel
theorem dX12_ahead_185 : decode cX12_ahead 185 = .ok (.istore_n 3, 1) := by decide +kernel
theorem dX12_ahead_186 : decode cX12_ahead 186 = .ok (.iinc 6 1, 3) := by decide +kernel
theorem dX12_ahead_189 : decode cX12_ahead 189 = .ok (.goto (-58), 3) := by decide +kernel
theorem dX12_ahead_192 : decode cX12_ahead 192 = .ok (.iinc 4 1, 3) := by decide +kernel
theorem dX12_ahead_195 : decode cX12_ahead 195 = .ok (.goto (-149), 3) := by decide +kernel
theorem dX12_ahead_198 : decode cX12_ahead 198 = .ok (.iload_n 3, 1) := by decide +kernel
theorem dX12_ahead_199 : decode cX12_ahead 199 = .ok (.ireturn, 1) := by decide +kernel
def f_X12_ahead_131 (N : Nat) (k46 : Nat → Int32 → Int32 → Int32 → Int32 → zH → Option Int32) : Nat → Nat → Int32 → Int32 → Int32 → Int32 → Int32 → zH → Option Int32
  | 0, _, _, _, _, _, _, _ => none
  | n + 1, l0, l1, l2, l3, l4, l6, h => if (8 : Int32) ≤ l6 then k46 l0 l1 l2 l3 (l4 + (1 : Int32)) h else if l3 = 0 then (zck h 12 (some l0)).bind fun q1 => (f_X12_square N q1 l1 l6 h).bind fun x1 => (zck h 12 (some l0)).bind fun q2 => (f_X12_square N q2 l2 l6 h).bind fun x2 => if x2 ≤ x1 then (zck h 12 (some l0)).bind fun q3 => (f_X12_square N q3 l1 l6 h).bind fun x3 => (zck h 12 (some l0)).bind fun q4 => (f_X12_square N q4 l2 l6 h).bind fun x4 => if x3 ≤ x4 then f_X12_ahead_131 N k46 n l0 l1 l2 (0 : Int32) l4 (l6 + (1 : Int32)) h else f_X12_ahead_131 N k46 n l0 l1 l2 ((-1) : Int32) l4 (l6 + (1 : Int32)) h else f_X12_ahead_131 N k46 n l0 l1 l2 (1 : Int32) l4 (l6 + (1 : Int32)) h else k46 l0 l1 l2 l3 (l4 + (1 : Int32)) h
set_option maxHeartbeats 4000000 in
set_option maxRecDepth 100000 in
theorem s_X12_ahead_131 {g : zG} (hg : g.2.1.map (fun q => q.2) = zty) {h0 : zH} (N : Nat) (k46 : Nat → Int32 → Int32 → Int32 → Int32 → zH → Option Int32) (hk46 : ∀ (l0 : Nat) (l1 : Int32) (l2 : Int32) (l3 : Int32) (l4 : Int32) (h : zH) (r : Int32), k46 l0 l1 l2 l3 l4 h = some r → zR g jX12_ahead h0 46 [some (zr (some l0)), some (zi l1), some (zi l2), some (zi l3), some (zi l4), none, none] [] h (some (zi r)) h) : ∀ (n : Nat) (l0 : Nat) (l1 : Int32) (l2 : Int32) (l3 : Int32) (l4 : Int32) (l6 : Int32) (h : zH) (r : Int32), f_X12_ahead_131 N k46 n l0 l1 l2 l3 l4 l6 h = some r → zR g jX12_ahead h0 131 [some (zr (some l0)), some (zi l1), some (zi l2), some (zi l3), some (zi l4), none, some (zi l6)] [] h (some (zi r)) h := by
  intro n
  induction n with
  | zero =>
    intro l0 l1 l2 l3 l4 l6 h r hf
    cases hf
  | succ n ih =>
    intro l0 l1 l2 l3 l4 l6 h r hf
    rw [f_X12_ahead_131] at hf
    refine zr_iload (x := l6) dX12_ahead_131 rfl ?_
    refine zr_bipush (v := (8 : Int32)) dX12_ahead_133 (by decide) ?_
    by_cases hc1 : (8 : Int32) ≤ l6
    · rw [if_pos hc1] at hf
      refine zr_icge_t (tgt := 192) dX12_ahead_135 (by decide) hc1 ?_
      refine zq_iinc (x := l4) (y := (1 : Int32)) (L' := [some (zr (some l0)), some (zi l1), some (zi l2), some (zi l3), some (zi (l4 + (1 : Int32))), none, some (zi l6)]) dX12_ahead_192 rfl (by decide) (by decide) rfl ?_
      refine zr_goto (tgt := 46) dX12_ahead_195 (by decide) ?_
      refine zr_forget 6 (L' := [some (zr (some l0)), some (zi l1), some (zi l2), some (zi l3), some (zi (l4 + (1 : Int32))), none, none]) rfl ?_
      exact hk46 l0 l1 l2 l3 (l4 + (1 : Int32)) h r hf
    · rw [if_neg hc1] at hf
      refine zr_icge_f 192 dX12_ahead_135 (by decide) hc1 ?_
      refine zr_iload_n (x := l3) dX12_ahead_138 rfl rfl ?_
      by_cases hc2 : l3 = 0
      · rw [if_pos hc2] at hf
        refine zr_ifne_f 192 dX12_ahead_139 (by decide) hc2 ?_
        refine zr_aload_n (v := .inl (some l0)) dX12_ahead_142 rfl rfl ?_
        refine zr_iload_n (x := l1) dX12_ahead_143 rfl rfl ?_
        refine zr_iload (x := l6) dX12_ahead_144 rfl ?_
        revert hf; refine zbi (fun q1 e_q1 hf => ?_)
        revert hf; refine zbi (fun x1 e_x1 hf => ?_)
        refine zq_callV (J' := jX12_square) (as := [zi l1, zi l6]) (rest := []) (r1 := (some (zi x1))) (q := (RX12, TX12, 31)) kw_715 km_X12_square kt_629 dX12_ahead_146 rfl (Nat.le_of_ble_eq_true rfl) rfl rfl e_q1 rfl (c_X12_square hg e_x1) ?_
        refine zr_aload_n (v := .inl (some l0)) dX12_ahead_149 rfl rfl ?_
        refine zr_iload_n (x := l2) dX12_ahead_150 rfl rfl ?_
        refine zr_iload (x := l6) dX12_ahead_151 rfl ?_
        revert hf; refine zbi (fun q2 e_q2 hf => ?_)
        revert hf; refine zbi (fun x2 e_x2 hf => ?_)
        refine zq_callV (J' := jX12_square) (as := [zi l2, zi l6]) (rest := [zi x1]) (r1 := (some (zi x2))) (q := (RX12, TX12, 31)) kw_715 km_X12_square kt_629 dX12_ahead_153 rfl (Nat.le_of_ble_eq_true rfl) rfl rfl e_q2 rfl (c_X12_square hg e_x2) ?_
        by_cases hc3 : x2 ≤ x1
        · rw [if_pos hc3] at hf
          refine zr_icge_t (tgt := 163) dX12_ahead_156 (by decide) hc3 ?_
          refine zr_aload_n (v := .inl (some l0)) dX12_ahead_163 rfl rfl ?_
          refine zr_iload_n (x := l1) dX12_ahead_164 rfl rfl ?_
          refine zr_iload (x := l6) dX12_ahead_165 rfl ?_
          revert hf; refine zbi (fun q3 e_q3 hf => ?_)
          revert hf; refine zbi (fun x3 e_x3 hf => ?_)
          refine zq_callV (J' := jX12_square) (as := [zi l1, zi l6]) (rest := []) (r1 := (some (zi x3))) (q := (RX12, TX12, 31)) kw_715 km_X12_square kt_629 dX12_ahead_167 rfl (Nat.le_of_ble_eq_true rfl) rfl rfl e_q3 rfl (c_X12_square hg e_x3) ?_
          refine zr_aload_n (v := .inl (some l0)) dX12_ahead_170 rfl rfl ?_
          refine zr_iload_n (x := l2) dX12_ahead_171 rfl rfl ?_
          refine zr_iload (x := l6) dX12_ahead_172 rfl ?_
          revert hf; refine zbi (fun q4 e_q4 hf => ?_)
          revert hf; refine zbi (fun x4 e_x4 hf => ?_)
          refine zq_callV (J' := jX12_square) (as := [zi l2, zi l6]) (rest := [zi x3]) (r1 := (some (zi x4))) (q := (RX12, TX12, 31)) kw_715 km_X12_square kt_629 dX12_ahead_174 rfl (Nat.le_of_ble_eq_true rfl) rfl rfl e_q4 rfl (c_X12_square hg e_x4) ?_
          by_cases hc4 : x3 ≤ x4
          · rw [if_pos hc4] at hf
            refine zr_icle_t (tgt := 184) dX12_ahead_177 (by decide) hc4 ?_
            refine zr_iconst (v := (0 : Int32)) dX12_ahead_184 (by decide) ?_
            refine zq_istore_n (x := (0 : Int32)) (L' := [some (zr (some l0)), some (zi l1), some (zi l2), some (zi (0 : Int32)), some (zi l4), none, some (zi l6)]) dX12_ahead_185 rfl (by decide) rfl ?_
            refine zq_iinc (x := l6) (y := (1 : Int32)) (L' := [some (zr (some l0)), some (zi l1), some (zi l2), some (zi (0 : Int32)), some (zi l4), none, some (zi (l6 + (1 : Int32)))]) dX12_ahead_186 rfl (by decide) (by decide) rfl ?_
            refine zr_goto (tgt := 131) dX12_ahead_189 (by decide) ?_
            exact ih l0 l1 l2 (0 : Int32) l4 (l6 + (1 : Int32)) h r hf
          · rw [if_neg hc4] at hf
            refine zr_icle_f 184 dX12_ahead_177 (by decide) hc4 ?_
            refine zr_iconst (v := ((-1) : Int32)) dX12_ahead_180 (by decide) ?_
            refine zr_goto (tgt := 185) dX12_ahead_181 (by decide) ?_
            refine zq_istore_n (x := ((-1) : Int32)) (L' := [some (zr (some l0)), some (zi l1), some (zi l2), some (zi ((-1) : Int32)), some (zi l4), none, some (zi l6)]) dX12_ahead_185 rfl (by decide) rfl ?_
            refine zq_iinc (x := l6) (y := (1 : Int32)) (L' := [some (zr (some l0)), some (zi l1), some (zi l2), some (zi ((-1) : Int32)), some (zi l4), none, some (zi (l6 + (1 : Int32)))]) dX12_ahead_186 rfl (by decide) (by decide) rfl ?_
            refine zr_goto (tgt := 131) dX12_ahead_189 (by decide) ?_
            exact ih l0 l1 l2 ((-1) : Int32) l4 (l6 + (1 : Int32)) h r hf
        · rw [if_neg hc3] at hf
          refine zr_icge_f 163 dX12_ahead_156 (by decide) hc3 ?_
          refine zr_iconst (v := (1 : Int32)) dX12_ahead_159 (by decide) ?_
          refine zr_goto (tgt := 185) dX12_ahead_160 (by decide) ?_
          refine zq_istore_n (x := (1 : Int32)) (L' := [some (zr (some l0)), some (zi l1), some (zi l2), some (zi (1 : Int32)), some (zi l4), none, some (zi l6)]) dX12_ahead_185 rfl (by decide) rfl ?_
          refine zq_iinc (x := l6) (y := (1 : Int32)) (L' := [some (zr (some l0)), some (zi l1), some (zi l2), some (zi (1 : Int32)), some (zi l4), none, some (zi (l6 + (1 : Int32)))]) dX12_ahead_186 rfl (by decide) (by decide) rfl ?_
          refine zr_goto (tgt := 131) dX12_ahead_189 (by decide) ?_
          exact ih l0 l1 l2 (1 : Int32) l4 (l6 + (1 : Int32)) h r hf
      · rw [if_neg hc2] at hf
        refine zr_ifne_t (tgt := 192) dX12_ahead_139 (by decide) hc2 ?_
        refine zq_iinc (x := l4) (y := (1 : Int32)) (L' := [some (zr (some l0)), some (zi l1), some (zi l2), some (zi l3), some (zi (l4 + (1 : Int32))), none, some (zi l6)]) dX12_ahead_192 rfl (by decide) (by decide) rfl ?_
        refine zr_goto (tgt := 46) dX12_ahead_195 (by decide) ?_
        refine zr_forget 6 (L' := [some (zr (some l0)), some (zi l1), some (zi l2), some (zi l3), some (zi (l4 + (1 : Int32))), none, none]) rfl ?_
        exact hk46 l0 l1 l2 l3 (l4 + (1 : Int32)) h r hf
def f_X12_ahead_46 (N : Nat) : Nat → Nat → Int32 → Int32 → Int32 → Int32 → zH → Option Int32
  | 0, _, _, _, _, _, _ => none
  | n + 1, l0, l1, l2, l3, l4, h => (zgR h 12 (some l0) 0).bind fun x1 => (zld h 0 x1 (115 : Int32)).bind fun x2 => if x2 ≤ l4 then some l3 else if l3 = 0 then (zgR h 12 (some l0) 0).bind fun x3 => (zld h 0 x3 ((116 : Int32) + l4)).bind fun x4 => if x4 = (21 : Int32) then (zck h 12 (some l0)).bind fun q3 => (f_X12_lastEnd N q3 l1 h).bind fun x8 => (zck h 12 (some l0)).bind fun q4 => (f_X12_lastEnd N q4 l2 h).bind fun x9 => (f_X12_signOf N (x8 - x9) h).bind fun x10 => f_X12_ahead_46 N n l0 l1 l2 x10 (l4 + (1 : Int32)) h else if (21 : Int32) ≤ x4 then f_X12_ahead_131 N (fun l0 l1 l2 l3 l4 h => f_X12_ahead_46 N n l0 l1 l2 l3 l4 h) N l0 l1 l2 l3 l4 (0 : Int32) h else (zck h 12 (some l0)).bind fun q1 => (f_X12_most N q1 l1 x4 h).bind fun x5 => (zck h 12 (some l0)).bind fun q2 => (f_X12_most N q2 l2 x4 h).bind fun x6 => (f_X12_signOf N (x5 - x6) h).bind fun x7 => f_X12_ahead_46 N n l0 l1 l2 x7 (l4 + (1 : Int32)) h else some l3
set_option maxHeartbeats 4000000 in
set_option maxRecDepth 100000 in
theorem s_X12_ahead_46 {g : zG} (hg : g.2.1.map (fun q => q.2) = zty) {h0 : zH} (N : Nat) : ∀ (n : Nat) (l0 : Nat) (l1 : Int32) (l2 : Int32) (l3 : Int32) (l4 : Int32) (h : zH) (r : Int32), f_X12_ahead_46 N n l0 l1 l2 l3 l4 h = some r → zR g jX12_ahead h0 46 [some (zr (some l0)), some (zi l1), some (zi l2), some (zi l3), some (zi l4), none, none] [] h (some (zi r)) h := by
  intro n
  induction n with
  | zero =>
    intro l0 l1 l2 l3 l4 h r hf
    cases hf
  | succ n ih =>
    intro l0 l1 l2 l3 l4 h r hf
    rw [f_X12_ahead_46] at hf
    refine zr_iload (x := l4) dX12_ahead_46 rfl ?_
    refine zr_aload_n (v := .inl (some l0)) dX12_ahead_48 rfl rfl ?_
    revert hf; refine zbi (fun x1 e_x1 hf => ?_)
    refine zq_getR kg_490 dX12_ahead_49 e_x1 ?_
    refine zr_bipush (v := (115 : Int32)) dX12_ahead_52 (by decide) ?_
    revert hf; refine zbi (fun x2 e_x2 hf => ?_)
    refine zq_iald dX12_ahead_54 e_x2 ?_
    by_cases hc1 : x2 ≤ l4
    · rw [if_pos hc1] at hf
      refine zr_icge_t (tgt := 198) dX12_ahead_55 (by decide) hc1 ?_
      refine zr_iload_n (x := l3) dX12_ahead_198 rfl rfl ?_
      cases hf
      exact zr_ret _ rfl dX12_ahead_199
    · rw [if_neg hc1] at hf
      refine zr_icge_f 198 dX12_ahead_55 (by decide) hc1 ?_
      refine zr_iload_n (x := l3) dX12_ahead_58 rfl rfl ?_
      by_cases hc2 : l3 = 0
      · rw [if_pos hc2] at hf
        refine zr_ifne_f 198 dX12_ahead_59 (by decide) hc2 ?_
        refine zr_aload_n (v := .inl (some l0)) dX12_ahead_62 rfl rfl ?_
        revert hf; refine zbi (fun x3 e_x3 hf => ?_)
        refine zq_getR kg_490 dX12_ahead_63 e_x3 ?_
        refine zr_bipush (v := (116 : Int32)) dX12_ahead_66 (by decide) ?_
        refine zr_iload (x := l4) dX12_ahead_68 rfl ?_
        refine zr_iadd dX12_ahead_70 ?_
        revert hf; refine zbi (fun x4 e_x4 hf => ?_)
        refine zq_iald dX12_ahead_71 e_x4 ?_
        refine zq_istore (x := x4) (L' := [some (zr (some l0)), some (zi l1), some (zi l2), some (zi l3), some (zi l4), some (zi x4), none]) dX12_ahead_72 (by decide) rfl ?_
        refine zr_iload (x := x4) dX12_ahead_74 rfl ?_
        refine zr_bipush (v := (21 : Int32)) dX12_ahead_76 (by decide) ?_
        by_cases hc3 : x4 = (21 : Int32)
        · rw [if_pos hc3] at hf
          refine zr_icne_f 99 dX12_ahead_78 (by decide) hc3 ?_
          refine zr_aload_n (v := .inl (some l0)) dX12_ahead_81 rfl rfl ?_
          refine zr_iload_n (x := l1) dX12_ahead_82 rfl rfl ?_
          revert hf; refine zbi (fun q3 e_q3 hf => ?_)
          revert hf; refine zbi (fun x8 e_x8 hf => ?_)
          refine zq_callV (J' := jX12_lastEnd) (as := [zi l1]) (rest := []) (r1 := (some (zi x8))) (q := (RX12, TX12, 31)) kw_702 km_X12_lastEnd kt_634 dX12_ahead_83 rfl (Nat.le_of_ble_eq_true rfl) rfl rfl e_q3 rfl (c_X12_lastEnd hg e_x8) ?_
          refine zr_aload_n (v := .inl (some l0)) dX12_ahead_86 rfl rfl ?_
          refine zr_iload_n (x := l2) dX12_ahead_87 rfl rfl ?_
          revert hf; refine zbi (fun q4 e_q4 hf => ?_)
          revert hf; refine zbi (fun x9 e_x9 hf => ?_)
          refine zq_callV (J' := jX12_lastEnd) (as := [zi l2]) (rest := [zi x8]) (r1 := (some (zi x9))) (q := (RX12, TX12, 31)) kw_702 km_X12_lastEnd kt_634 dX12_ahead_88 rfl (Nat.le_of_ble_eq_true rfl) rfl rfl e_q4 rfl (c_X12_lastEnd hg e_x9) ?_
          refine zr_isub dX12_ahead_91 ?_
          revert hf; refine zbi (fun x10 e_x10 hf => ?_)
          refine zq_callS (J' := jX12_signOf) (as := [zi (x8 - x9)]) (rest := []) (r1 := (some (zi x10))) kw_723 km_X12_signOf kt_633 dX12_ahead_92 rfl (Nat.le_of_ble_eq_true rfl) rfl (c_X12_signOf hg e_x10) ?_
          refine zq_istore_n (x := x10) (L' := [some (zr (some l0)), some (zi l1), some (zi l2), some (zi x10), some (zi l4), some (zi x4), none]) dX12_ahead_95 rfl (by decide) rfl ?_
          refine zr_goto (tgt := 192) dX12_ahead_96 (by decide) ?_
          refine zq_iinc (x := l4) (y := (1 : Int32)) (L' := [some (zr (some l0)), some (zi l1), some (zi l2), some (zi x10), some (zi (l4 + (1 : Int32))), some (zi x4), none]) dX12_ahead_192 rfl (by decide) (by decide) rfl ?_
          refine zr_goto (tgt := 46) dX12_ahead_195 (by decide) ?_
          refine zr_forget 5 (L' := [some (zr (some l0)), some (zi l1), some (zi l2), some (zi x10), some (zi (l4 + (1 : Int32))), none, none]) rfl ?_
          exact ih l0 l1 l2 x10 (l4 + (1 : Int32)) h r hf
        · rw [if_neg hc3] at hf
          refine zr_icne_t (tgt := 99) dX12_ahead_78 (by decide) hc3 ?_
          refine zr_iload (x := x4) dX12_ahead_99 rfl ?_
          refine zr_bipush (v := (21 : Int32)) dX12_ahead_101 (by decide) ?_
          by_cases hc4 : (21 : Int32) ≤ x4
          · rw [if_pos hc4] at hf
            refine zr_icge_t (tgt := 128) dX12_ahead_103 (by decide) hc4 ?_
            refine zr_iconst (v := (0 : Int32)) dX12_ahead_128 (by decide) ?_
            refine zq_istore (x := (0 : Int32)) (L' := [some (zr (some l0)), some (zi l1), some (zi l2), some (zi l3), some (zi l4), some (zi x4), some (zi (0 : Int32))]) dX12_ahead_129 (by decide) rfl ?_
            refine zr_forget 5 (L' := [some (zr (some l0)), some (zi l1), some (zi l2), some (zi l3), some (zi l4), none, some (zi (0 : Int32))]) rfl ?_
            exact s_X12_ahead_131 hg N _ ih N l0 l1 l2 l3 l4 (0 : Int32) h r hf
          · rw [if_neg hc4] at hf
            refine zr_icge_f 128 dX12_ahead_103 (by decide) hc4 ?_
            refine zr_aload_n (v := .inl (some l0)) dX12_ahead_106 rfl rfl ?_
            refine zr_iload_n (x := l1) dX12_ahead_107 rfl rfl ?_
            refine zr_iload (x := x4) dX12_ahead_108 rfl ?_
            revert hf; refine zbi (fun q1 e_q1 hf => ?_)
            revert hf; refine zbi (fun x5 e_x5 hf => ?_)
            refine zq_callV (J' := jX12_most) (as := [zi l1, zi x4]) (rest := []) (r1 := (some (zi x5))) (q := (RX12, TX12, 31)) kw_719 km_X12_most kt_631 dX12_ahead_110 rfl (Nat.le_of_ble_eq_true rfl) rfl rfl e_q1 rfl (c_X12_most hg e_x5) ?_
            refine zr_aload_n (v := .inl (some l0)) dX12_ahead_113 rfl rfl ?_
            refine zr_iload_n (x := l2) dX12_ahead_114 rfl rfl ?_
            refine zr_iload (x := x4) dX12_ahead_115 rfl ?_
            revert hf; refine zbi (fun q2 e_q2 hf => ?_)
            revert hf; refine zbi (fun x6 e_x6 hf => ?_)
            refine zq_callV (J' := jX12_most) (as := [zi l2, zi x4]) (rest := [zi x5]) (r1 := (some (zi x6))) (q := (RX12, TX12, 31)) kw_719 km_X12_most kt_631 dX12_ahead_117 rfl (Nat.le_of_ble_eq_true rfl) rfl rfl e_q2 rfl (c_X12_most hg e_x6) ?_
            refine zr_isub dX12_ahead_120 ?_
            revert hf; refine zbi (fun x7 e_x7 hf => ?_)
            refine zq_callS (J' := jX12_signOf) (as := [zi (x5 - x6)]) (rest := []) (r1 := (some (zi x7))) kw_723 km_X12_signOf kt_633 dX12_ahead_121 rfl (Nat.le_of_ble_eq_true rfl) rfl (c_X12_signOf hg e_x7) ?_
            refine zq_istore_n (x := x7) (L' := [some (zr (some l0)), some (zi l1), some (zi l2), some (zi x7), some (zi l4), some (zi x4), none]) dX12_ahead_124 rfl (by decide) rfl ?_
            refine zr_goto (tgt := 192) dX12_ahead_125 (by decide) ?_
            refine zq_iinc (x := l4) (y := (1 : Int32)) (L' := [some (zr (some l0)), some (zi l1), some (zi l2), some (zi x7), some (zi (l4 + (1 : Int32))), some (zi x4), none]) dX12_ahead_192 rfl (by decide) (by decide) rfl ?_
            refine zr_goto (tgt := 46) dX12_ahead_195 (by decide) ?_
            refine zr_forget 5 (L' := [some (zr (some l0)), some (zi l1), some (zi l2), some (zi x7), some (zi (l4 + (1 : Int32))), none, none]) rfl ?_
            exact ih l0 l1 l2 x7 (l4 + (1 : Int32)) h r hf
      · rw [if_neg hc2] at hf
        refine zr_ifne_t (tgt := 198) dX12_ahead_59 (by decide) hc2 ?_
        refine zr_iload_n (x := l3) dX12_ahead_198 rfl rfl ?_
        cases hf
        exact zr_ret _ rfl dX12_ahead_199
def f_X12_ahead (N : Nat) (l0 : Nat) (l1 : Int32) (l2 : Int32) (h : zH) : Option Int32 := (zck h 12 (some l0)).bind fun q1 => (f_X12_isArcher N q1 l1 h).bind fun x1 => if x1 = 0 then some ((-2) : Int32) else (zck h 12 (some l0)).bind fun q2 => (f_X12_isArcher N q2 l2 h).bind fun x2 => if x2 = 0 then some ((-2) : Int32) else (zgR h 12 (some l0) 0).bind fun x3 => (zld h 0 x3 (0 : Int32)).bind fun x4 => if x4 = 0 then some ((-2) : Int32) else (zck h 12 (some l0)).bind fun q3 => (f_X12_total N q3 l1 h).bind fun x5 => (zck h 12 (some l0)).bind fun q4 => (f_X12_total N q4 l2 h).bind fun x6 => (f_X12_signOf N (x5 - x6) h).bind fun x7 => f_X12_ahead_46 N N l0 l1 l2 x7 (0 : Int32) h
set_option maxHeartbeats 4000000 in
set_option maxRecDepth 100000 in
theorem s_X12_ahead {g : zG} (hg : g.2.1.map (fun q => q.2) = zty) {h0 : zH} (N : Nat) (l0 : Nat) (l1 : Int32) (l2 : Int32) (h : zH) (r : Int32) (hf : f_X12_ahead N l0 l1 l2 h = some r) : zR g jX12_ahead h0 0 [some (zr (some l0)), some (zi l1), some (zi l2), none, none, none, none] [] h (some (zi r)) h := by
  unfold f_X12_ahead at hf
  refine zr_aload_n (v := .inl (some l0)) dX12_ahead_0 rfl rfl ?_
  refine zr_iload_n (x := l1) dX12_ahead_1 rfl rfl ?_
  revert hf; refine zbi (fun q1 e_q1 hf => ?_)
  revert hf; refine zbi (fun x1 e_x1 hf => ?_)
  refine zq_callV (J' := jX12_isArcher) (as := [zi l1]) (rest := []) (r1 := (some (zi x1))) (q := (RX12, TX12, 31)) kw_682 km_X12_isArcher kt_635 dX12_ahead_2 rfl (Nat.le_of_ble_eq_true rfl) rfl rfl e_q1 rfl (c_X12_isArcher hg e_x1) ?_
  by_cases hc1 : x1 = 0
  · rw [if_pos hc1] at hf
    refine zr_ifeq_t (tgt := 25) dX12_ahead_5 (by decide) hc1 ?_
    refine zr_bipush (v := ((-2) : Int32)) dX12_ahead_25 (by decide) ?_
    cases hf
    exact zr_ret _ rfl dX12_ahead_27
  · rw [if_neg hc1] at hf
    refine zr_ifeq_f 25 dX12_ahead_5 (by decide) hc1 ?_
    refine zr_aload_n (v := .inl (some l0)) dX12_ahead_8 rfl rfl ?_
    refine zr_iload_n (x := l2) dX12_ahead_9 rfl rfl ?_
    revert hf; refine zbi (fun q2 e_q2 hf => ?_)
    revert hf; refine zbi (fun x2 e_x2 hf => ?_)
    refine zq_callV (J' := jX12_isArcher) (as := [zi l2]) (rest := []) (r1 := (some (zi x2))) (q := (RX12, TX12, 31)) kw_682 km_X12_isArcher kt_635 dX12_ahead_10 rfl (Nat.le_of_ble_eq_true rfl) rfl rfl e_q2 rfl (c_X12_isArcher hg e_x2) ?_
    by_cases hc2 : x2 = 0
    · rw [if_pos hc2] at hf
      refine zr_ifeq_t (tgt := 25) dX12_ahead_13 (by decide) hc2 ?_
      refine zr_bipush (v := ((-2) : Int32)) dX12_ahead_25 (by decide) ?_
      cases hf
      exact zr_ret _ rfl dX12_ahead_27
    · rw [if_neg hc2] at hf
      refine zr_ifeq_f 25 dX12_ahead_13 (by decide) hc2 ?_
      refine zr_aload_n (v := .inl (some l0)) dX12_ahead_16 rfl rfl ?_
      revert hf; refine zbi (fun x3 e_x3 hf => ?_)
      refine zq_getR kg_490 dX12_ahead_17 e_x3 ?_
      refine zr_iconst (v := (0 : Int32)) dX12_ahead_20 (by decide) ?_
      revert hf; refine zbi (fun x4 e_x4 hf => ?_)
      refine zq_iald dX12_ahead_21 e_x4 ?_
      by_cases hc3 : x4 = 0
      · rw [if_pos hc3] at hf
        refine zr_ifne_f 28 dX12_ahead_22 (by decide) hc3 ?_
        refine zr_bipush (v := ((-2) : Int32)) dX12_ahead_25 (by decide) ?_
        cases hf
        exact zr_ret _ rfl dX12_ahead_27
      · rw [if_neg hc3] at hf
        refine zr_ifne_t (tgt := 28) dX12_ahead_22 (by decide) hc3 ?_
        refine zr_aload_n (v := .inl (some l0)) dX12_ahead_28 rfl rfl ?_
        refine zr_iload_n (x := l1) dX12_ahead_29 rfl rfl ?_
        revert hf; refine zbi (fun q3 e_q3 hf => ?_)
        revert hf; refine zbi (fun x5 e_x5 hf => ?_)
        refine zq_callV (J' := jX12_total) (as := [zi l1]) (rest := []) (r1 := (some (zi x5))) (q := (RX12, TX12, 31)) kw_698 km_X12_total kt_636 dX12_ahead_30 rfl (Nat.le_of_ble_eq_true rfl) rfl rfl e_q3 rfl (c_X12_total hg e_x5) ?_
        refine zr_aload_n (v := .inl (some l0)) dX12_ahead_33 rfl rfl ?_
        refine zr_iload_n (x := l2) dX12_ahead_34 rfl rfl ?_
        revert hf; refine zbi (fun q4 e_q4 hf => ?_)
        revert hf; refine zbi (fun x6 e_x6 hf => ?_)
        refine zq_callV (J' := jX12_total) (as := [zi l2]) (rest := [zi x5]) (r1 := (some (zi x6))) (q := (RX12, TX12, 31)) kw_698 km_X12_total kt_636 dX12_ahead_35 rfl (Nat.le_of_ble_eq_true rfl) rfl rfl e_q4 rfl (c_X12_total hg e_x6) ?_
        refine zr_isub dX12_ahead_38 ?_
        revert hf; refine zbi (fun x7 e_x7 hf => ?_)
        refine zq_callS (J' := jX12_signOf) (as := [zi (x5 - x6)]) (rest := []) (r1 := (some (zi x7))) kw_723 km_X12_signOf kt_633 dX12_ahead_39 rfl (Nat.le_of_ble_eq_true rfl) rfl (c_X12_signOf hg e_x7) ?_
        refine zq_istore_n (x := x7) (L' := [some (zr (some l0)), some (zi l1), some (zi l2), some (zi x7), none, none, none]) dX12_ahead_42 rfl (by decide) rfl ?_
        refine zr_iconst (v := (0 : Int32)) dX12_ahead_43 (by decide) ?_
        refine zq_istore (x := (0 : Int32)) (L' := [some (zr (some l0)), some (zi l1), some (zi l2), some (zi x7), some (zi (0 : Int32)), none, none]) dX12_ahead_44 (by decide) rfl ?_
        exact s_X12_ahead_46 hg N N l0 l1 l2 x7 (0 : Int32) h r hf
theorem c_X12_ahead {g : zG} (hg : g.2.1.map (fun q => q.2) = zty) {N : Nat} {l0 : Nat} {l1 : Int32} {l2 : Int32} {h : zH} {r : Int32} (hf : f_X12_ahead N l0 l1 l2 h = some r) : zCa g jX12_ahead [zr (some l0), zi l1, zi l2] h (some (zi r)) h :=
  zCa.of hg (by decide +kernel) (Nat.le_of_ble_eq_true rfl) (s_X12_ahead hg N l0 l1 l2 h r hf)
