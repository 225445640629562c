theorem dX12_isParted_0 : decode cX12_isParted 0 = .ok (.iconst 0, 1) := by decide +kernel
theorem dX12_isParted_1 : decode cX12_isParted 1 = .ok (.istore_n 2, 1) := by decide +kernel
theorem dX12_isParted_2 : decode cX12_isParted 2 = .ok (.iload_n 2, 1) := by decide +kernel
theorem dX12_isParted_3 : decode cX12_isParted 3 = .ok (.iload_n 1, 1) := by decide +kernel
theorem dX12_isParted_4 : decode cX12_isParted 4 = .ok (.if_icmp .ge 96, 3) := by decide +kernel
theorem dX12_isParted_7 : decode cX12_isParted 7 = .ok (.aload_n 0, 1) := by decide +kernel
theorem dX12_isParted_8 : decode cX12_isParted 8 = .ok (.getfield 8, 3) := by decide +kernel
theorem dX12_isParted_11 : decode cX12_isParted 11 = .ok (.bipush 125, 2) := by decide +kernel
theorem dX12_isParted_13 : decode cX12_isParted 13 = .ok (.aload_n 0, 1) := by decide +kernel
theorem dX12_isParted_14 : decode cX12_isParted 14 = .ok (.getfield 65, 3) := by decide +kernel
theorem dX12_isParted_17 : decode cX12_isParted 17 = .ok (.iload_n 2, 1) := by decide +kernel
theorem dX12_isParted_18 : decode cX12_isParted 18 = .ok (.iaload, 1) := by decide +kernel
theorem dX12_isParted_19 : decode cX12_isParted 19 = .ok (.iadd, 1) := by decide +kernel
theorem dX12_isParted_20 : decode cX12_isParted 20 = .ok (.iaload, 1) := by decide +kernel
theorem dX12_isParted_21 : decode cX12_isParted 21 = .ok (.aload_n 0, 1) := by decide +kernel
theorem dX12_isParted_22 : decode cX12_isParted 22 = .ok (.getfield 8, 3) := by decide +kernel
theorem dX12_isParted_25 : decode cX12_isParted 25 = .ok (.bipush 125, 2) := by decide +kernel
theorem dX12_isParted_27 : decode cX12_isParted 27 = .ok (.aload_n 0, 1) := by decide +kernel
theorem dX12_isParted_28 : decode cX12_isParted 28 = .ok (.getfield 65, 3) := by decide +kernel
theorem dX12_isParted_31 : decode cX12_isParted 31 = .ok (.iload_n 1, 1) := by decide +kernel
theorem dX12_isParted_32 : decode cX12_isParted 32 = .ok (.iaload, 1) := by decide +kernel
theorem dX12_isParted_33 : decode cX12_isParted 33 = .ok (.iadd, 1) := by decide +kernel
theorem dX12_isParted_34 : decode cX12_isParted 34 = .ok (.iaload, 1) := by decide +kernel
theorem dX12_isParted_35 : decode cX12_isParted 35 = .ok (.if_icmp .eq 6, 3) := by decide +kernel
theorem dX12_isParted_38 : decode cX12_isParted 38 = .ok (.goto 56, 3) := by decide +kernel
theorem dX12_isParted_41 : decode cX12_isParted 41 = .ok (.aload_n 0, 1) := by decide +kernel
theorem dX12_isParted_42 : decode cX12_isParted 42 = .ok (.getfield 68, 3) := by decide +kernel
theorem dX12_isParted_45 : decode cX12_isParted 45 = .ok (.iload_n 2, 1) := by decide +kernel
theorem dX12_isParted_46 : decode cX12_isParted 46 = .ok (.iaload, 1) := by decide +kernel
theorem dX12_isParted_47 : decode cX12_isParted 47 = .ok (.iconst 2, 1) := by decide +kernel
theorem dX12_isParted_48 : decode cX12_isParted 48 = .ok (.idiv, 1) := by decide +kernel
theorem dX12_isParted_49 : decode cX12_isParted 49 = .ok (.aload_n 0, 1) := by decide +kernel
theorem dX12_isParted_50 : decode cX12_isParted 50 = .ok (.getfield 68, 3) := by decide +kernel
theorem dX12_isParted_53 : decode cX12_isParted 53 = .ok (.iload_n 1, 1) := by decide +kernel
theorem dX12_isParted_54 : decode cX12_isParted 54 = .ok (.iaload, 1) := by decide +kernel
theorem dX12_isParted_55 : decode cX12_isParted 55 = .ok (.iconst 2, 1) := by decide +kernel
theorem dX12_isParted_56 : decode cX12_isParted 56 = .ok (.idiv, 1) := by decide +kernel
theorem dX12_isParted_57 : decode cX12_isParted 57 = .ok (.isub, 1) := by decide +kernel
theorem dX12_isParted_58 : decode cX12_isParted 58 = .ok (.istore_n 3, 1) := by decide +kernel
theorem dX12_isParted_59 : decode cX12_isParted 59 = .ok (.iload_n 3, 1) := by decide +kernel
theorem dX12_isParted_60 : decode cX12_isParted 60 = .ok (.ifCond .eq 32, 3) := by decide +kernel
theorem dX12_isParted_63 : decode cX12_isParted 63 = .ok (.iload_n 3, 1) := by decide +kernel
theorem dX12_isParted_64 : decode cX12_isParted 64 = .ok (.iconst 1, 1) := by decide +kernel
theorem dX12_isParted_65 : decode cX12_isParted 65 = .ok (.if_icmp .eq 8, 3) := by decide +kernel
theorem dX12_isParted_68 : decode cX12_isParted 68 = .ok (.iload_n 3, 1) := by decide +kernel
theorem dX12_isParted_69 : decode cX12_isParted 69 = .ok (.iconst (-1), 1) := by decide +kernel
theorem dX12_isParted_70 : decode cX12_isParted 70 = .ok (.if_icmp .ne 24, 3) := by decide +kernel
theorem dX12_isParted_73 : decode cX12_isParted 73 = .ok (.aload_n 0, 1) := by decide +kernel
theorem dX12_isParted_74 : decode cX12_isParted 74 = .ok (.getfield 68, 3) := by decide +kernel
theorem dX12_isParted_77 : decode cX12_isParted 77 = .ok (.iload_n 2, 1) := by decide +kernel
theorem dX12_isParted_78 : decode cX12_isParted 78 = .ok (.iaload, 1) := by decide +kernel
theorem dX12_isParted_79 : decode cX12_isParted 79 = .ok (.iconst 2, 1) := by decide +kernel
theorem dX12_isParted_80 : decode cX12_isParted 80 = .ok (.irem, 1) := by decide +kernel
theorem dX12_isParted_81 : decode cX12_isParted 81 = .ok (.aload_n 0, 1) := by decide +kernel
theorem dX12_isParted_82 : decode cX12_isParted 82 = .ok (.getfield 68, 3) := by decide +kernel
theorem dX12_isParted_85 : decode cX12_isParted 85 = .ok (.iload_n 1, 1) := by decide +kernel
theorem dX12_isParted_86 : decode cX12_isParted 86 = .ok (.iaload, 1) := by decide +kernel
theorem dX12_isParted_87 : decode cX12_isParted 87 = .ok (.iconst 2, 1) := by decide +kernel
theorem dX12_isParted_88 : decode cX12_isParted 88 = .ok (.irem, 1) := by decide +kernel
theorem dX12_isParted_89 : decode cX12_isParted 89 = .ok (.if_icmp .ne 5, 3) := by decide +kernel
theorem dX12_isParted_92 : decode cX12_isParted 92 = .ok (.iconst 0, 1) := by decide +kernel
theorem dX12_isParted_93 : decode cX12_isParted 93 = .ok (.ireturn, 1) := by decide +kernel
theorem dX12_isParted_94 : decode cX12_isParted 94 = .ok (.iinc 2 1, 3) := by decide +kernel
theorem dX12_isParted_97 : decode cX12_isParted 97 = .ok (.goto (-95), 3) := by decide +kernel
theorem dX12_isParted_100 : decode cX12_isParted 100 = .ok (.iconst 1, 1) := by decide +kernel
theorem dX12_isParted_101 : decode cX12_isParted 101 = .ok (.ireturn, 1) := by decide +kernel
def f_X12_isParted_73 (N : Nat) (k2 : Nat → Int32 → Int32 → zH → Option Int32) (l0 : Nat) (l1 : Int32) (l2 : Int32) (h : zH) : Option Int32 := (zgR h 12 (some l0) 30).bind fun x1 => (zld h 0 x1 l2).bind fun x2 => (zgR h 12 (some l0) 30).bind fun x3 => (zld h 0 x3 l1).bind fun x4 => if (x2 - x2 / (2 : Int32) * (2 : Int32)) = (x4 - x4 / (2 : Int32) * (2 : Int32)) then some (0 : Int32) else k2 l0 l1 (l2 + (1 : Int32)) h
set_option maxHeartbeats 4000000 in
set_option maxRecDepth 100000 in
theorem s_X12_isParted_73 {g : zG} (hg : g.2.1.map (fun q => q.2) = zty) {h0 : zH} (N : Nat) (k2 : Nat → Int32 → Int32 → zH → Option Int32) (hk2 : ∀ (l0 : Nat) (l1 : Int32) (l2 : Int32) (h : zH) (r : Int32), k2 l0 l1 l2 h = some r → zR g jX12_isParted h0 2 [some (zr (some l0)), some (zi l1), some (zi l2), none] [] h (some (zi r)) h) (l0 : Nat) (l1 : Int32) (l2 : Int32) (h : zH) (r : Int32) (hf : f_X12_isParted_73 N k2 l0 l1 l2 h = some r) : zR g jX12_isParted h0 73 [some (zr (some l0)), some (zi l1), some (zi l2), none] [] h (some (zi r)) h := by
  unfold f_X12_isParted_73 at hf
  refine zr_aload_n (v := .inl (some l0)) dX12_isParted_73 rfl rfl ?_
  revert hf; refine zbi (fun x1 e_x1 hf => ?_)
  refine zq_getR kg_652 dX12_isParted_74 e_x1 ?_
  refine zr_iload_n (x := l2) dX12_isParted_77 rfl rfl ?_
  revert hf; refine zbi (fun x2 e_x2 hf => ?_)
  refine zq_iald dX12_isParted_78 e_x2 ?_
  refine zr_iconst (v := (2 : Int32)) dX12_isParted_79 (by decide) ?_
  refine zr_irem (by decide) dX12_isParted_80 ?_
  refine zr_aload_n (v := .inl (some l0)) dX12_isParted_81 rfl rfl ?_
  revert hf; refine zbi (fun x3 e_x3 hf => ?_)
  refine zq_getR kg_652 dX12_isParted_82 e_x3 ?_
  refine zr_iload_n (x := l1) dX12_isParted_85 rfl rfl ?_
  revert hf; refine zbi (fun x4 e_x4 hf => ?_)
  refine zq_iald dX12_isParted_86 e_x4 ?_
  refine zr_iconst (v := (2 : Int32)) dX12_isParted_87 (by decide) ?_
  refine zr_irem (by decide) dX12_isParted_88 ?_
  by_cases hc1 : (x2 - x2 / (2 : Int32) * (2 : Int32)) = (x4 - x4 / (2 : Int32) * (2 : Int32))
  · rw [if_pos hc1] at hf
    refine zr_icne_f 94 dX12_isParted_89 (by decide) hc1 ?_
    refine zr_iconst (v := (0 : Int32)) dX12_isParted_92 (by decide) ?_
    cases hf
    exact zr_ret _ rfl dX12_isParted_93
  · rw [if_neg hc1] at hf
    refine zr_icne_t (tgt := 94) dX12_isParted_89 (by decide) hc1 ?_
    refine zq_iinc (x := l2) (y := (1 : Int32)) (L' := [some (zr (some l0)), some (zi l1), some (zi (l2 + (1 : Int32))), none]) dX12_isParted_94 rfl (by decide) (by decide) rfl ?_
    refine zr_goto (tgt := 2) dX12_isParted_97 (by decide) ?_
    exact hk2 l0 l1 (l2 + (1 : Int32)) h r hf
def f_X12_isParted_2 (N : Nat) : Nat → Nat → Int32 → Int32 → zH → Option Int32
  | 0, _, _, _, _ => none
  | n + 1, l0, l1, l2, h => if l1 ≤ l2 then some (1 : Int32) else (zgR h 12 (some l0) 0).bind fun x1 => (zgR h 12 (some l0) 29).bind fun x2 => (zld h 0 x2 l2).bind fun x3 => (zld h 0 x1 ((125 : Int32) + x3)).bind fun x4 => (zgR h 12 (some l0) 0).bind fun x5 => (zgR h 12 (some l0) 29).bind fun x6 => (zld h 0 x6 l1).bind fun x7 => (zld h 0 x5 ((125 : Int32) + x7)).bind fun x8 => if x4 = x8 then (zgR h 12 (some l0) 30).bind fun x9 => (zld h 0 x9 l2).bind fun x10 => (zgR h 12 (some l0) 30).bind fun x11 => (zld h 0 x11 l1).bind fun x12 => if ((x10 / (2 : Int32)) - (x12 / (2 : Int32))) = 0 then some (0 : Int32) else if ((x10 / (2 : Int32)) - (x12 / (2 : Int32))) = (1 : Int32) then f_X12_isParted_73 N (fun l0 l1 l2 h => f_X12_isParted_2 N n l0 l1 l2 h) l0 l1 l2 h else if ((x10 / (2 : Int32)) - (x12 / (2 : Int32))) = ((-1) : Int32) then f_X12_isParted_73 N (fun l0 l1 l2 h => f_X12_isParted_2 N n l0 l1 l2 h) l0 l1 l2 h else f_X12_isParted_2 N n l0 l1 (l2 + (1 : Int32)) h else f_X12_isParted_2 N n l0 l1 (l2 + (1 : Int32)) h
set_option maxHeartbeats 4000000 in
set_option maxRecDepth 100000 in
theorem s_X12_isParted_2 {g : zG} (hg : g.2.1.map (fun q => q.2) = zty) {h0 : zH} (N : Nat) : ∀ (n : Nat) (l0 : Nat) (l1 : Int32) (l2 : Int32) (h : zH) (r : Int32), f_X12_isParted_2 N n l0 l1 l2 h = some r → zR g jX12_isParted h0 2 [some (zr (some l0)), some (zi l1), some (zi l2), none] [] h (some (zi r)) h := by
  intro n
  induction n with
  | zero =>
    intro l0 l1 l2 h r hf
    cases hf
  | succ n ih =>
    intro l0 l1 l2 h r hf
    rw [f_X12_isParted_2] at hf
    refine zr_iload_n (x := l2) dX12_isParted_2 rfl rfl ?_
    refine zr_iload_n (x := l1) dX12_isParted_3 rfl rfl ?_
    by_cases hc1 : l1 ≤ l2
    · rw [if_pos hc1] at hf
      refine zr_icge_t (tgt := 100) dX12_isParted_4 (by decide) hc1 ?_
      refine zr_iconst (v := (1 : Int32)) dX12_isParted_100 (by decide) ?_
      cases hf
      exact zr_ret _ rfl dX12_isParted_101
    · rw [if_neg hc1] at hf
      refine zr_icge_f 100 dX12_isParted_4 (by decide) hc1 ?_
      refine zr_aload_n (v := .inl (some l0)) dX12_isParted_7 rfl rfl ?_
      revert hf; refine zbi (fun x1 e_x1 hf => ?_)
      refine zq_getR kg_490 dX12_isParted_8 e_x1 ?_
      refine zr_bipush (v := (125 : Int32)) dX12_isParted_11 (by decide) ?_
      refine zr_aload_n (v := .inl (some l0)) dX12_isParted_13 rfl rfl ?_
      revert hf; refine zbi (fun x2 e_x2 hf => ?_)
      refine zq_getR kg_653 dX12_isParted_14 e_x2 ?_
      refine zr_iload_n (x := l2) dX12_isParted_17 rfl rfl ?_
      revert hf; refine zbi (fun x3 e_x3 hf => ?_)
      refine zq_iald dX12_isParted_18 e_x3 ?_
      refine zr_iadd dX12_isParted_19 ?_
      revert hf; refine zbi (fun x4 e_x4 hf => ?_)
      refine zq_iald dX12_isParted_20 e_x4 ?_
      refine zr_aload_n (v := .inl (some l0)) dX12_isParted_21 rfl rfl ?_
      revert hf; refine zbi (fun x5 e_x5 hf => ?_)
      refine zq_getR kg_490 dX12_isParted_22 e_x5 ?_
      refine zr_bipush (v := (125 : Int32)) dX12_isParted_25 (by decide) ?_
      refine zr_aload_n (v := .inl (some l0)) dX12_isParted_27 rfl rfl ?_
      revert hf; refine zbi (fun x6 e_x6 hf => ?_)
      refine zq_getR kg_653 dX12_isParted_28 e_x6 ?_
      refine zr_iload_n (x := l1) dX12_isParted_31 rfl rfl ?_
      revert hf; refine zbi (fun x7 e_x7 hf => ?_)
      refine zq_iald dX12_isParted_32 e_x7 ?_
      refine zr_iadd dX12_isParted_33 ?_
      revert hf; refine zbi (fun x8 e_x8 hf => ?_)
      refine zq_iald dX12_isParted_34 e_x8 ?_
      by_cases hc2 : x4 = x8
      · rw [if_pos hc2] at hf
        refine zr_iceq_t (tgt := 41) dX12_isParted_35 (by decide) hc2 ?_
        refine zr_aload_n (v := .inl (some l0)) dX12_isParted_41 rfl rfl ?_
        revert hf; refine zbi (fun x9 e_x9 hf => ?_)
        refine zq_getR kg_652 dX12_isParted_42 e_x9 ?_
        refine zr_iload_n (x := l2) dX12_isParted_45 rfl rfl ?_
        revert hf; refine zbi (fun x10 e_x10 hf => ?_)
        refine zq_iald dX12_isParted_46 e_x10 ?_
        refine zr_iconst (v := (2 : Int32)) dX12_isParted_47 (by decide) ?_
        refine zr_idiv (by decide) dX12_isParted_48 ?_
        refine zr_aload_n (v := .inl (some l0)) dX12_isParted_49 rfl rfl ?_
        revert hf; refine zbi (fun x11 e_x11 hf => ?_)
        refine zq_getR kg_652 dX12_isParted_50 e_x11 ?_
        refine zr_iload_n (x := l1) dX12_isParted_53 rfl rfl ?_
        revert hf; refine zbi (fun x12 e_x12 hf => ?_)
        refine zq_iald dX12_isParted_54 e_x12 ?_
        refine zr_iconst (v := (2 : Int32)) dX12_isParted_55 (by decide) ?_
        refine zr_idiv (by decide) dX12_isParted_56 ?_
        refine zr_isub dX12_isParted_57 ?_
        refine zq_istore_n (x := ((x10 / (2 : Int32)) - (x12 / (2 : Int32)))) (L' := [some (zr (some l0)), some (zi l1), some (zi l2), some (zi ((x10 / (2 : Int32)) - (x12 / (2 : Int32))))]) dX12_isParted_58 rfl (by decide) rfl ?_
        refine zr_iload_n (x := ((x10 / (2 : Int32)) - (x12 / (2 : Int32)))) dX12_isParted_59 rfl rfl ?_
        by_cases hc3 : ((x10 / (2 : Int32)) - (x12 / (2 : Int32))) = 0
        · rw [if_pos hc3] at hf
          refine zr_ifeq_t (tgt := 92) dX12_isParted_60 (by decide) hc3 ?_
          refine zr_iconst (v := (0 : Int32)) dX12_isParted_92 (by decide) ?_
          cases hf
          exact zr_ret _ rfl dX12_isParted_93
        · rw [if_neg hc3] at hf
          refine zr_ifeq_f 92 dX12_isParted_60 (by decide) hc3 ?_
          refine zr_iload_n (x := ((x10 / (2 : Int32)) - (x12 / (2 : Int32)))) dX12_isParted_63 rfl rfl ?_
          refine zr_iconst (v := (1 : Int32)) dX12_isParted_64 (by decide) ?_
          by_cases hc4 : ((x10 / (2 : Int32)) - (x12 / (2 : Int32))) = (1 : Int32)
          · rw [if_pos hc4] at hf
            refine zr_iceq_t (tgt := 73) dX12_isParted_65 (by decide) hc4 ?_
            refine zr_forget 3 (L' := [some (zr (some l0)), some (zi l1), some (zi l2), none]) rfl ?_
            exact s_X12_isParted_73 hg N _ ih l0 l1 l2 h r hf
          · rw [if_neg hc4] at hf
            refine zr_iceq_f 73 dX12_isParted_65 (by decide) hc4 ?_
            refine zr_iload_n (x := ((x10 / (2 : Int32)) - (x12 / (2 : Int32)))) dX12_isParted_68 rfl rfl ?_
            refine zr_iconst (v := ((-1) : Int32)) dX12_isParted_69 (by decide) ?_
            by_cases hc5 : ((x10 / (2 : Int32)) - (x12 / (2 : Int32))) = ((-1) : Int32)
            · rw [if_pos hc5] at hf
              refine zr_icne_f 94 dX12_isParted_70 (by decide) hc5 ?_
              refine zr_forget 3 (L' := [some (zr (some l0)), some (zi l1), some (zi l2), none]) rfl ?_
              exact s_X12_isParted_73 hg N _ ih l0 l1 l2 h r hf
            · rw [if_neg hc5] at hf
              refine zr_icne_t (tgt := 94) dX12_isParted_70 (by decide) hc5 ?_
              refine zq_iinc (x := l2) (y := (1 : Int32)) (L' := [some (zr (some l0)), some (zi l1), some (zi (l2 + (1 : Int32))), some (zi ((x10 / (2 : Int32)) - (x12 / (2 : Int32))))]) dX12_isParted_94 rfl (by decide) (by decide) rfl ?_
              refine zr_goto (tgt := 2) dX12_isParted_97 (by decide) ?_
              refine zr_forget 3 (L' := [some (zr (some l0)), some (zi l1), some (zi (l2 + (1 : Int32))), none]) rfl ?_
              exact ih l0 l1 (l2 + (1 : Int32)) h r hf
      · rw [if_neg hc2] at hf
        refine zr_iceq_f 41 dX12_isParted_35 (by decide) hc2 ?_
        refine zr_goto (tgt := 94) dX12_isParted_38 (by decide) ?_
        refine zq_iinc (x := l2) (y := (1 : Int32)) (L' := [some (zr (some l0)), some (zi l1), some (zi (l2 + (1 : Int32))), none]) dX12_isParted_94 rfl (by decide) (by decide) rfl ?_
        refine zr_goto (tgt := 2) dX12_isParted_97 (by decide) ?_
        exact ih l0 l1 (l2 + (1 : Int32)) h r hf
def f_X12_isParted (N : Nat) (l0 : Nat) (l1 : Int32) (h : zH) : Option Int32 := f_X12_isParted_2 N N l0 l1 (0 : Int32) h
set_option maxHeartbeats 4000000 in
set_option maxRecDepth 100000 in
theorem s_X12_isParted {g : zG} (hg : g.2.1.map (fun q => q.2) = zty) {h0 : zH} (N : Nat) (l0 : Nat) (l1 : Int32) (h : zH) (r : Int32) (hf : f_X12_isParted N l0 l1 h = some r) : zR g jX12_isParted h0 0 [some (zr (some l0)), some (zi l1), none, none] [] h (some (zi r)) h := by
  unfold f_X12_isParted at hf
  refine zr_iconst (v := (0 : Int32)) dX12_isParted_0 (by decide) ?_
  refine zq_istore_n (x := (0 : Int32)) (L' := [some (zr (some l0)), some (zi l1), some (zi (0 : Int32)), none]) dX12_isParted_1 rfl (by decide) rfl ?_
  exact s_X12_isParted_2 hg N N l0 l1 (0 : Int32) h r hf
theorem c_X12_isParted {g : zG} (hg : g.2.1.map (fun q => q.2) = zty) {N : Nat} {l0 : Nat} {l1 : Int32} {h : zH} {r : Int32} (hf : f_X12_isParted N l0 l1 h = some r) : zCa g jX12_isParted [zr (some l0), zi l1] h (some (zi r)) h :=
  zCa.of hg (by decide +kernel) (Nat.le_of_ble_eq_true rfl) (s_X12_isParted hg N l0 l1 h r hf)
theorem dX12_isFree_0 : decode cX12_isFree 0 = .ok (.iconst 0, 1) := by decide +kernel
theorem dX12_isFree_1 : decode cX12_isFree 1 = .ok (.istore_n 2, 1) := by decide +kernel
theorem dX12_isFree_2 : decode cX12_isFree 2 = .ok (.iload_n 2, 1) := by decide +kernel
theorem dX12_isFree_3 : decode cX12_isFree 3 = .ok (.iload_n 1, 1) := by decide +kernel
theorem dX12_isFree_4 : decode cX12_isFree 4 = .ok (.if_icmp .ge 26, 3) := by decide +kernel
theorem dX12_isFree_7 : decode cX12_isFree 7 = .ok (.aload_n 0, 1) := by decide +kernel
theorem dX12_isFree_8 : decode cX12_isFree 8 = .ok (.getfield 68, 3) := by decide +kernel
theorem dX12_isFree_11 : decode cX12_isFree 11 = .ok (.iload_n 2, 1) := by decide +kernel
theorem dX12_isFree_12 : decode cX12_isFree 12 = .ok (.iaload, 1) := by decide +kernel
theorem dX12_isFree_13 : decode cX12_isFree 13 = .ok (.aload_n 0, 1) := by decide +kernel
theorem dX12_isFree_14 : decode cX12_isFree 14 = .ok (.getfield 68, 3) := by decide +kernel
theorem dX12_isFree_17 : decode cX12_isFree 17 = .ok (.iload_n 1, 1) := by decide +kernel
theorem dX12_isFree_18 : decode cX12_isFree 18 = .ok (.iaload, 1) := by decide +kernel
theorem dX12_isFree_19 : decode cX12_isFree 19 = .ok (.if_icmp .ne 5, 3) := by decide +kernel
theorem dX12_isFree_22 : decode cX12_isFree 22 = .ok (.iconst 0, 1) := by decide +kernel
theorem dX12_isFree_23 : decode cX12_isFree 23 = .ok (.ireturn, 1) := by decide +kernel
theorem dX12_isFree_24 : decode cX12_isFree 24 = .ok (.iinc 2 1, 3) := by decide +kernel
theorem dX12_isFree_27 : decode cX12_isFree 27 = .ok (.goto (-25), 3) := by decide +kernel
theorem dX12_isFree_30 : decode cX12_isFree 30 = .ok (.iconst 1, 1) := by decide +kernel
theorem dX12_isFree_31 : decode cX12_isFree 31 = .ok (.ireturn, 1) := by decide +kernel
def f_X12_isFree_2 (N : Nat) : Nat → Nat → Int32 → Int32 → zH → Option Int32
  | 0, _, _, _, _ => none
  | n + 1, l0, l1, l2, h => if l1 ≤ l2 then some (1 : Int32) else (zgR h 12 (some l0) 30).bind fun x1 => (zld h 0 x1 l2).bind fun x2 => (zgR h 12 (some l0) 30).bind fun x3 => (zld h 0 x3 l1).bind fun x4 => if x2 = x4 then some (0 : Int32) else f_X12_isFree_2 N n l0 l1 (l2 + (1 : Int32)) h
set_option maxHeartbeats 4000000 in
set_option maxRecDepth 100000 in
theorem s_X12_isFree_2 {g : zG} (hg : g.2.1.map (fun q => q.2) = zty) {h0 : zH} (N : Nat) : ∀ (n : Nat) (l0 : Nat) (l1 : Int32) (l2 : Int32) (h : zH) (r : Int32), f_X12_isFree_2 N n l0 l1 l2 h = some r → zR g jX12_isFree h0 2 [some (zr (some l0)), some (zi l1), some (zi l2)] [] h (some (zi r)) h := by
  intro n
  induction n with
  | zero =>
    intro l0 l1 l2 h r hf
    cases hf
  | succ n ih =>
    intro l0 l1 l2 h r hf
    rw [f_X12_isFree_2] at hf
    refine zr_iload_n (x := l2) dX12_isFree_2 rfl rfl ?_
    refine zr_iload_n (x := l1) dX12_isFree_3 rfl rfl ?_
    by_cases hc1 : l1 ≤ l2
    · rw [if_pos hc1] at hf
      refine zr_icge_t (tgt := 30) dX12_isFree_4 (by decide) hc1 ?_
      refine zr_iconst (v := (1 : Int32)) dX12_isFree_30 (by decide) ?_
      cases hf
      exact zr_ret _ rfl dX12_isFree_31
    · rw [if_neg hc1] at hf
      refine zr_icge_f 30 dX12_isFree_4 (by decide) hc1 ?_
      refine zr_aload_n (v := .inl (some l0)) dX12_isFree_7 rfl rfl ?_
      revert hf; refine zbi (fun x1 e_x1 hf => ?_)
      refine zq_getR kg_652 dX12_isFree_8 e_x1 ?_
      refine zr_iload_n (x := l2) dX12_isFree_11 rfl rfl ?_
      revert hf; refine zbi (fun x2 e_x2 hf => ?_)
      refine zq_iald dX12_isFree_12 e_x2 ?_
      refine zr_aload_n (v := .inl (some l0)) dX12_isFree_13 rfl rfl ?_
      revert hf; refine zbi (fun x3 e_x3 hf => ?_)
      refine zq_getR kg_652 dX12_isFree_14 e_x3 ?_
      refine zr_iload_n (x := l1) dX12_isFree_17 rfl rfl ?_
      revert hf; refine zbi (fun x4 e_x4 hf => ?_)
      refine zq_iald dX12_isFree_18 e_x4 ?_
      by_cases hc2 : x2 = x4
      · rw [if_pos hc2] at hf
        refine zr_icne_f 24 dX12_isFree_19 (by decide) hc2 ?_
        refine zr_iconst (v := (0 : Int32)) dX12_isFree_22 (by decide) ?_
        cases hf
        exact zr_ret _ rfl dX12_isFree_23
      · rw [if_neg hc2] at hf
        refine zr_icne_t (tgt := 24) dX12_isFree_19 (by decide) hc2 ?_
        refine zq_iinc (x := l2) (y := (1 : Int32)) (L' := [some (zr (some l0)), some (zi l1), some (zi (l2 + (1 : Int32)))]) dX12_isFree_24 rfl (by decide) (by decide) rfl ?_
        refine zr_goto (tgt := 2) dX12_isFree_27 (by decide) ?_
        exact ih l0 l1 (l2 + (1 : Int32)) h r hf
def f_X12_isFree (N : Nat) (l0 : Nat) (l1 : Int32) (h : zH) : Option Int32 := f_X12_isFree_2 N N l0 l1 (0 : Int32) h
set_option maxHeartbeats 4000000 in
set_option maxRecDepth 100000 in
theorem s_X12_isFree {g : zG} (hg : g.2.1.map (fun q => q.2) = zty) {h0 : zH} (N : Nat) (l0 : Nat) (l1 : Int32) (h : zH) (r : Int32) (hf : f_X12_isFree N l0 l1 h = some r) : zR g jX12_isFree h0 0 [some (zr (some l0)), some (zi l1), none] [] h (some (zi r)) h := by
  unfold f_X12_isFree at hf
  refine zr_iconst (v := (0 : Int32)) dX12_isFree_0 (by decide) ?_
  refine zq_istore_n (x := (0 : Int32)) (L' := [some (zr (some l0)), some (zi l1), some (zi (0 : Int32))]) dX12_isFree_1 rfl (by decide) rfl ?_
  exact s_X12_isFree_2 hg N N l0 l1 (0 : Int32) h r hf
theorem c_X12_isFree {g : zG} (hg : g.2.1.map (fun q => q.2) = zty) {N : Nat} {l0 : Nat} {l1 : Int32} {h : zH} {r : Int32} (hf : f_X12_isFree N l0 l1 h = some r) : zCa g jX12_isFree [zr (some l0), zi l1] h (some (zi r)) h :=
  zCa.of hg (by decide +kernel) (Nat.le_of_ble_eq_true rfl) (s_X12_isFree hg N l0 l1 h r hf)
theorem dX12_layout_0 : decode cX12_layout 0 = .ok (.aload_n 0, 1) := by decide +kernel
theorem dX12_layout_1 : decode cX12_layout 1 = .ok (.getfield 8, 3) := by decide +kernel
theorem dX12_layout_4 : decode cX12_layout 4 = .ok (.sipush 6864, 3) := by decide +kernel
theorem dX12_layout_7 : decode cX12_layout 7 = .ok (.iaload, 1) := by decide +kernel
theorem dX12_layout_8 : decode cX12_layout 8 = .ok (.ifCond .ne 5, 3) := by decide +kernel
theorem dX12_layout_11 : decode cX12_layout 11 = .ok (.iconst (-1), 1) := by decide +kernel
theorem dX12_layout_12 : decode cX12_layout 12 = .ok (.ireturn, 1) := by decide +kernel
theorem dX12_layout_13 : decode cX12_layout 13 = .ok (.aload_n 0, 1) := by decide +kernel
theorem dX12_layout_14 : decode cX12_layout 14 = .ok (.iconst 0, 1) := by decide +kernel
theorem dX12_layout_15 : decode cX12_layout 15 = .ok (.putfield 196, 3) := by decide +kernel
theorem dX12_layout_18 : decode cX12_layout 18 = .ok (.iconst 0, 1) := by decide +kernel
theorem dX12_layout_19 : decode cX12_layout 19 = .ok (.istore_n 1, 1) := by decide +kernel
theorem dX12_layout_20 : decode cX12_layout 20 = .ok (.iload_n 1, 1) := by decide +kernel
theorem dX12_layout_21 : decode cX12_layout 21 = .ok (.bipush 16, 2) := by decide +kernel
theorem dX12_layout_23 : decode cX12_layout 23 = .ok (.if_icmp .ge 40, 3) := by decide +kernel
theorem dX12_layout_26 : decode cX12_layout 26 = .ok (.aload_n 0, 1) := by decide +kernel
theorem dX12_layout_27 : decode cX12_layout 27 = .ok (.iload_n 1, 1) := by decide +kernel
theorem dX12_layout_28 : decode cX12_layout 28 = .ok (.invokevirtual 151, 3) := by decide +kernel
theorem dX12_layout_31 : decode cX12_layout 31 = .ok (.ifCond .ne 6, 3) := by decide +kernel
theorem dX12_layout_34 : decode cX12_layout 34 = .ok (.goto 23, 3) := by decide +kernel
theorem dX12_layout_37 : decode cX12_layout 37 = .ok (.aload_n 0, 1) := by decide +kernel
theorem dX12_layout_38 : decode cX12_layout 38 = .ok (.getfield 65, 3) := by decide +kernel
theorem dX12_layout_41 : decode cX12_layout 41 = .ok (.aload_n 0, 1) := by decide +kernel
theorem dX12_layout_42 : decode cX12_layout 42 = .ok (.getfield 196, 3) := by decide +kernel
theorem dX12_layout_45 : decode cX12_layout 45 = .ok (.iload_n 1, 1) := by decide +kernel
theorem dX12_layout_46 : decode cX12_layout 46 = .ok (.iastore, 1) := by decide +kernel
theorem dX12_layout_47 : decode cX12_layout 47 = .ok (.aload_n 0, 1) := by decide +kernel
theorem dX12_layout_48 : decode cX12_layout 48 = .ok (.dup, 1) := by decide +kernel
theorem dX12_layout_49 : decode cX12_layout 49 = .ok (.getfield 196, 3) := by decide +kernel
theorem dX12_layout_52 : decode cX12_layout 52 = .ok (.iconst 1, 1) := by decide +kernel
theorem dX12_layout_53 : decode cX12_layout 53 = .ok (.iadd, 1) := by decide +kernel
theorem dX12_layout_54 : decode cX12_layout 54 = .ok (.putfield 196, 3) := by decide +kernel
theorem dX12_layout_57 : decode cX12_layout 57 = .ok (.iinc 1 1, 3) := by decide +kernel
theorem dX12_layout_60 : decode cX12_layout 60 = .ok (.goto (-40), 3) := by decide +kernel
theorem dX12_layout_63 : decode cX12_layout 63 = .ok (.iconst 0, 1) := by decide +kernel
theorem dX12_layout_64 : decode cX12_layout 64 = .ok (.istore_n 1, 1) := by decide +kernel
theorem dX12_layout_65 : decode cX12_layout 65 = .ok (.iconst 0, 1) := by decide +kernel
theorem dX12_layout_66 : decode cX12_layout 66 = .ok (.istore_n 2, 1) := by decide +kernel
theorem dX12_layout_67 : decode cX12_layout 67 = .ok (.iconst 0, 1) := by decide +kernel
theorem dX12_layout_68 : decode cX12_layout 68 = .ok (.istore_n 3, 1) := by decide +kernel
theorem dX12_layout_69 : decode cX12_layout 69 = .ok (.iload_n 3, 1) := by decide +kernel
theorem dX12_layout_70 : decode cX12_layout 70 = .ok (.bipush 16, 2) := by decide +kernel
theorem dX12_layout_72 : decode cX12_layout 72 = .ok (.if_icmp .ge 16, 3) := by decide +kernel
theorem dX12_layout_75 : decode cX12_layout 75 = .ok (.aload_n 0, 1) := by decide +kernel
theorem dX12_layout_76 : decode cX12_layout 76 = .ok (.getfield 68, 3) := by decide +kernel
theorem dX12_layout_79 : decode cX12_layout 79 = .ok (.iload_n 3, 1) := by decide +kernel
theorem dX12_layout_80 : decode cX12_layout 80 = .ok (.iconst (-1), 1) := by decide +kernel
theorem dX12_layout_81 : decode cX12_layout 81 = .ok (.iastore, 1) := by decide +kernel
theorem dX12_layout_82 : decode cX12_layout 82 = .ok (.iinc 3 1, 3) := by decide +kernel
theorem dX12_layout_85 : decode cX12_layout 85 = .ok (.goto (-16), 3) := by decide +kernel
theorem dX12_layout_88 : decode cX12_layout 88 = .ok (.iload_n 1, 1) := by decide +kernel
theorem dX12_layout_89 : decode cX12_layout 89 = .ok (.ifCond .lt 91, 3) := by decide +kernel
theorem dX12_layout_92 : decode cX12_layout 92 = .ok (.iload_n 1, 1) := by decide +kernel
theorem dX12_layout_93 : decode cX12_layout 93 = .ok (.aload_n 0, 1) := by decide +kernel
theorem dX12_layout_94 : decode cX12_layout 94 = .ok (.getfield 196, 3) := by decide +kernel
theorem dX12_layout_97 : decode cX12_layout 97 = .ok (.if_icmp .ge 83, 3) := by decide +kernel
theorem dX12_layout_100 : decode cX12_layout 100 = .ok (.aload_n 0, 1) := by decide +kernel
theorem dX12_layout_101 : decode cX12_layout 101 = .ok (.getfield 68, 3) := by decide +kernel
theorem dX12_layout_104 : decode cX12_layout 104 = .ok (.iload_n 1, 1) := by decide +kernel
theorem dX12_layout_105 : decode cX12_layout 105 = .ok (.dup2, 1) := by decide +kernel
theorem dX12_layout_106 : decode cX12_layout 106 = .ok (.iaload, 1) := by decide +kernel
theorem dX12_layout_107 : decode cX12_layout 107 = .ok (.iconst 1, 1) := by decide +kernel
theorem dX12_layout_108 : decode cX12_layout 108 = .ok (.iadd, 1) := by decide +kernel
theorem dX12_layout_109 : decode cX12_layout 109 = .ok (.iastore, 1) := by decide +kernel
theorem dX12_layout_110 : decode cX12_layout 110 = .ok (.aload_n 0, 1) := by decide +kernel
theorem dX12_layout_111 : decode cX12_layout 111 = .ok (.getfield 68, 3) := by decide +kernel
theorem dX12_layout_114 : decode cX12_layout 114 = .ok (.iload_n 1, 1) := by decide +kernel
theorem dX12_layout_115 : decode cX12_layout 115 = .ok (.iaload, 1) := by decide +kernel
theorem dX12_layout_116 : decode cX12_layout 116 = .ok (.iconst 2, 1) := by decide +kernel
theorem dX12_layout_117 : decode cX12_layout 117 = .ok (.aload_n 0, 1) := by decide +kernel
theorem dX12_layout_118 : decode cX12_layout 118 = .ok (.getfield 8, 3) := by decide +kernel
theorem dX12_layout_121 : decode cX12_layout 121 = .ok (.sipush 6864, 3) := by decide +kernel
theorem dX12_layout_124 : decode cX12_layout 124 = .ok (.iaload, 1) := by decide +kernel
theorem dX12_layout_125 : decode cX12_layout 125 = .ok (.imul, 1) := by decide +kernel
theorem dX12_layout_126 : decode cX12_layout 126 = .ok (.if_icmp .ne 16, 3) := by decide +kernel
theorem dX12_layout_129 : decode cX12_layout 129 = .ok (.aload_n 0, 1) := by decide +kernel
theorem dX12_layout_130 : decode cX12_layout 130 = .ok (.getfield 68, 3) := by decide +kernel
theorem dX12_layout_133 : decode cX12_layout 133 = .ok (.iload_n 1, 1) := by decide +kernel
theorem dX12_layout_134 : decode cX12_layout 134 = .ok (.iconst (-1), 1) := by decide +kernel
theorem dX12_layout_135 : decode cX12_layout 135 = .ok (.iastore, 1) := by decide +kernel
theorem dX12_layout_136 : decode cX12_layout 136 = .ok (.iinc 1 (-1), 3) := by decide +kernel
theorem dX12_layout_139 : decode cX12_layout 139 = .ok (.goto (-51), 3) := by decide +kernel
theorem dX12_layout_142 : decode cX12_layout 142 = .ok (.aload_n 0, 1) := by decide +kernel
theorem dX12_layout_143 : decode cX12_layout 143 = .ok (.iload_n 1, 1) := by decide +kernel
theorem dX12_layout_144 : decode cX12_layout 144 = .ok (.invokevirtual 199, 3) := by decide +kernel
theorem dX12_layout_147 : decode cX12_layout 147 = .ok (.ifCond .ne 6, 3) := by decide +kernel
theorem dX12_layout_150 : decode cX12_layout 150 = .ok (.goto (-62), 3) := by decide +kernel
theorem dX12_layout_153 : decode cX12_layout 153 = .ok (.iinc 2 1, 3) := by decide +kernel
theorem dX12_layout_156 : decode cX12_layout 156 = .ok (.iload_n 2, 1) := by decide +kernel
theorem dX12_layout_157 : decode cX12_layout 157 = .ok (.sipush 20000, 3) := by decide +kernel
theorem dX12_layout_160 : decode cX12_layout 160 = .ok (.if_icmp .le 6, 3) := by decide +kernel
theorem dX12_layout_163 : decode cX12_layout 163 = .ok (.bipush (-2), 2) := by decide +kernel
theorem dX12_layout_165 : decode cX12_layout 165 = .ok (.ireturn, 1) := by decide +kernel
theorem dX12_layout_166 : decode cX12_layout 166 = .ok (.aload_n 0, 1) := by decide +kernel
theorem dX12_layout_167 : decode cX12_layout 167 = .ok (.iload_n 1, 1) := by decide +kernel
theorem dX12_layout_168 : decode cX12_layout 168 = .ok (.invokevirtual 202, 3) := by decide +kernel
theorem dX12_layout_171 : decode cX12_layout 171 = .ok (.ifCond .eq (-83), 3) := by decide +kernel
theorem dX12_layout_174 : decode cX12_layout 174 = .ok (.iinc 1 1, 3) := by decide +kernel
theorem dX12_layout_177 : decode cX12_layout 177 = .ok (.goto (-89), 3) := by decide +kernel
theorem dX12_layout_180 : decode cX12_layout 180 = .ok (.iload_n 1, 1) := by decide +kernel
theorem dX12_layout_181 : decode cX12_layout 181 = .ok (.ifCond .ge 5, 3) := by decide +kernel
theorem dX12_layout_184 : decode cX12_layout 184 = .ok (.iconst (-1), 1) := by decide +kernel
theorem dX12_layout_185 : decode cX12_layout 185 = .ok (.ireturn, 1) := by decide +kernel
theorem dX12_layout_186 : decode cX12_layout 186 = .ok (.aload_n 0, 1) := by decide +kernel
theorem dX12_layout_187 : decode cX12_layout 187 = .ok (.invokevirtual 144, 3) := by decide +kernel
theorem dX12_layout_190 : decode cX12_layout 190 = .ok (.iconst 0, 1) := by decide +kernel
theorem dX12_layout_191 : decode cX12_layout 191 = .ok (.istore_n 3, 1) := by decide +kernel
theorem dX12_layout_192 : decode cX12_layout 192 = .ok (.iload_n 3, 1) := by decide +kernel
theorem dX12_layout_193 : decode cX12_layout 193 = .ok (.bipush 16, 2) := by decide +kernel
theorem dX12_layout_195 : decode cX12_layout 195 = .ok (.if_icmp .ge 20, 3) := by decide +kernel
theorem dX12_layout_198 : decode cX12_layout 198 = .ok (.aload_n 0, 1) := by decide +kernel
theorem dX12_layout_199 : decode cX12_layout 199 = .ok (.getfield 8, 3) := by decide +kernel
theorem dX12_layout_202 : decode cX12_layout 202 = .ok (.sipush 6881, 3) := by decide +kernel
theorem dX12_layout_205 : decode cX12_layout 205 = .ok (.iload_n 3, 1) := by decide +kernel
theorem dX12_layout_206 : decode cX12_layout 206 = .ok (.iadd, 1) := by decide +kernel
theorem dX12_layout_207 : decode cX12_layout 207 = .ok (.iconst (-1), 1) := by decide +kernel
theorem dX12_layout_208 : decode cX12_layout 208 = .ok (.iastore, 1) := by decide +kernel
theorem dX12_layout_209 : decode cX12_layout 209 = .ok (.iinc 3 1, 3) := by decide +kernel
theorem dX12_layout_212 : decode cX12_layout 212 = .ok (.goto (-20), 3) := by decide +kernel
theorem dX12_layout_215 : decode cX12_layout 215 = .ok (.iconst 0, 1) := by decide +kernel
theorem dX12_layout_216 : decode cX12_layout 216 = .ok (.istore_n 3, 1) := by decide +kernel
theorem dX12_layout_217 : decode cX12_layout 217 = .ok (.iload_n 3, 1) := by decide +kernel
theorem dX12_layout_218 : decode cX12_layout 218 = .ok (.aload_n 0, 1) := by decide +kernel
theorem dX12_layout_219 : decode cX12_layout 219 = .ok (.getfield 196, 3) := by decide +kernel
theorem dX12_layout_222 : decode cX12_layout 222 = .ok (.if_icmp .ge 30, 3) := by decide +kernel
theorem dX12_layout_225 : decode cX12_layout 225 = .ok (.aload_n 0, 1) := by decide +kernel
theorem dX12_layout_226 : decode cX12_layout 226 = .ok (.getfield 8, 3) := by decide +kernel
theorem dX12_layout_229 : decode cX12_layout 229 = .ok (.sipush 6881, 3) := by decide +kernel
theorem dX12_layout_232 : decode cX12_layout 232 = .ok (.aload_n 0, 1) := by decide +kernel
theorem dX12_layout_233 : decode cX12_layout 233 = .ok (.getfield 65, 3) := by decide +kernel
theorem dX12_layout_236 : decode cX12_layout 236 = .ok (.iload_n 3, 1) := by decide +kernel
theorem dX12_layout_237 : decode cX12_layout 237 = .ok (.iaload, 1) := by decide +kernel
theorem dX12_layout_238 : decode cX12_layout 238 = .ok (.iadd, 1) := by decide +kernel
theorem dX12_layout_239 : decode cX12_layout 239 = .ok (.aload_n 0, 1) := by decide +kernel
theorem dX12_layout_240 : decode cX12_layout 240 = .ok (.getfield 68, 3) := by decide +kernel
theorem dX12_layout_243 : decode cX12_layout 243 = .ok (.iload_n 3, 1) := by decide +kernel
theorem dX12_layout_244 : decode cX12_layout 244 = .ok (.iaload, 1) := by decide +kernel
theorem dX12_layout_245 : decode cX12_layout 245 = .ok (.iastore, 1) := by decide +kernel
theorem dX12_layout_246 : decode cX12_layout 246 = .ok (.iinc 3 1, 3) := by decide +kernel
theorem dX12_layout_249 : decode cX12_layout 249 = .ok (.goto (-32), 3) := by decide +kernel
theorem dX12_layout_252 : decode cX12_layout 252 = .ok (.aload_n 0, 1) := by decide +kernel
theorem dX12_layout_253 : decode cX12_layout 253 = .ok (.getfield 196, 3) := by decide +kernel
theorem dX12_layout_256 : decode cX12_layout 256 = .ok (.ireturn, 1) := by decide +kernel
def f_X12_layout_217 (N : Nat) : Nat → Nat → Int32 → zH → Option (Int32 × zH)
  | 0, _, _, _ => none
  | n + 1, l0, l3, h => (zgI h 12 (some l0) 28).bind fun x1 => if x1 ≤ l3 then (zgI h 12 (some l0) 28).bind fun x2 => some (x2, h) else (zgR h 12 (some l0) 0).bind fun x3 => (zgR h 12 (some l0) 29).bind fun x4 => (zld h 0 x4 l3).bind fun x5 => (zgR h 12 (some l0) 30).bind fun x6 => (zld h 0 x6 l3).bind fun x7 => (zst h 0 x3 ((6881 : Int32) + x5) x7).bind fun h1 => f_X12_layout_217 N n l0 (l3 + (1 : Int32)) h1
set_option maxHeartbeats 4000000 in
set_option maxRecDepth 100000 in
theorem s_X12_layout_217 {g : zG} (hg : g.2.1.map (fun q => q.2) = zty) {h0 : zH} (N : Nat) : ∀ (n : Nat) (l0 : Nat) (l3 : Int32) (h : zH) (r : Int32) (h' : zH), f_X12_layout_217 N n l0 l3 h = some (r, h') → zR g jX12_layout h0 217 [some (zr (some l0)), none, none, some (zi l3)] [] h (some (zi r)) h' := by
  intro n
  induction n with
  | zero =>
    intro l0 l3 h r h' hf
    cases hf
  | succ n ih =>
    intro l0 l3 h r h' hf
    rw [f_X12_layout_217] at hf
    refine zr_iload_n (x := l3) dX12_layout_217 rfl rfl ?_
    refine zr_aload_n (v := .inl (some l0)) dX12_layout_218 rfl rfl ?_
    revert hf; refine zbi (fun x1 e_x1 hf => ?_)
    refine zq_getI kg_654 dX12_layout_219 e_x1 ?_
    by_cases hc1 : x1 ≤ l3
    · rw [if_pos hc1] at hf
      refine zr_icge_t (tgt := 252) dX12_layout_222 (by decide) hc1 ?_
      refine zr_aload_n (v := .inl (some l0)) dX12_layout_252 rfl rfl ?_
      revert hf; refine zbi (fun x2 e_x2 hf => ?_)
      refine zq_getI kg_654 dX12_layout_253 e_x2 ?_
      cases hf
      exact zr_ret _ rfl dX12_layout_256
    · rw [if_neg hc1] at hf
      refine zr_icge_f 252 dX12_layout_222 (by decide) hc1 ?_
      refine zr_aload_n (v := .inl (some l0)) dX12_layout_225 rfl rfl ?_
      revert hf; refine zbi (fun x3 e_x3 hf => ?_)
      refine zq_getR kg_490 dX12_layout_226 e_x3 ?_
      refine zr_sipush (v := (6881 : Int32)) dX12_layout_229 (by decide) ?_
      refine zr_aload_n (v := .inl (some l0)) dX12_layout_232 rfl rfl ?_
      revert hf; refine zbi (fun x4 e_x4 hf => ?_)
      refine zq_getR kg_653 dX12_layout_233 e_x4 ?_
      refine zr_iload_n (x := l3) dX12_layout_236 rfl rfl ?_
      revert hf; refine zbi (fun x5 e_x5 hf => ?_)
      refine zq_iald dX12_layout_237 e_x5 ?_
      refine zr_iadd dX12_layout_238 ?_
      refine zr_aload_n (v := .inl (some l0)) dX12_layout_239 rfl rfl ?_
      revert hf; refine zbi (fun x6 e_x6 hf => ?_)
      refine zq_getR kg_652 dX12_layout_240 e_x6 ?_
      refine zr_iload_n (x := l3) dX12_layout_243 rfl rfl ?_
      revert hf; refine zbi (fun x7 e_x7 hf => ?_)
      refine zq_iald dX12_layout_244 e_x7 ?_
      revert hf; refine zbi (fun h1 e_h1 hf => ?_)
      refine zq_iast dX12_layout_245 e_h1 ?_
      refine zq_iinc (x := l3) (y := (1 : Int32)) (L' := [some (zr (some l0)), none, none, some (zi (l3 + (1 : Int32)))]) dX12_layout_246 rfl (by decide) (by decide) rfl ?_
      refine zr_goto (tgt := 217) dX12_layout_249 (by decide) ?_
      exact ih l0 (l3 + (1 : Int32)) h1 r h' hf
def f_X12_layout_192 (N : Nat) : Nat → Nat → Int32 → zH → Option (Int32 × zH)
  | 0, _, _, _ => none
  | n + 1, l0, l3, h => if (16 : Int32) ≤ l3 then f_X12_layout_217 N N l0 (0 : Int32) h else (zgR h 12 (some l0) 0).bind fun x1 => (zst h 0 x1 ((6881 : Int32) + l3) ((-1) : Int32)).bind fun h1 => f_X12_layout_192 N n l0 (l3 + (1 : Int32)) h1
set_option maxHeartbeats 4000000 in
set_option maxRecDepth 100000 in
theorem s_X12_layout_192 {g : zG} (hg : g.2.1.map (fun q => q.2) = zty) {h0 : zH} (N : Nat) : ∀ (n : Nat) (l0 : Nat) (l3 : Int32) (h : zH) (r : Int32) (h' : zH), f_X12_layout_192 N n l0 l3 h = some (r, h') → zR g jX12_layout h0 192 [some (zr (some l0)), none, none, some (zi l3)] [] h (some (zi r)) h' := by
  intro n
  induction n with
  | zero =>
    intro l0 l3 h r h' hf
    cases hf
  | succ n ih =>
    intro l0 l3 h r h' hf
    rw [f_X12_layout_192] at hf
    refine zr_iload_n (x := l3) dX12_layout_192 rfl rfl ?_
    refine zr_bipush (v := (16 : Int32)) dX12_layout_193 (by decide) ?_
    by_cases hc1 : (16 : Int32) ≤ l3
    · rw [if_pos hc1] at hf
      refine zr_icge_t (tgt := 215) dX12_layout_195 (by decide) hc1 ?_
      refine zr_iconst (v := (0 : Int32)) dX12_layout_215 (by decide) ?_
      refine zq_istore_n (x := (0 : Int32)) (L' := [some (zr (some l0)), none, none, some (zi (0 : Int32))]) dX12_layout_216 rfl (by decide) rfl ?_
      exact s_X12_layout_217 hg N N l0 (0 : Int32) h r h' hf
    · rw [if_neg hc1] at hf
      refine zr_icge_f 215 dX12_layout_195 (by decide) hc1 ?_
      refine zr_aload_n (v := .inl (some l0)) dX12_layout_198 rfl rfl ?_
      revert hf; refine zbi (fun x1 e_x1 hf => ?_)
      refine zq_getR kg_490 dX12_layout_199 e_x1 ?_
      refine zr_sipush (v := (6881 : Int32)) dX12_layout_202 (by decide) ?_
      refine zr_iload_n (x := l3) dX12_layout_205 rfl rfl ?_
      refine zr_iadd dX12_layout_206 ?_
      refine zr_iconst (v := ((-1) : Int32)) dX12_layout_207 (by decide) ?_
      revert hf; refine zbi (fun h1 e_h1 hf => ?_)
      refine zq_iast dX12_layout_208 e_h1 ?_
      refine zq_iinc (x := l3) (y := (1 : Int32)) (L' := [some (zr (some l0)), none, none, some (zi (l3 + (1 : Int32)))]) dX12_layout_209 rfl (by decide) (by decide) rfl ?_
      refine zr_goto (tgt := 192) dX12_layout_212 (by decide) ?_
      exact ih l0 (l3 + (1 : Int32)) h1 r h' hf
def f_X12_layout_180 (N : Nat) (l0 : Nat) (l1 : Int32) (h : zH) : Option (Int32 × zH) := if 0 ≤ l1 then (zck h 12 (some l0)).bind fun q1 => (f_X12_keeps N q1 h).bind fun h1 => f_X12_layout_192 N N l0 (0 : Int32) h1 else some (((-1) : Int32), h)
set_option maxHeartbeats 4000000 in
set_option maxRecDepth 100000 in
theorem s_X12_layout_180 {g : zG} (hg : g.2.1.map (fun q => q.2) = zty) {h0 : zH} (N : Nat) (l0 : Nat) (l1 : Int32) (h : zH) (r : Int32) (h' : zH) (hf : f_X12_layout_180 N l0 l1 h = some (r, h')) : zR g jX12_layout h0 180 [some (zr (some l0)), some (zi l1), none, none] [] h (some (zi r)) h' := by
  unfold f_X12_layout_180 at hf
  refine zr_iload_n (x := l1) dX12_layout_180 rfl rfl ?_
  by_cases hc1 : 0 ≤ l1
  · rw [if_pos hc1] at hf
    refine zr_ifge_t (tgt := 186) dX12_layout_181 (by decide) hc1 ?_
    refine zr_aload_n (v := .inl (some l0)) dX12_layout_186 rfl rfl ?_
    revert hf; refine zbi (fun q1 e_q1 hf => ?_)
    revert hf; refine zbi (fun h1 e_h1 hf => ?_)
    refine zq_callV (J' := jX12_keeps) (as := []) (rest := []) (r1 := none) (q := (RX12, TX12, 31)) kw_674 km_X12_keeps kt_655 dX12_layout_187 rfl (Nat.le_of_ble_eq_true rfl) rfl rfl e_q1 rfl (c_X12_keeps hg e_h1) ?_
    refine zr_iconst (v := (0 : Int32)) dX12_layout_190 (by decide) ?_
    refine zq_istore_n (x := (0 : Int32)) (L' := [some (zr (some l0)), some (zi l1), none, some (zi (0 : Int32))]) dX12_layout_191 rfl (by decide) rfl ?_
    refine zr_forget 1 (L' := [some (zr (some l0)), none, none, some (zi (0 : Int32))]) rfl ?_
    exact s_X12_layout_192 hg N N l0 (0 : Int32) h1 r h' hf
  · rw [if_neg hc1] at hf
    refine zr_ifge_f 186 dX12_layout_181 (by decide) hc1 ?_
    refine zr_iconst (v := ((-1) : Int32)) dX12_layout_184 (by decide) ?_
    cases hf
    exact zr_ret _ rfl dX12_layout_185
def f_X12_layout_88 (N : Nat) : Nat → Nat → Int32 → Int32 → zH → Option (Int32 × zH)
  | 0, _, _, _, _ => none
  | n + 1, l0, l1, l2, h => if l1 < 0 then f_X12_layout_180 N l0 l1 h else (zgI h 12 (some l0) 28).bind fun x1 => if x1 ≤ l1 then f_X12_layout_180 N l0 l1 h else (zgR h 12 (some l0) 30).bind fun x2 => (zld h 0 x2 l1).bind fun x3 => (zst h 0 x2 l1 (x3 + (1 : Int32))).bind fun h1 => (zgR h1 12 (some l0) 30).bind fun x4 => (zld h1 0 x4 l1).bind fun x5 => (zgR h1 12 (some l0) 0).bind fun x6 => (zld h1 0 x6 (6864 : Int32)).bind fun x7 => if x5 = ((2 : Int32) * x7) then (zgR h1 12 (some l0) 30).bind fun x10 => (zst h1 0 x10 l1 ((-1) : Int32)).bind fun h2 => f_X12_layout_88 N n l0 (l1 + ((-1) : Int32)) l2 h2 else (zck h1 12 (some l0)).bind fun q1 => (f_X12_isFree N q1 l1 h1).bind fun x8 => if x8 = 0 then f_X12_layout_88 N n l0 l1 l2 h1 else if (l2 + (1 : Int32)) ≤ (20000 : Int32) then (zck h1 12 (some l0)).bind fun q2 => (f_X12_isParted N q2 l1 h1).bind fun x9 => if x9 = 0 then f_X12_layout_88 N n l0 l1 (l2 + (1 : Int32)) h1 else f_X12_layout_88 N n l0 (l1 + (1 : Int32)) (l2 + (1 : Int32)) h1 else some (((-2) : Int32), h1)
set_option maxHeartbeats 4000000 in
set_option maxRecDepth 100000 in
theorem s_X12_layout_88 {g : zG} (hg : g.2.1.map (fun q => q.2) = zty) {h0 : zH} (N : Nat) : ∀ (n : Nat) (l0 : Nat) (l1 : Int32) (l2 : Int32) (h : zH) (r : Int32) (h' : zH), f_X12_layout_88 N n l0 l1 l2 h = some (r, h') → zR g jX12_layout h0 88 [some (zr (some l0)), some (zi l1), some (zi l2), none] [] h (some (zi r)) h' := by
  intro n
  induction n with
  | zero =>
    intro l0 l1 l2 h r h' hf
    cases hf
  | succ n ih =>
    intro l0 l1 l2 h r h' hf
    rw [f_X12_layout_88] at hf
    refine zr_iload_n (x := l1) dX12_layout_88 rfl rfl ?_
    by_cases hc1 : l1 < 0
    · rw [if_pos hc1] at hf
      refine zr_iflt_t (tgt := 180) dX12_layout_89 (by decide) hc1 ?_
      refine zr_forget 2 (L' := [some (zr (some l0)), some (zi l1), none, none]) rfl ?_
      exact s_X12_layout_180 hg N l0 l1 h r h' hf
    · rw [if_neg hc1] at hf
      refine zr_iflt_f 180 dX12_layout_89 (by decide) hc1 ?_
      refine zr_iload_n (x := l1) dX12_layout_92 rfl rfl ?_
      refine zr_aload_n (v := .inl (some l0)) dX12_layout_93 rfl rfl ?_
      revert hf; refine zbi (fun x1 e_x1 hf => ?_)
      refine zq_getI kg_654 dX12_layout_94 e_x1 ?_
      by_cases hc2 : x1 ≤ l1
      · rw [if_pos hc2] at hf
        refine zr_icge_t (tgt := 180) dX12_layout_97 (by decide) hc2 ?_
        refine zr_forget 2 (L' := [some (zr (some l0)), some (zi l1), none, none]) rfl ?_
        exact s_X12_layout_180 hg N l0 l1 h r h' hf
      · rw [if_neg hc2] at hf
        refine zr_icge_f 180 dX12_layout_97 (by decide) hc2 ?_
        refine zr_aload_n (v := .inl (some l0)) dX12_layout_100 rfl rfl ?_
        revert hf; refine zbi (fun x2 e_x2 hf => ?_)
        refine zq_getR kg_652 dX12_layout_101 e_x2 ?_
        refine zr_iload_n (x := l1) dX12_layout_104 rfl rfl ?_
        refine zr_dup2 dX12_layout_105 ?_
        revert hf; refine zbi (fun x3 e_x3 hf => ?_)
        refine zq_iald dX12_layout_106 e_x3 ?_
        refine zr_iconst (v := (1 : Int32)) dX12_layout_107 (by decide) ?_
        refine zr_iadd dX12_layout_108 ?_
        revert hf; refine zbi (fun h1 e_h1 hf => ?_)
        refine zq_iast dX12_layout_109 e_h1 ?_
        refine zr_aload_n (v := .inl (some l0)) dX12_layout_110 rfl rfl ?_
        revert hf; refine zbi (fun x4 e_x4 hf => ?_)
        refine zq_getR kg_652 dX12_layout_111 e_x4 ?_
        refine zr_iload_n (x := l1) dX12_layout_114 rfl rfl ?_
        revert hf; refine zbi (fun x5 e_x5 hf => ?_)
        refine zq_iald dX12_layout_115 e_x5 ?_
        refine zr_iconst (v := (2 : Int32)) dX12_layout_116 (by decide) ?_
        refine zr_aload_n (v := .inl (some l0)) dX12_layout_117 rfl rfl ?_
        revert hf; refine zbi (fun x6 e_x6 hf => ?_)
        refine zq_getR kg_490 dX12_layout_118 e_x6 ?_
        refine zr_sipush (v := (6864 : Int32)) dX12_layout_121 (by decide) ?_
        revert hf; refine zbi (fun x7 e_x7 hf => ?_)
        refine zq_iald dX12_layout_124 e_x7 ?_
        refine zr_imul dX12_layout_125 ?_
        by_cases hc3 : x5 = ((2 : Int32) * x7)
        · rw [if_pos hc3] at hf
          refine zr_icne_f 142 dX12_layout_126 (by decide) hc3 ?_
          refine zr_aload_n (v := .inl (some l0)) dX12_layout_129 rfl rfl ?_
          revert hf; refine zbi (fun x10 e_x10 hf => ?_)
          refine zq_getR kg_652 dX12_layout_130 e_x10 ?_
          refine zr_iload_n (x := l1) dX12_layout_133 rfl rfl ?_
          refine zr_iconst (v := ((-1) : Int32)) dX12_layout_134 (by decide) ?_
          revert hf; refine zbi (fun h2 e_h2 hf => ?_)
          refine zq_iast dX12_layout_135 e_h2 ?_
          refine zq_iinc (x := l1) (y := ((-1) : Int32)) (L' := [some (zr (some l0)), some (zi (l1 + ((-1) : Int32))), some (zi l2), none]) dX12_layout_136 rfl (by decide) (by decide) rfl ?_
          refine zr_goto (tgt := 88) dX12_layout_139 (by decide) ?_
          exact ih l0 (l1 + ((-1) : Int32)) l2 h2 r h' hf
        · rw [if_neg hc3] at hf
          refine zr_icne_t (tgt := 142) dX12_layout_126 (by decide) hc3 ?_
          refine zr_aload_n (v := .inl (some l0)) dX12_layout_142 rfl rfl ?_
          refine zr_iload_n (x := l1) dX12_layout_143 rfl rfl ?_
          revert hf; refine zbi (fun q1 e_q1 hf => ?_)
          revert hf; refine zbi (fun x8 e_x8 hf => ?_)
          refine zq_callV (J' := jX12_isFree) (as := [zi l1]) (rest := []) (r1 := (some (zi x8))) (q := (RX12, TX12, 31)) kw_735 km_X12_isFree kt_657 dX12_layout_144 rfl (Nat.le_of_ble_eq_true rfl) rfl rfl e_q1 rfl (c_X12_isFree hg e_x8) ?_
          by_cases hc4 : x8 = 0
          · rw [if_pos hc4] at hf
            refine zr_ifne_f 153 dX12_layout_147 (by decide) hc4 ?_
            refine zr_goto (tgt := 88) dX12_layout_150 (by decide) ?_
            exact ih l0 l1 l2 h1 r h' hf
          · rw [if_neg hc4] at hf
            refine zr_ifne_t (tgt := 153) dX12_layout_147 (by decide) hc4 ?_
            refine zq_iinc (x := l2) (y := (1 : Int32)) (L' := [some (zr (some l0)), some (zi l1), some (zi (l2 + (1 : Int32))), none]) dX12_layout_153 rfl (by decide) (by decide) rfl ?_
            refine zr_iload_n (x := (l2 + (1 : Int32))) dX12_layout_156 rfl rfl ?_
            refine zr_sipush (v := (20000 : Int32)) dX12_layout_157 (by decide) ?_
            by_cases hc5 : (l2 + (1 : Int32)) ≤ (20000 : Int32)
            · rw [if_pos hc5] at hf
              refine zr_icle_t (tgt := 166) dX12_layout_160 (by decide) hc5 ?_
              refine zr_aload_n (v := .inl (some l0)) dX12_layout_166 rfl rfl ?_
              refine zr_iload_n (x := l1) dX12_layout_167 rfl rfl ?_
              revert hf; refine zbi (fun q2 e_q2 hf => ?_)
              revert hf; refine zbi (fun x9 e_x9 hf => ?_)
              refine zq_callV (J' := jX12_isParted) (as := [zi l1]) (rest := []) (r1 := (some (zi x9))) (q := (RX12, TX12, 31)) kw_739 km_X12_isParted kt_659 dX12_layout_168 rfl (Nat.le_of_ble_eq_true rfl) rfl rfl e_q2 rfl (c_X12_isParted hg e_x9) ?_
              by_cases hc6 : x9 = 0
              · rw [if_pos hc6] at hf
                refine zr_ifeq_t (tgt := 88) dX12_layout_171 (by decide) hc6 ?_
                exact ih l0 l1 (l2 + (1 : Int32)) h1 r h' hf
              · rw [if_neg hc6] at hf
                refine zr_ifeq_f 88 dX12_layout_171 (by decide) hc6 ?_
                refine zq_iinc (x := l1) (y := (1 : Int32)) (L' := [some (zr (some l0)), some (zi (l1 + (1 : Int32))), some (zi (l2 + (1 : Int32))), none]) dX12_layout_174 rfl (by decide) (by decide) rfl ?_
                refine zr_goto (tgt := 88) dX12_layout_177 (by decide) ?_
                exact ih l0 (l1 + (1 : Int32)) (l2 + (1 : Int32)) h1 r h' hf
            · rw [if_neg hc5] at hf
              refine zr_icle_f 166 dX12_layout_160 (by decide) hc5 ?_
              refine zr_bipush (v := ((-2) : Int32)) dX12_layout_163 (by decide) ?_
              cases hf
              exact zr_ret _ rfl dX12_layout_165
def f_X12_layout_69 (N : Nat) : Nat → Nat → Int32 → Int32 → Int32 → zH → Option (Int32 × zH)
  | 0, _, _, _, _, _ => none
  | n + 1, l0, l1, l2, l3, h => if (16 : Int32) ≤ l3 then f_X12_layout_88 N N l0 l1 l2 h else (zgR h 12 (some l0) 30).bind fun x1 => (zst h 0 x1 l3 ((-1) : Int32)).bind fun h1 => f_X12_layout_69 N n l0 l1 l2 (l3 + (1 : Int32)) h1
set_option maxHeartbeats 4000000 in
set_option maxRecDepth 100000 in
theorem s_X12_layout_69 {g : zG} (hg : g.2.1.map (fun q => q.2) = zty) {h0 : zH} (N : Nat) : ∀ (n : Nat) (l0 : Nat) (l1 : Int32) (l2 : Int32) (l3 : Int32) (h : zH) (r : Int32) (h' : zH), f_X12_layout_69 N n l0 l1 l2 l3 h = some (r, h') → zR g jX12_layout h0 69 [some (zr (some l0)), some (zi l1), some (zi l2), some (zi l3)] [] h (some (zi r)) h' := by
  intro n
  induction n with
  | zero =>
    intro l0 l1 l2 l3 h r h' hf
    cases hf
  | succ n ih =>
    intro l0 l1 l2 l3 h r h' hf
    rw [f_X12_layout_69] at hf
    refine zr_iload_n (x := l3) dX12_layout_69 rfl rfl ?_
    refine zr_bipush (v := (16 : Int32)) dX12_layout_70 (by decide) ?_
    by_cases hc1 : (16 : Int32) ≤ l3
    · rw [if_pos hc1] at hf
      refine zr_icge_t (tgt := 88) dX12_layout_72 (by decide) hc1 ?_
      refine zr_forget 3 (L' := [some (zr (some l0)), some (zi l1), some (zi l2), none]) rfl ?_
      exact s_X12_layout_88 hg N N l0 l1 l2 h r h' hf
    · rw [if_neg hc1] at hf
      refine zr_icge_f 88 dX12_layout_72 (by decide) hc1 ?_
      refine zr_aload_n (v := .inl (some l0)) dX12_layout_75 rfl rfl ?_
      revert hf; refine zbi (fun x1 e_x1 hf => ?_)
      refine zq_getR kg_652 dX12_layout_76 e_x1 ?_
      refine zr_iload_n (x := l3) dX12_layout_79 rfl rfl ?_
      refine zr_iconst (v := ((-1) : Int32)) dX12_layout_80 (by decide) ?_
      revert hf; refine zbi (fun h1 e_h1 hf => ?_)
      refine zq_iast dX12_layout_81 e_h1 ?_
      refine zq_iinc (x := l3) (y := (1 : Int32)) (L' := [some (zr (some l0)), some (zi l1), some (zi l2), some (zi (l3 + (1 : Int32)))]) dX12_layout_82 rfl (by decide) (by decide) rfl ?_
      refine zr_goto (tgt := 69) dX12_layout_85 (by decide) ?_
      exact ih l0 l1 l2 (l3 + (1 : Int32)) h1 r h' hf
def f_X12_layout_20 (N : Nat) : Nat → Nat → Int32 → zH → Option (Int32 × zH)
  | 0, _, _, _ => none
  | n + 1, l0, l1, h => if (16 : Int32) ≤ l1 then f_X12_layout_69 N N l0 (0 : Int32) (0 : Int32) (0 : Int32) h else (zck h 12 (some l0)).bind fun q1 => (f_X12_isArcher N q1 l1 h).bind fun x1 => if x1 = 0 then f_X12_layout_20 N n l0 (l1 + (1 : Int32)) h else (zgR h 12 (some l0) 29).bind fun x2 => (zgI h 12 (some l0) 28).bind fun x3 => (zst h 0 x2 x3 l1).bind fun h1 => (zgI h1 12 (some l0) 28).bind fun x4 => (zpu h1 12 (some l0) 28 (zi (x4 + (1 : Int32)))).bind fun h2 => f_X12_layout_20 N n l0 (l1 + (1 : Int32)) h2
set_option maxHeartbeats 4000000 in
set_option maxRecDepth 100000 in
theorem s_X12_layout_20 {g : zG} (hg : g.2.1.map (fun q => q.2) = zty) {h0 : zH} (N : Nat) : ∀ (n : Nat) (l0 : Nat) (l1 : Int32) (h : zH) (r : Int32) (h' : zH), f_X12_layout_20 N n l0 l1 h = some (r, h') → zR g jX12_layout h0 20 [some (zr (some l0)), some (zi l1), none, none] [] h (some (zi r)) h' := by
  intro n
  induction n with
  | zero =>
    intro l0 l1 h r h' hf
    cases hf
  | succ n ih =>
    intro l0 l1 h r h' hf
    rw [f_X12_layout_20] at hf
    refine zr_iload_n (x := l1) dX12_layout_20 rfl rfl ?_
    refine zr_bipush (v := (16 : Int32)) dX12_layout_21 (by decide) ?_
    by_cases hc1 : (16 : Int32) ≤ l1
    · rw [if_pos hc1] at hf
      refine zr_icge_t (tgt := 63) dX12_layout_23 (by decide) hc1 ?_
      refine zr_iconst (v := (0 : Int32)) dX12_layout_63 (by decide) ?_
      refine zq_istore_n (x := (0 : Int32)) (L' := [some (zr (some l0)), some (zi (0 : Int32)), none, none]) dX12_layout_64 rfl (by decide) rfl ?_
      refine zr_iconst (v := (0 : Int32)) dX12_layout_65 (by decide) ?_
      refine zq_istore_n (x := (0 : Int32)) (L' := [some (zr (some l0)), some (zi (0 : Int32)), some (zi (0 : Int32)), none]) dX12_layout_66 rfl (by decide) rfl ?_
      refine zr_iconst (v := (0 : Int32)) dX12_layout_67 (by decide) ?_
      refine zq_istore_n (x := (0 : Int32)) (L' := [some (zr (some l0)), some (zi (0 : Int32)), some (zi (0 : Int32)), some (zi (0 : Int32))]) dX12_layout_68 rfl (by decide) rfl ?_
      exact s_X12_layout_69 hg N N l0 (0 : Int32) (0 : Int32) (0 : Int32) h r h' hf
    · rw [if_neg hc1] at hf
      refine zr_icge_f 63 dX12_layout_23 (by decide) hc1 ?_
      refine zr_aload_n (v := .inl (some l0)) dX12_layout_26 rfl rfl ?_
      refine zr_iload_n (x := l1) dX12_layout_27 rfl rfl ?_
      revert hf; refine zbi (fun q1 e_q1 hf => ?_)
      revert hf; refine zbi (fun x1 e_x1 hf => ?_)
      refine zq_callV (J' := jX12_isArcher) (as := [zi l1]) (rest := []) (r1 := (some (zi x1))) (q := (RX12, TX12, 31)) kw_682 km_X12_isArcher kt_660 dX12_layout_28 rfl (Nat.le_of_ble_eq_true rfl) rfl rfl e_q1 rfl (c_X12_isArcher hg e_x1) ?_
      by_cases hc2 : x1 = 0
      · rw [if_pos hc2] at hf
        refine zr_ifne_f 37 dX12_layout_31 (by decide) hc2 ?_
        refine zr_goto (tgt := 57) dX12_layout_34 (by decide) ?_
        refine zq_iinc (x := l1) (y := (1 : Int32)) (L' := [some (zr (some l0)), some (zi (l1 + (1 : Int32))), none, none]) dX12_layout_57 rfl (by decide) (by decide) rfl ?_
        refine zr_goto (tgt := 20) dX12_layout_60 (by decide) ?_
        exact ih l0 (l1 + (1 : Int32)) h r h' hf
      · rw [if_neg hc2] at hf
        refine zr_ifne_t (tgt := 37) dX12_layout_31 (by decide) hc2 ?_
        refine zr_aload_n (v := .inl (some l0)) dX12_layout_37 rfl rfl ?_
        revert hf; refine zbi (fun x2 e_x2 hf => ?_)
        refine zq_getR kg_653 dX12_layout_38 e_x2 ?_
        refine zr_aload_n (v := .inl (some l0)) dX12_layout_41 rfl rfl ?_
        revert hf; refine zbi (fun x3 e_x3 hf => ?_)
        refine zq_getI kg_654 dX12_layout_42 e_x3 ?_
        refine zr_iload_n (x := l1) dX12_layout_45 rfl rfl ?_
        revert hf; refine zbi (fun h1 e_h1 hf => ?_)
        refine zq_iast dX12_layout_46 e_h1 ?_
        refine zr_aload_n (v := .inl (some l0)) dX12_layout_47 rfl rfl ?_
        refine zr_dup dX12_layout_48 ?_
        revert hf; refine zbi (fun x4 e_x4 hf => ?_)
        refine zq_getI kg_654 dX12_layout_49 e_x4 ?_
        refine zr_iconst (v := (1 : Int32)) dX12_layout_52 (by decide) ?_
        refine zr_iadd dX12_layout_53 ?_
        revert hf; refine zbi (fun h2 e_h2 hf => ?_)
        refine zq_put (kp_661 _) dX12_layout_54 (zn_i _) e_h2 ?_
        refine zq_iinc (x := l1) (y := (1 : Int32)) (L' := [some (zr (some l0)), some (zi (l1 + (1 : Int32))), none, none]) dX12_layout_57 rfl (by decide) (by decide) rfl ?_
        refine zr_goto (tgt := 20) dX12_layout_60 (by decide) ?_
        exact ih l0 (l1 + (1 : Int32)) h2 r h' hf
def f_X12_layout (N : Nat) (l0 : Nat) (h : zH) : Option (Int32 × zH) := (zgR h 12 (some l0) 0).bind fun x1 => (zld h 0 x1 (6864 : Int32)).bind fun x2 => if x2 = 0 then some (((-1) : Int32), h) else (zpu h 12 (some l0) 28 (zi (0 : Int32))).bind fun h1 => f_X12_layout_20 N N l0 (0 : Int32) h1
set_option maxHeartbeats 4000000 in
set_option maxRecDepth 100000 in
theorem s_X12_layout {g : zG} (hg : g.2.1.map (fun q => q.2) = zty) {h0 : zH} (N : Nat) (l0 : Nat) (h : zH) (r : Int32) (h' : zH) (hf : f_X12_layout N l0 h = some (r, h')) : zR g jX12_layout h0 0 [some (zr (some l0)), none, none, none] [] h (some (zi r)) h' := by
  unfold f_X12_layout at hf
  refine zr_aload_n (v := .inl (some l0)) dX12_layout_0 rfl rfl ?_
  revert hf; refine zbi (fun x1 e_x1 hf => ?_)
  refine zq_getR kg_490 dX12_layout_1 e_x1 ?_
  refine zr_sipush (v := (6864 : Int32)) dX12_layout_4 (by decide) ?_
  revert hf; refine zbi (fun x2 e_x2 hf => ?_)
  refine zq_iald dX12_layout_7 e_x2 ?_
  by_cases hc1 : x2 = 0
  · rw [if_pos hc1] at hf
    refine zr_ifne_f 13 dX12_layout_8 (by decide) hc1 ?_
    refine zr_iconst (v := ((-1) : Int32)) dX12_layout_11 (by decide) ?_
    cases hf
    exact zr_ret _ rfl dX12_layout_12
  · rw [if_neg hc1] at hf
    refine zr_ifne_t (tgt := 13) dX12_layout_8 (by decide) hc1 ?_
    refine zr_aload_n (v := .inl (some l0)) dX12_layout_13 rfl rfl ?_
    refine zr_iconst (v := (0 : Int32)) dX12_layout_14 (by decide) ?_
    revert hf; refine zbi (fun h1 e_h1 hf => ?_)
    refine zq_put (kp_661 _) dX12_layout_15 (zn_i _) e_h1 ?_
    refine zr_iconst (v := (0 : Int32)) dX12_layout_18 (by decide) ?_
    refine zq_istore_n (x := (0 : Int32)) (L' := [some (zr (some l0)), some (zi (0 : Int32)), none, none]) dX12_layout_19 rfl (by decide) rfl ?_
    exact s_X12_layout_20 hg N N l0 (0 : Int32) h1 r h' hf
theorem c_X12_layout {g : zG} (hg : g.2.1.map (fun q => q.2) = zty) {N : Nat} {l0 : Nat} {h : zH} {r : Int32} {h' : zH} (hf : f_X12_layout N l0 h = some (r, h')) : zCa g jX12_layout [zr (some l0)] h (some (zi r)) h' :=
  zCa.of hg (by decide +kernel) (Nat.le_of_ble_eq_true rfl) (s_X12_layout hg N l0 h r h' hf)
theorem dX12_on_0 : decode cX12_on 0 = .ok (.iload_n 1, 1) := by decide +kernel
theorem dX12_on_1 : decode cX12_on 1 = .ok (.ifCond .lt 17, 3) := by decide +kernel
theorem dX12_on_4 : decode cX12_on 4 = .ok (.iload_n 1, 1) := by decide +kernel
theorem dX12_on_5 : decode cX12_on 5 = .ok (.iconst 2, 1) := by decide +kernel
theorem dX12_on_6 : decode cX12_on 6 = .ok (.aload_n 0, 1) := by decide +kernel
theorem dX12_on_7 : decode cX12_on 7 = .ok (.getfield 8, 3) := by decide +kernel
theorem dX12_on_10 : decode cX12_on 10 = .ok (.sipush 6864, 3) := by decide +kernel
theorem dX12_on_13 : decode cX12_on 13 = .ok (.iaload, 1) := by decide +kernel
theorem dX12_on_14 : decode cX12_on 14 = .ok (.imul, 1) := by decide +kernel
theorem dX12_on_15 : decode cX12_on 15 = .ok (.if_icmp .lt 5, 3) := by decide +kernel
theorem dX12_on_18 : decode cX12_on 18 = .ok (.iconst (-1), 1) := by decide +kernel
theorem dX12_on_19 : decode cX12_on 19 = .ok (.ireturn, 1) := by decide +kernel
theorem dX12_on_20 : decode cX12_on 20 = .ok (.iconst 0, 1) := by decide +kernel
theorem dX12_on_21 : decode cX12_on 21 = .ok (.istore_n 2, 1) := by decide +kernel
theorem dX12_on_22 : decode cX12_on 22 = .ok (.iload_n 2, 1) := by decide +kernel
theorem dX12_on_23 : decode cX12_on 23 = .ok (.bipush 16, 2) := by decide +kernel
theorem dX12_on_25 : decode cX12_on 25 = .ok (.if_icmp .ge 33, 3) := by decide +kernel
theorem dX12_on_28 : decode cX12_on 28 = .ok (.aload_n 0, 1) := by decide +kernel
theorem dX12_on_29 : decode cX12_on 29 = .ok (.iload_n 2, 1) := by decide +kernel
theorem dX12_on_30 : decode cX12_on 30 = .ok (.invokevirtual 151, 3) := by decide +kernel
theorem dX12_on_33 : decode cX12_on 33 = .ok (.ifCond .eq 19, 3) := by decide +kernel
theorem dX12_on_36 : decode cX12_on 36 = .ok (.aload_n 0, 1) := by decide +kernel
theorem dX12_on_37 : decode cX12_on 37 = .ok (.getfield 8, 3) := by decide +kernel
theorem dX12_on_40 : decode cX12_on 40 = .ok (.sipush 6881, 3) := by decide +kernel
theorem dX12_on_43 : decode cX12_on 43 = .ok (.iload_n 2, 1) := by decide +kernel
theorem dX12_on_44 : decode cX12_on 44 = .ok (.iadd, 1) := by decide +kernel
theorem dX12_on_45 : decode cX12_on 45 = .ok (.iaload, 1) := by decide +kernel
theorem dX12_on_46 : decode cX12_on 46 = .ok (.iload_n 1, 1) := by decide +kernel
theorem dX12_on_47 : decode cX12_on 47 = .ok (.if_icmp .ne 5, 3) := by decide +kernel
theorem dX12_on_50 : decode cX12_on 50 = .ok (.iload_n 2, 1) := by decide +kernel
theorem dX12_on_51 : decode cX12_on 51 = .ok (.ireturn, 1) := by decide +kernel
theorem dX12_on_52 : decode cX12_on 52 = .ok (.iinc 2 1, 3) := by decide +kernel
theorem dX12_on_55 : decode cX12_on 55 = .ok (.goto (-33), 3) := by decide +kernel
theorem dX12_on_58 : decode cX12_on 58 = .ok (.iconst (-1), 1) := by decide +kernel
theorem dX12_on_59 : decode cX12_on 59 = .ok (.ireturn, 1) := by decide +kernel
def f_X12_on_22 (N : Nat) : Nat → Nat → Int32 → Int32 → zH → Option Int32
  | 0, _, _, _, _ => none
  | n + 1, l0, l1, l2, h => if (16 : Int32) ≤ l2 then some ((-1) : Int32) else (zck h 12 (some l0)).bind fun q1 => (f_X12_isArcher N q1 l2 h).bind fun x1 => if x1 = 0 then f_X12_on_22 N n l0 l1 (l2 + (1 : Int32)) h else (zgR h 12 (some l0) 0).bind fun x2 => (zld h 0 x2 ((6881 : Int32) + l2)).bind fun x3 => if x3 = l1 then some l2 else f_X12_on_22 N n l0 l1 (l2 + (1 : Int32)) h
set_option maxHeartbeats 4000000 in
set_option maxRecDepth 100000 in
theorem s_X12_on_22 {g : zG} (hg : g.2.1.map (fun q => q.2) = zty) {h0 : zH} (N : Nat) : ∀ (n : Nat) (l0 : Nat) (l1 : Int32) (l2 : Int32) (h : zH) (r : Int32), f_X12_on_22 N n l0 l1 l2 h = some r → zR g jX12_on h0 22 [some (zr (some l0)), some (zi l1), some (zi l2)] [] h (some (zi r)) h := by
  intro n
  induction n with
  | zero =>
    intro l0 l1 l2 h r hf
    cases hf
  | succ n ih =>
    intro l0 l1 l2 h r hf
    rw [f_X12_on_22] at hf
    refine zr_iload_n (x := l2) dX12_on_22 rfl rfl ?_
    refine zr_bipush (v := (16 : Int32)) dX12_on_23 (by decide) ?_
    by_cases hc1 : (16 : Int32) ≤ l2
    · rw [if_pos hc1] at hf
      refine zr_icge_t (tgt := 58) dX12_on_25 (by decide) hc1 ?_
      refine zr_iconst (v := ((-1) : Int32)) dX12_on_58 (by decide) ?_
      cases hf
      exact zr_ret _ rfl dX12_on_59
    · rw [if_neg hc1] at hf
      refine zr_icge_f 58 dX12_on_25 (by decide) hc1 ?_
      refine zr_aload_n (v := .inl (some l0)) dX12_on_28 rfl rfl ?_
      refine zr_iload_n (x := l2) dX12_on_29 rfl rfl ?_
      revert hf; refine zbi (fun q1 e_q1 hf => ?_)
      revert hf; refine zbi (fun x1 e_x1 hf => ?_)
      refine zq_callV (J' := jX12_isArcher) (as := [zi l2]) (rest := []) (r1 := (some (zi x1))) (q := (RX12, TX12, 31)) kw_682 km_X12_isArcher kt_662 dX12_on_30 rfl (Nat.le_of_ble_eq_true rfl) rfl rfl e_q1 rfl (c_X12_isArcher hg e_x1) ?_
      by_cases hc2 : x1 = 0
      · rw [if_pos hc2] at hf
        refine zr_ifeq_t (tgt := 52) dX12_on_33 (by decide) hc2 ?_
        refine zq_iinc (x := l2) (y := (1 : Int32)) (L' := [some (zr (some l0)), some (zi l1), some (zi (l2 + (1 : Int32)))]) dX12_on_52 rfl (by decide) (by decide) rfl ?_
        refine zr_goto (tgt := 22) dX12_on_55 (by decide) ?_
        exact ih l0 l1 (l2 + (1 : Int32)) h r hf
      · rw [if_neg hc2] at hf
        refine zr_ifeq_f 52 dX12_on_33 (by decide) hc2 ?_
        refine zr_aload_n (v := .inl (some l0)) dX12_on_36 rfl rfl ?_
        revert hf; refine zbi (fun x2 e_x2 hf => ?_)
        refine zq_getR kg_490 dX12_on_37 e_x2 ?_
        refine zr_sipush (v := (6881 : Int32)) dX12_on_40 (by decide) ?_
        refine zr_iload_n (x := l2) dX12_on_43 rfl rfl ?_
        refine zr_iadd dX12_on_44 ?_
        revert hf; refine zbi (fun x3 e_x3 hf => ?_)
        refine zq_iald dX12_on_45 e_x3 ?_
        refine zr_iload_n (x := l1) dX12_on_46 rfl rfl ?_
        by_cases hc3 : x3 = l1
        · rw [if_pos hc3] at hf
          refine zr_icne_f 52 dX12_on_47 (by decide) hc3 ?_
          refine zr_iload_n (x := l2) dX12_on_50 rfl rfl ?_
          cases hf
          exact zr_ret _ rfl dX12_on_51
        · rw [if_neg hc3] at hf
          refine zr_icne_t (tgt := 52) dX12_on_47 (by decide) hc3 ?_
          refine zq_iinc (x := l2) (y := (1 : Int32)) (L' := [some (zr (some l0)), some (zi l1), some (zi (l2 + (1 : Int32)))]) dX12_on_52 rfl (by decide) (by decide) rfl ?_
          refine zr_goto (tgt := 22) dX12_on_55 (by decide) ?_
          exact ih l0 l1 (l2 + (1 : Int32)) h r hf
def f_X12_on (N : Nat) (l0 : Nat) (l1 : Int32) (h : zH) : Option Int32 := if l1 < 0 then some ((-1) : Int32) else (zgR h 12 (some l0) 0).bind fun x1 => (zld h 0 x1 (6864 : Int32)).bind fun x2 => if l1 < ((2 : Int32) * x2) then f_X12_on_22 N N l0 l1 (0 : Int32) h else some ((-1) : Int32)
set_option maxHeartbeats 4000000 in
set_option maxRecDepth 100000 in
theorem s_X12_on {g : zG} (hg : g.2.1.map (fun q => q.2) = zty) {h0 : zH} (N : Nat) (l0 : Nat) (l1 : Int32) (h : zH) (r : Int32) (hf : f_X12_on N l0 l1 h = some r) : zR g jX12_on h0 0 [some (zr (some l0)), some (zi l1), none] [] h (some (zi r)) h := by
  unfold f_X12_on at hf
  refine zr_iload_n (x := l1) dX12_on_0 rfl rfl ?_
  by_cases hc1 : l1 < 0
  · rw [if_pos hc1] at hf
    refine zr_iflt_t (tgt := 18) dX12_on_1 (by decide) hc1 ?_
    refine zr_iconst (v := ((-1) : Int32)) dX12_on_18 (by decide) ?_
    cases hf
    exact zr_ret _ rfl dX12_on_19
  · rw [if_neg hc1] at hf
    refine zr_iflt_f 18 dX12_on_1 (by decide) hc1 ?_
    refine zr_iload_n (x := l1) dX12_on_4 rfl rfl ?_
    refine zr_iconst (v := (2 : Int32)) dX12_on_5 (by decide) ?_
    refine zr_aload_n (v := .inl (some l0)) dX12_on_6 rfl rfl ?_
    revert hf; refine zbi (fun x1 e_x1 hf => ?_)
    refine zq_getR kg_490 dX12_on_7 e_x1 ?_
    refine zr_sipush (v := (6864 : Int32)) dX12_on_10 (by decide) ?_
    revert hf; refine zbi (fun x2 e_x2 hf => ?_)
    refine zq_iald dX12_on_13 e_x2 ?_
    refine zr_imul dX12_on_14 ?_
    by_cases hc2 : l1 < ((2 : Int32) * x2)
    · rw [if_pos hc2] at hf
      refine zr_iclt_t (tgt := 20) dX12_on_15 (by decide) hc2 ?_
      refine zr_iconst (v := (0 : Int32)) dX12_on_20 (by decide) ?_
      refine zq_istore_n (x := (0 : Int32)) (L' := [some (zr (some l0)), some (zi l1), some (zi (0 : Int32))]) dX12_on_21 rfl (by decide) rfl ?_
      exact s_X12_on_22 hg N N l0 l1 (0 : Int32) h r hf
    · rw [if_neg hc2] at hf
      refine zr_iclt_f 20 dX12_on_15 (by decide) hc2 ?_
      refine zr_iconst (v := ((-1) : Int32)) dX12_on_18 (by decide) ?_
      cases hf
      exact zr_ret _ rfl dX12_on_19
theorem c_X12_on {g : zG} (hg : g.2.1.map (fun q => q.2) = zty) {N : Nat} {l0 : Nat} {l1 : Int32} {h : zH} {r : Int32} (hf : f_X12_on N l0 l1 h = some r) : zCa g jX12_on [zr (some l0), zi l1] h (some (zi r)) h :=
  zCa.of hg (by decide +kernel) (Nat.le_of_ble_eq_true rfl) (s_X12_on hg N l0 l1 h r hf)
theorem dX12_lane_0 : decode cX12_lane 0 = .ok (.iload_n 1, 1) := by decide +kernel
theorem dX12_lane_1 : decode cX12_lane 1 = .ok (.ifCond .lt 24, 3) := by decide +kernel
theorem dX12_lane_4 : decode cX12_lane 4 = .ok (.iload_n 1, 1) := by decide +kernel
theorem dX12_lane_5 : decode cX12_lane 5 = .ok (.aload_n 0, 1) := by decide +kernel
theorem dX12_lane_6 : decode cX12_lane 6 = .ok (.getfield 8, 3) := by decide +kernel
theorem dX12_lane_9 : decode cX12_lane 9 = .ok (.sipush 6864, 3) := by decide +kernel
theorem dX12_lane_12 : decode cX12_lane 12 = .ok (.iaload, 1) := by decide +kernel
theorem dX12_lane_13 : decode cX12_lane 13 = .ok (.if_icmp .ge 12, 3) := by decide +kernel
theorem dX12_lane_16 : decode cX12_lane 16 = .ok (.iload_n 2, 1) := by decide +kernel
theorem dX12_lane_17 : decode cX12_lane 17 = .ok (.ifCond .lt 8, 3) := by decide +kernel
theorem dX12_lane_20 : decode cX12_lane 20 = .ok (.iload_n 2, 1) := by decide +kernel
theorem dX12_lane_21 : decode cX12_lane 21 = .ok (.iconst 2, 1) := by decide +kernel
theorem dX12_lane_22 : decode cX12_lane 22 = .ok (.if_icmp .le 5, 3) := by decide +kernel
theorem dX12_lane_25 : decode cX12_lane 25 = .ok (.iconst (-1), 1) := by decide +kernel
theorem dX12_lane_26 : decode cX12_lane 26 = .ok (.ireturn, 1) := by decide +kernel
theorem dX12_lane_27 : decode cX12_lane 27 = .ok (.aload_n 0, 1) := by decide +kernel
theorem dX12_lane_28 : decode cX12_lane 28 = .ok (.getfield 8, 3) := by decide +kernel
theorem dX12_lane_31 : decode cX12_lane 31 = .ok (.sipush 6873, 3) := by decide +kernel
theorem dX12_lane_34 : decode cX12_lane 34 = .ok (.iload_n 1, 1) := by decide +kernel
theorem dX12_lane_35 : decode cX12_lane 35 = .ok (.iadd, 1) := by decide +kernel
theorem dX12_lane_36 : decode cX12_lane 36 = .ok (.iaload, 1) := by decide +kernel
theorem dX12_lane_37 : decode cX12_lane 37 = .ok (.istore_n 3, 1) := by decide +kernel
theorem dX12_lane_38 : decode cX12_lane 38 = .ok (.iload_n 3, 1) := by decide +kernel
theorem dX12_lane_39 : decode cX12_lane 39 = .ok (.iload_n 2, 1) := by decide +kernel
theorem dX12_lane_40 : decode cX12_lane 40 = .ok (.if_icmp .eq 10, 3) := by decide +kernel
theorem dX12_lane_43 : decode cX12_lane 43 = .ok (.iload_n 3, 1) := by decide +kernel
theorem dX12_lane_44 : decode cX12_lane 44 = .ok (.iload_n 2, 1) := by decide +kernel
theorem dX12_lane_45 : decode cX12_lane 45 = .ok (.iadd, 1) := by decide +kernel
theorem dX12_lane_46 : decode cX12_lane 46 = .ok (.iconst 3, 1) := by decide +kernel
theorem dX12_lane_47 : decode cX12_lane 47 = .ok (.if_icmp .ne 5, 3) := by decide +kernel
theorem dX12_lane_50 : decode cX12_lane 50 = .ok (.iconst (-1), 1) := by decide +kernel
theorem dX12_lane_51 : decode cX12_lane 51 = .ok (.ireturn, 1) := by decide +kernel
theorem dX12_lane_52 : decode cX12_lane 52 = .ok (.iconst 0, 1) := by decide +kernel
theorem dX12_lane_53 : decode cX12_lane 53 = .ok (.istore 4, 2) := by decide +kernel
theorem dX12_lane_55 : decode cX12_lane 55 = .ok (.iload 4, 2) := by decide +kernel
theorem dX12_lane_57 : decode cX12_lane 57 = .ok (.aload_n 0, 1) := by decide +kernel
theorem dX12_lane_58 : decode cX12_lane 58 = .ok (.getfield 8, 3) := by decide +kernel
theorem dX12_lane_61 : decode cX12_lane 61 = .ok (.sipush 6864, 3) := by decide +kernel
theorem dX12_lane_64 : decode cX12_lane 64 = .ok (.iaload, 1) := by decide +kernel
theorem dX12_lane_65 : decode cX12_lane 65 = .ok (.if_icmp .ge 56, 3) := by decide +kernel
theorem dX12_lane_68 : decode cX12_lane 68 = .ok (.iload_n 2, 1) := by decide +kernel
theorem dX12_lane_69 : decode cX12_lane 69 = .ok (.ifCond .le 46, 3) := by decide +kernel
theorem dX12_lane_72 : decode cX12_lane 72 = .ok (.aload_n 0, 1) := by decide +kernel
theorem dX12_lane_73 : decode cX12_lane 73 = .ok (.getfield 8, 3) := by decide +kernel
theorem dX12_lane_76 : decode cX12_lane 76 = .ok (.sipush 6865, 3) := by decide +kernel
theorem dX12_lane_79 : decode cX12_lane 79 = .ok (.iload 4, 2) := by decide +kernel
theorem dX12_lane_81 : decode cX12_lane 81 = .ok (.iadd, 1) := by decide +kernel
theorem dX12_lane_82 : decode cX12_lane 82 = .ok (.iaload, 1) := by decide +kernel
theorem dX12_lane_83 : decode cX12_lane 83 = .ok (.aload_n 0, 1) := by decide +kernel
theorem dX12_lane_84 : decode cX12_lane 84 = .ok (.getfield 8, 3) := by decide +kernel
theorem dX12_lane_87 : decode cX12_lane 87 = .ok (.sipush 6865, 3) := by decide +kernel
theorem dX12_lane_90 : decode cX12_lane 90 = .ok (.iload_n 1, 1) := by decide +kernel
theorem dX12_lane_91 : decode cX12_lane 91 = .ok (.iadd, 1) := by decide +kernel
theorem dX12_lane_92 : decode cX12_lane 92 = .ok (.iaload, 1) := by decide +kernel
theorem dX12_lane_93 : decode cX12_lane 93 = .ok (.if_icmp .ne 22, 3) := by decide +kernel
theorem dX12_lane_96 : decode cX12_lane 96 = .ok (.aload_n 0, 1) := by decide +kernel
theorem dX12_lane_97 : decode cX12_lane 97 = .ok (.getfield 8, 3) := by decide +kernel
theorem dX12_lane_100 : decode cX12_lane 100 = .ok (.sipush 6873, 3) := by decide +kernel
theorem dX12_lane_103 : decode cX12_lane 103 = .ok (.iload 4, 2) := by decide +kernel
theorem dX12_lane_105 : decode cX12_lane 105 = .ok (.iadd, 1) := by decide +kernel
theorem dX12_lane_106 : decode cX12_lane 106 = .ok (.iaload, 1) := by decide +kernel
theorem dX12_lane_107 : decode cX12_lane 107 = .ok (.iconst 3, 1) := by decide +kernel
theorem dX12_lane_108 : decode cX12_lane 108 = .ok (.iload_n 2, 1) := by decide +kernel
theorem dX12_lane_109 : decode cX12_lane 109 = .ok (.isub, 1) := by decide +kernel
theorem dX12_lane_110 : decode cX12_lane 110 = .ok (.if_icmp .ne 5, 3) := by decide +kernel
theorem dX12_lane_113 : decode cX12_lane 113 = .ok (.iconst (-1), 1) := by decide +kernel
theorem dX12_lane_114 : decode cX12_lane 114 = .ok (.ireturn, 1) := by decide +kernel
theorem dX12_lane_115 : decode cX12_lane 115 = .ok (.iinc 4 1, 3) := by decide +kernel
theorem dX12_lane_118 : decode cX12_lane 118 = .ok (.goto (-63), 3) := by decide +kernel
theorem dX12_lane_121 : decode cX12_lane 121 = .ok (.aload_n 0, 1) := by decide +kernel
theorem dX12_lane_122 : decode cX12_lane 122 = .ok (.invokevirtual 144, 3) := by decide +kernel
theorem dX12_lane_125 : decode cX12_lane 125 = .ok (.aload_n 0, 1) := by decide +kernel
theorem dX12_lane_126 : decode cX12_lane 126 = .ok (.getfield 8, 3) := by decide +kernel
theorem dX12_lane_129 : decode cX12_lane 129 = .ok (.sipush 6873, 3) := by decide +kernel
theorem dX12_lane_132 : decode cX12_lane 132 = .ok (.iload_n 1, 1) := by decide +kernel
theorem dX12_lane_133 : decode cX12_lane 133 = .ok (.iadd, 1) := by decide +kernel
theorem dX12_lane_134 : decode cX12_lane 134 = .ok (.iload_n 2, 1) := by decide +kernel
theorem dX12_lane_135 : decode cX12_lane 135 = .ok (.iastore, 1) := by decide +kernel
theorem dX12_lane_136 : decode cX12_lane 136 = .ok (.iload_n 3, 1) := by decide +kernel
theorem dX12_lane_137 : decode cX12_lane 137 = .ok (.ireturn, 1) := by decide +kernel
def f_X12_lane_55 (N : Nat) : Nat → Nat → Int32 → Int32 → Int32 → Int32 → zH → Option (Int32 × zH)
  | 0, _, _, _, _, _, _ => none
  | n + 1, l0, l1, l2, l3, l4, h => (zgR h 12 (some l0) 0).bind fun x1 => (zld h 0 x1 (6864 : Int32)).bind fun x2 => if x2 ≤ l4 then (zck h 12 (some l0)).bind fun q1 => (f_X12_keeps N q1 h).bind fun h1 => (zgR h1 12 (some l0) 0).bind fun x3 => (zst h1 0 x3 ((6873 : Int32) + l1) l2).bind fun h2 => some (l3, h2) else if l2 ≤ 0 then f_X12_lane_55 N n l0 l1 l2 l3 (l4 + (1 : Int32)) h else (zgR h 12 (some l0) 0).bind fun x4 => (zld h 0 x4 ((6865 : Int32) + l4)).bind fun x5 => (zgR h 12 (some l0) 0).bind fun x6 => (zld h 0 x6 ((6865 : Int32) + l1)).bind fun x7 => if x5 = x7 then (zgR h 12 (some l0) 0).bind fun x8 => (zld h 0 x8 ((6873 : Int32) + l4)).bind fun x9 => if x9 = ((3 : Int32) - l2) then some (((-1) : Int32), h) else f_X12_lane_55 N n l0 l1 l2 l3 (l4 + (1 : Int32)) h else f_X12_lane_55 N n l0 l1 l2 l3 (l4 + (1 : Int32)) h
set_option maxHeartbeats 4000000 in
set_option maxRecDepth 100000 in
theorem s_X12_lane_55 {g : zG} (hg : g.2.1.map (fun q => q.2) = zty) {h0 : zH} (N : Nat) : ∀ (n : Nat) (l0 : Nat) (l1 : Int32) (l2 : Int32) (l3 : Int32) (l4 : Int32) (h : zH) (r : Int32) (h' : zH), f_X12_lane_55 N n l0 l1 l2 l3 l4 h = some (r, h') → zR g jX12_lane h0 55 [some (zr (some l0)), some (zi l1), some (zi l2), some (zi l3), some (zi l4)] [] h (some (zi r)) h' := by
  intro n
  induction n with
  | zero =>
    intro l0 l1 l2 l3 l4 h r h' hf
    cases hf
  | succ n ih =>
    intro l0 l1 l2 l3 l4 h r h' hf
    rw [f_X12_lane_55] at hf
    refine zr_iload (x := l4) dX12_lane_55 rfl ?_
    refine zr_aload_n (v := .inl (some l0)) dX12_lane_57 rfl rfl ?_
    revert hf; refine zbi (fun x1 e_x1 hf => ?_)
    refine zq_getR kg_490 dX12_lane_58 e_x1 ?_
    refine zr_sipush (v := (6864 : Int32)) dX12_lane_61 (by decide) ?_
    revert hf; refine zbi (fun x2 e_x2 hf => ?_)
    refine zq_iald dX12_lane_64 e_x2 ?_
    by_cases hc1 : x2 ≤ l4
    · rw [if_pos hc1] at hf
      refine zr_icge_t (tgt := 121) dX12_lane_65 (by decide) hc1 ?_
      refine zr_aload_n (v := .inl (some l0)) dX12_lane_121 rfl rfl ?_
      revert hf; refine zbi (fun q1 e_q1 hf => ?_)
      revert hf; refine zbi (fun h1 e_h1 hf => ?_)
      refine zq_callV (J' := jX12_keeps) (as := []) (rest := []) (r1 := none) (q := (RX12, TX12, 31)) kw_674 km_X12_keeps kt_663 dX12_lane_122 rfl (Nat.le_of_ble_eq_true rfl) rfl rfl e_q1 rfl (c_X12_keeps hg e_h1) ?_
      refine zr_aload_n (v := .inl (some l0)) dX12_lane_125 rfl rfl ?_
      revert hf; refine zbi (fun x3 e_x3 hf => ?_)
      refine zq_getR kg_490 dX12_lane_126 e_x3 ?_
      refine zr_sipush (v := (6873 : Int32)) dX12_lane_129 (by decide) ?_
      refine zr_iload_n (x := l1) dX12_lane_132 rfl rfl ?_
      refine zr_iadd dX12_lane_133 ?_
      refine zr_iload_n (x := l2) dX12_lane_134 rfl rfl ?_
      revert hf; refine zbi (fun h2 e_h2 hf => ?_)
      refine zq_iast dX12_lane_135 e_h2 ?_
      refine zr_iload_n (x := l3) dX12_lane_136 rfl rfl ?_
      cases hf
      exact zr_ret _ rfl dX12_lane_137
    · rw [if_neg hc1] at hf
      refine zr_icge_f 121 dX12_lane_65 (by decide) hc1 ?_
      refine zr_iload_n (x := l2) dX12_lane_68 rfl rfl ?_
      by_cases hc2 : l2 ≤ 0
      · rw [if_pos hc2] at hf
        refine zr_ifle_t (tgt := 115) dX12_lane_69 (by decide) hc2 ?_
        refine zq_iinc (x := l4) (y := (1 : Int32)) (L' := [some (zr (some l0)), some (zi l1), some (zi l2), some (zi l3), some (zi (l4 + (1 : Int32)))]) dX12_lane_115 rfl (by decide) (by decide) rfl ?_
        refine zr_goto (tgt := 55) dX12_lane_118 (by decide) ?_
        exact ih l0 l1 l2 l3 (l4 + (1 : Int32)) h r h' hf
      · rw [if_neg hc2] at hf
        refine zr_ifle_f 115 dX12_lane_69 (by decide) hc2 ?_
        refine zr_aload_n (v := .inl (some l0)) dX12_lane_72 rfl rfl ?_
        revert hf; refine zbi (fun x4 e_x4 hf => ?_)
        refine zq_getR kg_490 dX12_lane_73 e_x4 ?_
        refine zr_sipush (v := (6865 : Int32)) dX12_lane_76 (by decide) ?_
        refine zr_iload (x := l4) dX12_lane_79 rfl ?_
        refine zr_iadd dX12_lane_81 ?_
        revert hf; refine zbi (fun x5 e_x5 hf => ?_)
        refine zq_iald dX12_lane_82 e_x5 ?_
        refine zr_aload_n (v := .inl (some l0)) dX12_lane_83 rfl rfl ?_
        revert hf; refine zbi (fun x6 e_x6 hf => ?_)
        refine zq_getR kg_490 dX12_lane_84 e_x6 ?_
        refine zr_sipush (v := (6865 : Int32)) dX12_lane_87 (by decide) ?_
        refine zr_iload_n (x := l1) dX12_lane_90 rfl rfl ?_
        refine zr_iadd dX12_lane_91 ?_
        revert hf; refine zbi (fun x7 e_x7 hf => ?_)
        refine zq_iald dX12_lane_92 e_x7 ?_
        by_cases hc3 : x5 = x7
        · rw [if_pos hc3] at hf
          refine zr_icne_f 115 dX12_lane_93 (by decide) hc3 ?_
          refine zr_aload_n (v := .inl (some l0)) dX12_lane_96 rfl rfl ?_
          revert hf; refine zbi (fun x8 e_x8 hf => ?_)
          refine zq_getR kg_490 dX12_lane_97 e_x8 ?_
          refine zr_sipush (v := (6873 : Int32)) dX12_lane_100 (by decide) ?_
          refine zr_iload (x := l4) dX12_lane_103 rfl ?_
          refine zr_iadd dX12_lane_105 ?_
          revert hf; refine zbi (fun x9 e_x9 hf => ?_)
          refine zq_iald dX12_lane_106 e_x9 ?_
          refine zr_iconst (v := (3 : Int32)) dX12_lane_107 (by decide) ?_
          refine zr_iload_n (x := l2) dX12_lane_108 rfl rfl ?_
          refine zr_isub dX12_lane_109 ?_
          by_cases hc4 : x9 = ((3 : Int32) - l2)
          · rw [if_pos hc4] at hf
            refine zr_icne_f 115 dX12_lane_110 (by decide) hc4 ?_
            refine zr_iconst (v := ((-1) : Int32)) dX12_lane_113 (by decide) ?_
            cases hf
            exact zr_ret _ rfl dX12_lane_114
          · rw [if_neg hc4] at hf
            refine zr_icne_t (tgt := 115) dX12_lane_110 (by decide) hc4 ?_
            refine zq_iinc (x := l4) (y := (1 : Int32)) (L' := [some (zr (some l0)), some (zi l1), some (zi l2), some (zi l3), some (zi (l4 + (1 : Int32)))]) dX12_lane_115 rfl (by decide) (by decide) rfl ?_
            refine zr_goto (tgt := 55) dX12_lane_118 (by decide) ?_
            exact ih l0 l1 l2 l3 (l4 + (1 : Int32)) h r h' hf
        · rw [if_neg hc3] at hf
          refine zr_icne_t (tgt := 115) dX12_lane_93 (by decide) hc3 ?_
          refine zq_iinc (x := l4) (y := (1 : Int32)) (L' := [some (zr (some l0)), some (zi l1), some (zi l2), some (zi l3), some (zi (l4 + (1 : Int32)))]) dX12_lane_115 rfl (by decide) (by decide) rfl ?_
          refine zr_goto (tgt := 55) dX12_lane_118 (by decide) ?_
          exact ih l0 l1 l2 l3 (l4 + (1 : Int32)) h r h' hf
def f_X12_lane (N : Nat) (l0 : Nat) (l1 : Int32) (l2 : Int32) (h : zH) : Option (Int32 × zH) := if l1 < 0 then some (((-1) : Int32), h) else (zgR h 12 (some l0) 0).bind fun x1 => (zld h 0 x1 (6864 : Int32)).bind fun x2 => if x2 ≤ l1 then some (((-1) : Int32), h) else if l2 < 0 then some (((-1) : Int32), h) else if l2 ≤ (2 : Int32) then (zgR h 12 (some l0) 0).bind fun x3 => (zld h 0 x3 ((6873 : Int32) + l1)).bind fun x4 => if x4 = l2 then some (((-1) : Int32), h) else if (x4 + l2) = (3 : Int32) then some (((-1) : Int32), h) else f_X12_lane_55 N N l0 l1 l2 x4 (0 : Int32) h else some (((-1) : Int32), h)
set_option maxHeartbeats 4000000 in
set_option maxRecDepth 100000 in
theorem s_X12_lane {g : zG} (hg : g.2.1.map (fun q => q.2) = zty) {h0 : zH} (N : Nat) (l0 : Nat) (l1 : Int32) (l2 : Int32) (h : zH) (r : Int32) (h' : zH) (hf : f_X12_lane N l0 l1 l2 h = some (r, h')) : zR g jX12_lane h0 0 [some (zr (some l0)), some (zi l1), some (zi l2), none, none] [] h (some (zi r)) h' := by
  unfold f_X12_lane at hf
  refine zr_iload_n (x := l1) dX12_lane_0 rfl rfl ?_
  by_cases hc1 : l1 < 0
  · rw [if_pos hc1] at hf
    refine zr_iflt_t (tgt := 25) dX12_lane_1 (by decide) hc1 ?_
    refine zr_iconst (v := ((-1) : Int32)) dX12_lane_25 (by decide) ?_
    cases hf
    exact zr_ret _ rfl dX12_lane_26
  · rw [if_neg hc1] at hf
    refine zr_iflt_f 25 dX12_lane_1 (by decide) hc1 ?_
    refine zr_iload_n (x := l1) dX12_lane_4 rfl rfl ?_
    refine zr_aload_n (v := .inl (some l0)) dX12_lane_5 rfl rfl ?_
    revert hf; refine zbi (fun x1 e_x1 hf => ?_)
    refine zq_getR kg_490 dX12_lane_6 e_x1 ?_
    refine zr_sipush (v := (6864 : Int32)) dX12_lane_9 (by decide) ?_
    revert hf; refine zbi (fun x2 e_x2 hf => ?_)
    refine zq_iald dX12_lane_12 e_x2 ?_
    by_cases hc2 : x2 ≤ l1
    · rw [if_pos hc2] at hf
      refine zr_icge_t (tgt := 25) dX12_lane_13 (by decide) hc2 ?_
      refine zr_iconst (v := ((-1) : Int32)) dX12_lane_25 (by decide) ?_
      cases hf
      exact zr_ret _ rfl dX12_lane_26
    · rw [if_neg hc2] at hf
      refine zr_icge_f 25 dX12_lane_13 (by decide) hc2 ?_
      refine zr_iload_n (x := l2) dX12_lane_16 rfl rfl ?_
      by_cases hc3 : l2 < 0
      · rw [if_pos hc3] at hf
        refine zr_iflt_t (tgt := 25) dX12_lane_17 (by decide) hc3 ?_
        refine zr_iconst (v := ((-1) : Int32)) dX12_lane_25 (by decide) ?_
        cases hf
        exact zr_ret _ rfl dX12_lane_26
      · rw [if_neg hc3] at hf
        refine zr_iflt_f 25 dX12_lane_17 (by decide) hc3 ?_
        refine zr_iload_n (x := l2) dX12_lane_20 rfl rfl ?_
        refine zr_iconst (v := (2 : Int32)) dX12_lane_21 (by decide) ?_
        by_cases hc4 : l2 ≤ (2 : Int32)
        · rw [if_pos hc4] at hf
          refine zr_icle_t (tgt := 27) dX12_lane_22 (by decide) hc4 ?_
          refine zr_aload_n (v := .inl (some l0)) dX12_lane_27 rfl rfl ?_
          revert hf; refine zbi (fun x3 e_x3 hf => ?_)
          refine zq_getR kg_490 dX12_lane_28 e_x3 ?_
          refine zr_sipush (v := (6873 : Int32)) dX12_lane_31 (by decide) ?_
          refine zr_iload_n (x := l1) dX12_lane_34 rfl rfl ?_
          refine zr_iadd dX12_lane_35 ?_
          revert hf; refine zbi (fun x4 e_x4 hf => ?_)
          refine zq_iald dX12_lane_36 e_x4 ?_
          refine zq_istore_n (x := x4) (L' := [some (zr (some l0)), some (zi l1), some (zi l2), some (zi x4), none]) dX12_lane_37 rfl (by decide) rfl ?_
          refine zr_iload_n (x := x4) dX12_lane_38 rfl rfl ?_
          refine zr_iload_n (x := l2) dX12_lane_39 rfl rfl ?_
          by_cases hc5 : x4 = l2
          · rw [if_pos hc5] at hf
            refine zr_iceq_t (tgt := 50) dX12_lane_40 (by decide) hc5 ?_
            refine zr_iconst (v := ((-1) : Int32)) dX12_lane_50 (by decide) ?_
            cases hf
            exact zr_ret _ rfl dX12_lane_51
          · rw [if_neg hc5] at hf
            refine zr_iceq_f 50 dX12_lane_40 (by decide) hc5 ?_
            refine zr_iload_n (x := x4) dX12_lane_43 rfl rfl ?_
            refine zr_iload_n (x := l2) dX12_lane_44 rfl rfl ?_
            refine zr_iadd dX12_lane_45 ?_
            refine zr_iconst (v := (3 : Int32)) dX12_lane_46 (by decide) ?_
            by_cases hc6 : (x4 + l2) = (3 : Int32)
            · rw [if_pos hc6] at hf
              refine zr_icne_f 52 dX12_lane_47 (by decide) hc6 ?_
              refine zr_iconst (v := ((-1) : Int32)) dX12_lane_50 (by decide) ?_
              cases hf
              exact zr_ret _ rfl dX12_lane_51
            · rw [if_neg hc6] at hf
              refine zr_icne_t (tgt := 52) dX12_lane_47 (by decide) hc6 ?_
              refine zr_iconst (v := (0 : Int32)) dX12_lane_52 (by decide) ?_
              refine zq_istore (x := (0 : Int32)) (L' := [some (zr (some l0)), some (zi l1), some (zi l2), some (zi x4), some (zi (0 : Int32))]) dX12_lane_53 (by decide) rfl ?_
              exact s_X12_lane_55 hg N N l0 l1 l2 x4 (0 : Int32) h r h' hf
        · rw [if_neg hc4] at hf
          refine zr_icle_f 27 dX12_lane_22 (by decide) hc4 ?_
          refine zr_iconst (v := ((-1) : Int32)) dX12_lane_25 (by decide) ?_
          cases hf
          exact zr_ret _ rfl dX12_lane_26
theorem c_X12_lane {g : zG} (hg : g.2.1.map (fun q => q.2) = zty) {N : Nat} {l0 : Nat} {l1 : Int32} {l2 : Int32} {h : zH} {r : Int32} {h' : zH} (hf : f_X12_lane N l0 l1 l2 h = some (r, h')) : zCa g jX12_lane [zr (some l0), zi l1, zi l2] h (some (zi r)) h' :=
  zCa.of hg (by decide +kernel) (Nat.le_of_ble_eq_true rfl) (s_X12_lane hg N l0 l1 l2 h r h' hf)
theorem dX12_state_0 : decode cX12_state 0 = .ok (.iload_n 1, 1) := by decide +kernel
theorem dX12_state_1 : decode cX12_state 1 = .ok (.ifCond .lt 28, 3) := by decide +kernel
theorem dX12_state_4 : decode cX12_state 4 = .ok (.iload_n 1, 1) := by decide +kernel
theorem dX12_state_5 : decode cX12_state 5 = .ok (.aload_n 0, 1) := by decide +kernel
theorem dX12_state_6 : decode cX12_state 6 = .ok (.getfield 8, 3) := by decide +kernel
theorem dX12_state_9 : decode cX12_state 9 = .ok (.sipush 6864, 3) := by decide +kernel
theorem dX12_state_12 : decode cX12_state 12 = .ok (.iaload, 1) := by decide +kernel
theorem dX12_state_13 : decode cX12_state 13 = .ok (.if_icmp .ge 16, 3) := by decide +kernel
theorem dX12_state_16 : decode cX12_state 16 = .ok (.aload_n 0, 1) := by decide +kernel
theorem dX12_state_17 : decode cX12_state 17 = .ok (.getfield 8, 3) := by decide +kernel
theorem dX12_state_20 : decode cX12_state 20 = .ok (.sipush 6873, 3) := by decide +kernel
theorem dX12_state_23 : decode cX12_state 23 = .ok (.iload_n 1, 1) := by decide +kernel
theorem dX12_state_24 : decode cX12_state 24 = .ok (.iadd, 1) := by decide +kernel
theorem dX12_state_25 : decode cX12_state 25 = .ok (.iaload, 1) := by decide +kernel
theorem dX12_state_26 : decode cX12_state 26 = .ok (.goto 4, 3) := by decide +kernel
theorem dX12_state_29 : decode cX12_state 29 = .ok (.iconst (-1), 1) := by decide +kernel
theorem dX12_state_30 : decode cX12_state 30 = .ok (.ireturn, 1) := by decide +kernel
def f_X12_state (N : Nat) (l0 : Nat) (l1 : Int32) (h : zH) : Option Int32 := if l1 < 0 then some ((-1) : Int32) else (zgR h 12 (some l0) 0).bind fun x1 => (zld h 0 x1 (6864 : Int32)).bind fun x2 => if x2 ≤ l1 then some ((-1) : Int32) else (zgR h 12 (some l0) 0).bind fun x3 => (zld h 0 x3 ((6873 : Int32) + l1)).bind fun x4 => some x4
set_option maxHeartbeats 4000000 in
set_option maxRecDepth 100000 in
theorem s_X12_state {g : zG} (hg : g.2.1.map (fun q => q.2) = zty) {h0 : zH} (N : Nat) (l0 : Nat) (l1 : Int32) (h : zH) (r : Int32) (hf : f_X12_state N l0 l1 h = some r) : zR g jX12_state h0 0 [some (zr (some l0)), some (zi l1)] [] h (some (zi r)) h := by
  unfold f_X12_state at hf
  refine zr_iload_n (x := l1) dX12_state_0 rfl rfl ?_
  by_cases hc1 : l1 < 0
  · rw [if_pos hc1] at hf
    refine zr_iflt_t (tgt := 29) dX12_state_1 (by decide) hc1 ?_
    refine zr_iconst (v := ((-1) : Int32)) dX12_state_29 (by decide) ?_
    cases hf
    exact zr_ret _ rfl dX12_state_30
  · rw [if_neg hc1] at hf
    refine zr_iflt_f 29 dX12_state_1 (by decide) hc1 ?_
    refine zr_iload_n (x := l1) dX12_state_4 rfl rfl ?_
    refine zr_aload_n (v := .inl (some l0)) dX12_state_5 rfl rfl ?_
    revert hf; refine zbi (fun x1 e_x1 hf => ?_)
    refine zq_getR kg_490 dX12_state_6 e_x1 ?_
    refine zr_sipush (v := (6864 : Int32)) dX12_state_9 (by decide) ?_
    revert hf; refine zbi (fun x2 e_x2 hf => ?_)
    refine zq_iald dX12_state_12 e_x2 ?_
    by_cases hc2 : x2 ≤ l1
    · rw [if_pos hc2] at hf
      refine zr_icge_t (tgt := 29) dX12_state_13 (by decide) hc2 ?_
      refine zr_iconst (v := ((-1) : Int32)) dX12_state_29 (by decide) ?_
      cases hf
      exact zr_ret _ rfl dX12_state_30
    · rw [if_neg hc2] at hf
      refine zr_icge_f 29 dX12_state_13 (by decide) hc2 ?_
      refine zr_aload_n (v := .inl (some l0)) dX12_state_16 rfl rfl ?_
      revert hf; refine zbi (fun x3 e_x3 hf => ?_)
      refine zq_getR kg_490 dX12_state_17 e_x3 ?_
      refine zr_sipush (v := (6873 : Int32)) dX12_state_20 (by decide) ?_
      refine zr_iload_n (x := l1) dX12_state_23 rfl rfl ?_
      refine zr_iadd dX12_state_24 ?_
      revert hf; refine zbi (fun x4 e_x4 hf => ?_)
      refine zq_iald dX12_state_25 e_x4 ?_
      refine zr_goto (tgt := 30) dX12_state_26 (by decide) ?_
      cases hf
      exact zr_ret _ rfl dX12_state_30
theorem c_X12_state {g : zG} (hg : g.2.1.map (fun q => q.2) = zty) {N : Nat} {l0 : Nat} {l1 : Int32} {h : zH} {r : Int32} (hf : f_X12_state N l0 l1 h = some r) : zCa g jX12_state [zr (some l0), zi l1] h (some (zi r)) h :=
  zCa.of hg (by decide +kernel) (Nat.le_of_ble_eq_true rfl) (s_X12_state hg N l0 l1 h r hf)
theorem dL_law_0 : decode cL_law 0 = .ok (.new 7, 3) := by decide +kernel
theorem dL_law_3 : decode cL_law 3 = .ok (.dup, 1) := by decide +kernel
theorem dL_law_4 : decode cL_law 4 = .ok (.invokespecial 9, 3) := by decide +kernel
theorem dL_law_7 : decode cL_law 7 = .ok (.astore_n 1, 1) := by decide +kernel
theorem dL_law_8 : decode cL_law 8 = .ok (.new 10, 3) := by decide +kernel
theorem dL_law_11 : decode cL_law 11 = .ok (.dup, 1) := by decide +kernel
theorem dL_law_12 : decode cL_law 12 = .ok (.invokespecial 12, 3) := by decide +kernel
theorem dL_law_15 : decode cL_law 15 = .ok (.astore_n 2, 1) := by decide +kernel
theorem dL_law_16 : decode cL_law 16 = .ok (.iconst 0, 1) := by decide +kernel
theorem dL_law_17 : decode cL_law 17 = .ok (.istore_n 3, 1) := by decide +kernel
theorem dL_law_18 : decode cL_law 18 = .ok (.iload_n 3, 1) := by decide +kernel
theorem dL_law_19 : decode cL_law 19 = .ok (.aload_n 0, 1) := by decide +kernel
theorem dL_law_20 : decode cL_law 20 = .ok (.arraylength, 1) := by decide +kernel
theorem dL_law_21 : decode cL_law 21 = .ok (.bipush 6, 2) := by decide +kernel
theorem dL_law_23 : decode cL_law 23 = .ok (.isub, 1) := by decide +kernel
theorem dL_law_24 : decode cL_law 24 = .ok (.if_icmp .gt 902, 3) := by decide +kernel
theorem dL_law_27 : decode cL_law 27 = .ok (.aload_n 0, 1) := by decide +kernel
theorem dL_law_28 : decode cL_law 28 = .ok (.iload_n 3, 1) := by decide +kernel
theorem dL_law_29 : decode cL_law 29 = .ok (.iaload, 1) := by decide +kernel
theorem dL_law_30 : decode cL_law 30 = .ok (.bipush 31, 2) := by decide +kernel
theorem dL_law_32 : decode cL_law 32 = .ok (.iand, 1) := by decide +kernel
theorem dL_law_33 : decode cL_law 33 = .ok (.tableswitch 887 0 25 #[119, 182, 205, 218, 241, 264, 287, 310, 343, 386, 409, 442, 465, 518, 551, 574, 597, 640, 673, 716, 759, 782, 795, 818, 851, 874], 119) := by decide +kernel
theorem dL_law_152 : decode cL_law 152 = .ok (.aload_n 1, 1) := by decide +kernel
theorem dL_law_153 : decode cL_law 153 = .ok (.aload_n 0, 1) := by decide +kernel
theorem dL_law_154 : decode cL_law 154 = .ok (.iload_n 3, 1) := by decide +kernel
theorem dL_law_155 : decode cL_law 155 = .ok (.iconst 1, 1) := by decide +kernel
theorem dL_law_156 : decode cL_law 156 = .ok (.iadd, 1) := by decide +kernel
theorem dL_law_157 : decode cL_law 157 = .ok (.iaload, 1) := by decide +kernel
theorem dL_law_158 : decode cL_law 158 = .ok (.aload_n 0, 1) := by decide +kernel
theorem dL_law_159 : decode cL_law 159 = .ok (.iload_n 3, 1) := by decide +kernel
theorem dL_law_160 : decode cL_law 160 = .ok (.iconst 2, 1) := by decide +kernel
theorem dL_law_161 : decode cL_law 161 = .ok (.iadd, 1) := by decide +kernel
theorem dL_law_162 : decode cL_law 162 = .ok (.iaload, 1) := by decide +kernel
theorem dL_law_163 : decode cL_law 163 = .ok (.aload_n 0, 1) := by decide +kernel
theorem dL_law_164 : decode cL_law 164 = .ok (.iload_n 3, 1) := by decide +kernel
theorem dL_law_165 : decode cL_law 165 = .ok (.iconst 3, 1) := by decide +kernel
theorem dL_law_166 : decode cL_law 166 = .ok (.iadd, 1) := by decide +kernel
theorem dL_law_167 : decode cL_law 167 = .ok (.iaload, 1) := by decide +kernel
theorem dL_law_168 : decode cL_law 168 = .ok (.aload_n 0, 1) := by decide +kernel
theorem dL_law_169 : decode cL_law 169 = .ok (.iload_n 3, 1) := by decide +kernel
theorem dL_law_170 : decode cL_law 170 = .ok (.iconst 4, 1) := by decide +kernel
theorem dL_law_171 : decode cL_law 171 = .ok (.iadd, 1) := by decide +kernel
theorem dL_law_172 : decode cL_law 172 = .ok (.iaload, 1) := by decide +kernel
theorem dL_law_173 : decode cL_law 173 = .ok (.aload_n 0, 1) := by decide +kernel
theorem dL_law_174 : decode cL_law 174 = .ok (.iload_n 3, 1) := by decide +kernel
theorem dL_law_175 : decode cL_law 175 = .ok (.iconst 5, 1) := by decide +kernel
theorem dL_law_176 : decode cL_law 176 = .ok (.iadd, 1) := by decide +kernel
theorem dL_law_177 : decode cL_law 177 = .ok (.iaload, 1) := by decide +kernel
theorem dL_law_178 : decode cL_law 178 = .ok (.invokevirtual 13, 3) := by decide +kernel
theorem dL_law_181 : decode cL_law 181 = .ok (.aload_n 2, 1) := by decide +kernel
theorem dL_law_182 : decode cL_law 182 = .ok (.aload_n 0, 1) := by decide +kernel
theorem dL_law_183 : decode cL_law 183 = .ok (.iload_n 3, 1) := by decide +kernel
theorem dL_law_184 : decode cL_law 184 = .ok (.iconst 1, 1) := by decide +kernel
theorem dL_law_185 : decode cL_law 185 = .ok (.iadd, 1) := by decide +kernel
theorem dL_law_186 : decode cL_law 186 = .ok (.iaload, 1) := by decide +kernel
theorem dL_law_187 : decode cL_law 187 = .ok (.aload_n 0, 1) := by decide +kernel
theorem dL_law_188 : decode cL_law 188 = .ok (.iload_n 3, 1) := by decide +kernel
theorem dL_law_189 : decode cL_law 189 = .ok (.iconst 2, 1) := by decide +kernel
theorem dL_law_190 : decode cL_law 190 = .ok (.iadd, 1) := by decide +kernel
theorem dL_law_191 : decode cL_law 191 = .ok (.iaload, 1) := by decide +kernel
theorem dL_law_192 : decode cL_law 192 = .ok (.aload_n 0, 1) := by decide +kernel
theorem dL_law_193 : decode cL_law 193 = .ok (.iload_n 3, 1) := by decide +kernel
theorem dL_law_194 : decode cL_law 194 = .ok (.iconst 3, 1) := by decide +kernel
theorem dL_law_195 : decode cL_law 195 = .ok (.iadd, 1) := by decide +kernel
theorem dL_law_196 : decode cL_law 196 = .ok (.iaload, 1) := by decide +kernel
theorem dL_law_197 : decode cL_law 197 = .ok (.aload_n 0, 1) := by decide +kernel
theorem dL_law_198 : decode cL_law 198 = .ok (.iload_n 3, 1) := by decide +kernel
theorem dL_law_199 : decode cL_law 199 = .ok (.iconst 4, 1) := by decide +kernel
theorem dL_law_200 : decode cL_law 200 = .ok (.iadd, 1) := by decide +kernel
theorem dL_law_201 : decode cL_law 201 = .ok (.iaload, 1) := by decide +kernel
theorem dL_law_202 : decode cL_law 202 = .ok (.aload_n 0, 1) := by decide +kernel
theorem dL_law_203 : decode cL_law 203 = .ok (.iload_n 3, 1) := by decide +kernel
theorem dL_law_204 : decode cL_law 204 = .ok (.iconst 5, 1) := by decide +kernel
theorem dL_law_205 : decode cL_law 205 = .ok (.iadd, 1) := by decide +kernel
theorem dL_law_206 : decode cL_law 206 = .ok (.iaload, 1) := by decide +kernel
theorem dL_law_207 : decode cL_law 207 = .ok (.invokevirtual 17, 3) := by decide +kernel
theorem dL_law_210 : decode cL_law 210 = .ok (.if_icmp .eq 710, 3) := by decide +kernel
theorem dL_law_213 : decode cL_law 213 = .ok (.iconst 0, 1) := by decide +kernel
theorem dL_law_214 : decode cL_law 214 = .ok (.ireturn, 1) := by decide +kernel
theorem dL_law_215 : decode cL_law 215 = .ok (.aload_n 1, 1) := by decide +kernel
theorem dL_law_216 : decode cL_law 216 = .ok (.aload_n 0, 1) := by decide +kernel
theorem dL_law_217 : decode cL_law 217 = .ok (.iload_n 3, 1) := by decide +kernel
theorem dL_law_218 : decode cL_law 218 = .ok (.iconst 1, 1) := by decide +kernel
theorem dL_law_219 : decode cL_law 219 = .ok (.iadd, 1) := by decide +kernel
theorem dL_law_220 : decode cL_law 220 = .ok (.iaload, 1) := by decide +kernel
theorem dL_law_221 : decode cL_law 221 = .ok (.invokevirtual 18, 3) := by decide +kernel
theorem dL_law_224 : decode cL_law 224 = .ok (.aload_n 2, 1) := by decide +kernel
theorem dL_law_225 : decode cL_law 225 = .ok (.aload_n 0, 1) := by decide +kernel
theorem dL_law_226 : decode cL_law 226 = .ok (.iload_n 3, 1) := by decide +kernel
theorem dL_law_227 : decode cL_law 227 = .ok (.iconst 1, 1) := by decide +kernel
theorem dL_law_228 : decode cL_law 228 = .ok (.iadd, 1) := by decide +kernel
theorem dL_law_229 : decode cL_law 229 = .ok (.iaload, 1) := by decide +kernel
theorem dL_law_230 : decode cL_law 230 = .ok (.invokevirtual 22, 3) := by decide +kernel
theorem dL_law_233 : decode cL_law 233 = .ok (.if_icmp .eq 687, 3) := by decide +kernel
theorem dL_law_236 : decode cL_law 236 = .ok (.iconst 0, 1) := by decide +kernel
theorem dL_law_237 : decode cL_law 237 = .ok (.ireturn, 1) := by decide +kernel
theorem dL_law_238 : decode cL_law 238 = .ok (.aload_n 1, 1) := by decide +kernel
theorem dL_law_239 : decode cL_law 239 = .ok (.invokevirtual 23, 3) := by decide +kernel
theorem dL_law_242 : decode cL_law 242 = .ok (.aload_n 2, 1) := by decide +kernel
theorem dL_law_243 : decode cL_law 243 = .ok (.invokevirtual 27, 3) := by decide +kernel
theorem dL_law_246 : decode cL_law 246 = .ok (.if_icmp .eq 674, 3) := by decide +kernel
theorem dL_law_249 : decode cL_law 249 = .ok (.iconst 0, 1) := by decide +kernel
theorem dL_law_250 : decode cL_law 250 = .ok (.ireturn, 1) := by decide +kernel
theorem dL_law_251 : decode cL_law 251 = .ok (.aload_n 1, 1) := by decide +kernel
theorem dL_law_252 : decode cL_law 252 = .ok (.aload_n 0, 1) := by decide +kernel
theorem dL_law_253 : decode cL_law 253 = .ok (.iload_n 3, 1) := by decide +kernel
theorem dL_law_254 : decode cL_law 254 = .ok (.iconst 1, 1) := by decide +kernel
theorem dL_law_255 : decode cL_law 255 = .ok (.iadd, 1) := by decide +kernel
theorem dL_law_256 : decode cL_law 256 = .ok (.iaload, 1) := by decide +kernel
theorem dL_law_257 : decode cL_law 257 = .ok (.invokevirtual 28, 3) := by decide +kernel
theorem dL_law_260 : decode cL_law 260 = .ok (.aload_n 2, 1) := by decide +kernel
theorem dL_law_261 : decode cL_law 261 = .ok (.aload_n 0, 1) := by decide +kernel
theorem dL_law_262 : decode cL_law 262 = .ok (.iload_n 3, 1) := by decide +kernel
theorem dL_law_263 : decode cL_law 263 = .ok (.iconst 1, 1) := by decide +kernel
theorem dL_law_264 : decode cL_law 264 = .ok (.iadd, 1) := by decide +kernel
theorem dL_law_265 : decode cL_law 265 = .ok (.iaload, 1) := by decide +kernel
theorem dL_law_266 : decode cL_law 266 = .ok (.invokevirtual 32, 3) := by decide +kernel
theorem dL_law_269 : decode cL_law 269 = .ok (.if_icmp .eq 651, 3) := by decide +kernel
theorem dL_law_272 : decode cL_law 272 = .ok (.iconst 0, 1) := by decide +kernel
theorem dL_law_273 : decode cL_law 273 = .ok (.ireturn, 1) := by decide +kernel
theorem dL_law_274 : decode cL_law 274 = .ok (.aload_n 1, 1) := by decide +kernel
theorem dL_law_275 : decode cL_law 275 = .ok (.aload_n 0, 1) := by decide +kernel
theorem dL_law_276 : decode cL_law 276 = .ok (.iload_n 3, 1) := by decide +kernel
theorem dL_law_277 : decode cL_law 277 = .ok (.iconst 1, 1) := by decide +kernel
theorem dL_law_278 : decode cL_law 278 = .ok (.iadd, 1) := by decide +kernel
theorem dL_law_279 : decode cL_law 279 = .ok (.iaload, 1) := by decide +kernel
theorem dL_law_280 : decode cL_law 280 = .ok (.invokevirtual 33, 3) := by decide +kernel
theorem dL_law_283 : decode cL_law 283 = .ok (.aload_n 2, 1) := by decide +kernel
theorem dL_law_284 : decode cL_law 284 = .ok (.aload_n 0, 1) := by decide +kernel
theorem dL_law_285 : decode cL_law 285 = .ok (.iload_n 3, 1) := by decide +kernel
theorem dL_law_286 : decode cL_law 286 = .ok (.iconst 1, 1) := by decide +kernel
theorem dL_law_287 : decode cL_law 287 = .ok (.iadd, 1) := by decide +kernel
theorem dL_law_288 : decode cL_law 288 = .ok (.iaload, 1) := by decide +kernel
theorem dL_law_289 : decode cL_law 289 = .ok (.invokevirtual 36, 3) := by decide +kernel
theorem dL_law_292 : decode cL_law 292 = .ok (.if_icmp .eq 628, 3) := by decide +kernel
theorem dL_law_295 : decode cL_law 295 = .ok (.iconst 0, 1) := by decide +kernel
theorem dL_law_296 : decode cL_law 296 = .ok (.ireturn, 1) := by decide +kernel
theorem dL_law_297 : decode cL_law 297 = .ok (.aload_n 1, 1) := by decide +kernel
theorem dL_law_298 : decode cL_law 298 = .ok (.aload_n 0, 1) := by decide +kernel
theorem dL_law_299 : decode cL_law 299 = .ok (.iload_n 3, 1) := by decide +kernel
theorem dL_law_300 : decode cL_law 300 = .ok (.iconst 1, 1) := by decide +kernel
theorem dL_law_301 : decode cL_law 301 = .ok (.iadd, 1) := by decide +kernel
theorem dL_law_302 : decode cL_law 302 = .ok (.iaload, 1) := by decide +kernel
theorem dL_law_303 : decode cL_law 303 = .ok (.invokevirtual 37, 3) := by decide +kernel
theorem dL_law_306 : decode cL_law 306 = .ok (.aload_n 2, 1) := by decide +kernel
theorem dL_law_307 : decode cL_law 307 = .ok (.aload_n 0, 1) := by decide +kernel
theorem dL_law_308 : decode cL_law 308 = .ok (.iload_n 3, 1) := by decide +kernel
theorem dL_law_309 : decode cL_law 309 = .ok (.iconst 1, 1) := by decide +kernel
theorem dL_law_310 : decode cL_law 310 = .ok (.iadd, 1) := by decide +kernel
theorem dL_law_311 : decode cL_law 311 = .ok (.iaload, 1) := by decide +kernel
theorem dL_law_312 : decode cL_law 312 = .ok (.invokevirtual 40, 3) := by decide +kernel
theorem dL_law_315 : decode cL_law 315 = .ok (.if_icmp .eq 605, 3) := by decide +kernel
theorem dL_law_318 : decode cL_law 318 = .ok (.iconst 0, 1) := by decide +kernel
theorem dL_law_319 : decode cL_law 319 = .ok (.ireturn, 1) := by decide +kernel
theorem dL_law_320 : decode cL_law 320 = .ok (.aload_n 1, 1) := by decide +kernel
theorem dL_law_321 : decode cL_law 321 = .ok (.aload_n 0, 1) := by decide +kernel
theorem dL_law_322 : decode cL_law 322 = .ok (.iload_n 3, 1) := by decide +kernel
theorem dL_law_323 : decode cL_law 323 = .ok (.iconst 1, 1) := by decide +kernel
theorem dL_law_324 : decode cL_law 324 = .ok (.iadd, 1) := by decide +kernel
theorem dL_law_325 : decode cL_law 325 = .ok (.iaload, 1) := by decide +kernel
theorem dL_law_326 : decode cL_law 326 = .ok (.invokevirtual 41, 3) := by decide +kernel
theorem dL_law_329 : decode cL_law 329 = .ok (.aload_n 2, 1) := by decide +kernel
theorem dL_law_330 : decode cL_law 330 = .ok (.aload_n 0, 1) := by decide +kernel
theorem dL_law_331 : decode cL_law 331 = .ok (.iload_n 3, 1) := by decide +kernel
theorem dL_law_332 : decode cL_law 332 = .ok (.iconst 1, 1) := by decide +kernel
theorem dL_law_333 : decode cL_law 333 = .ok (.iadd, 1) := by decide +kernel
theorem dL_law_334 : decode cL_law 334 = .ok (.iaload, 1) := by decide +kernel
theorem dL_law_335 : decode cL_law 335 = .ok (.invokevirtual 44, 3) := by decide +kernel
theorem dL_law_338 : decode cL_law 338 = .ok (.if_icmp .eq 582, 3) := by decide +kernel
theorem dL_law_341 : decode cL_law 341 = .ok (.iconst 0, 1) := by decide +kernel
theorem dL_law_342 : decode cL_law 342 = .ok (.ireturn, 1) := by decide +kernel
theorem dL_law_343 : decode cL_law 343 = .ok (.aload_n 1, 1) := by decide +kernel
theorem dL_law_344 : decode cL_law 344 = .ok (.aload_n 0, 1) := by decide +kernel
theorem dL_law_345 : decode cL_law 345 = .ok (.iload_n 3, 1) := by decide +kernel
theorem dL_law_346 : decode cL_law 346 = .ok (.iconst 1, 1) := by decide +kernel
theorem dL_law_347 : decode cL_law 347 = .ok (.iadd, 1) := by decide +kernel
theorem dL_law_348 : decode cL_law 348 = .ok (.iaload, 1) := by decide +kernel
theorem dL_law_349 : decode cL_law 349 = .ok (.aload_n 0, 1) := by decide +kernel
theorem dL_law_350 : decode cL_law 350 = .ok (.iload_n 3, 1) := by decide +kernel
theorem dL_law_351 : decode cL_law 351 = .ok (.iconst 2, 1) := by decide +kernel
theorem dL_law_352 : decode cL_law 352 = .ok (.iadd, 1) := by decide +kernel
theorem dL_law_353 : decode cL_law 353 = .ok (.iaload, 1) := by decide +kernel
theorem dL_law_354 : decode cL_law 354 = .ok (.invokevirtual 45, 3) := by decide +kernel
theorem dL_law_357 : decode cL_law 357 = .ok (.aload_n 2, 1) := by decide +kernel
theorem dL_law_358 : decode cL_law 358 = .ok (.aload_n 0, 1) := by decide +kernel
theorem dL_law_359 : decode cL_law 359 = .ok (.iload_n 3, 1) := by decide +kernel
theorem dL_law_360 : decode cL_law 360 = .ok (.iconst 1, 1) := by decide +kernel
theorem dL_law_361 : decode cL_law 361 = .ok (.iadd, 1) := by decide +kernel
theorem dL_law_362 : decode cL_law 362 = .ok (.iaload, 1) := by decide +kernel
theorem dL_law_363 : decode cL_law 363 = .ok (.aload_n 0, 1) := by decide +kernel
theorem dL_law_364 : decode cL_law 364 = .ok (.iload_n 3, 1) := by decide +kernel
theorem dL_law_365 : decode cL_law 365 = .ok (.iconst 2, 1) := by decide +kernel
theorem dL_law_366 : decode cL_law 366 = .ok (.iadd, 1) := by decide +kernel
theorem dL_law_367 : decode cL_law 367 = .ok (.iaload, 1) := by decide +kernel
theorem dL_law_368 : decode cL_law 368 = .ok (.invokevirtual 49, 3) := by decide +kernel
theorem dL_law_371 : decode cL_law 371 = .ok (.if_icmp .eq 549, 3) := by decide +kernel
theorem dL_law_374 : decode cL_law 374 = .ok (.iconst 0, 1) := by decide +kernel
theorem dL_law_375 : decode cL_law 375 = .ok (.ireturn, 1) := by decide +kernel
theorem dL_law_376 : decode cL_law 376 = .ok (.aload_n 1, 1) := by decide +kernel
theorem dL_law_377 : decode cL_law 377 = .ok (.aload_n 0, 1) := by decide +kernel
theorem dL_law_378 : decode cL_law 378 = .ok (.iload_n 3, 1) := by decide +kernel
theorem dL_law_379 : decode cL_law 379 = .ok (.iconst 1, 1) := by decide +kernel
theorem dL_law_380 : decode cL_law 380 = .ok (.iadd, 1) := by decide +kernel
theorem dL_law_381 : decode cL_law 381 = .ok (.iaload, 1) := by decide +kernel
theorem dL_law_382 : decode cL_law 382 = .ok (.aload_n 0, 1) := by decide +kernel
theorem dL_law_383 : decode cL_law 383 = .ok (.iload_n 3, 1) := by decide +kernel
theorem dL_law_384 : decode cL_law 384 = .ok (.iconst 2, 1) := by decide +kernel
theorem dL_law_385 : decode cL_law 385 = .ok (.iadd, 1) := by decide +kernel
theorem dL_law_386 : decode cL_law 386 = .ok (.iaload, 1) := by decide +kernel
theorem dL_law_387 : decode cL_law 387 = .ok (.aload_n 0, 1) := by decide +kernel
theorem dL_law_388 : decode cL_law 388 = .ok (.iload_n 3, 1) := by decide +kernel
theorem dL_law_389 : decode cL_law 389 = .ok (.iconst 3, 1) := by decide +kernel
theorem dL_law_390 : decode cL_law 390 = .ok (.iadd, 1) := by decide +kernel
theorem dL_law_391 : decode cL_law 391 = .ok (.iaload, 1) := by decide +kernel
theorem dL_law_392 : decode cL_law 392 = .ok (.invokevirtual 50, 3) := by decide +kernel
theorem dL_law_395 : decode cL_law 395 = .ok (.aload_n 2, 1) := by decide +kernel
theorem dL_law_396 : decode cL_law 396 = .ok (.aload_n 0, 1) := by decide +kernel
theorem dL_law_397 : decode cL_law 397 = .ok (.iload_n 3, 1) := by decide +kernel
theorem dL_law_398 : decode cL_law 398 = .ok (.iconst 1, 1) := by decide +kernel
theorem dL_law_399 : decode cL_law 399 = .ok (.iadd, 1) := by decide +kernel
theorem dL_law_400 : decode cL_law 400 = .ok (.iaload, 1) := by decide +kernel
theorem dL_law_401 : decode cL_law 401 = .ok (.aload_n 0, 1) := by decide +kernel
theorem dL_law_402 : decode cL_law 402 = .ok (.iload_n 3, 1) := by decide +kernel
theorem dL_law_403 : decode cL_law 403 = .ok (.iconst 2, 1) := by decide +kernel
theorem dL_law_404 : decode cL_law 404 = .ok (.iadd, 1) := by decide +kernel
theorem dL_law_405 : decode cL_law 405 = .ok (.iaload, 1) := by decide +kernel
theorem dL_law_406 : decode cL_law 406 = .ok (.aload_n 0, 1) := by decide +kernel
theorem dL_law_407 : decode cL_law 407 = .ok (.iload_n 3, 1) := by decide +kernel
theorem dL_law_408 : decode cL_law 408 = .ok (.iconst 3, 1) := by decide +kernel
theorem dL_law_409 : decode cL_law 409 = .ok (.iadd, 1) := by decide +kernel
theorem dL_law_410 : decode cL_law 410 = .ok (.iaload, 1) := by decide +kernel
theorem dL_law_411 : decode cL_law 411 = .ok (.invokevirtual 54, 3) := by decide +kernel
theorem dL_law_414 : decode cL_law 414 = .ok (.if_icmp .eq 506, 3) := by decide +kernel
theorem dL_law_417 : decode cL_law 417 = .ok (.iconst 0, 1) := by decide +kernel
theorem dL_law_418 : decode cL_law 418 = .ok (.ireturn, 1) := by decide +kernel
theorem dL_law_419 : decode cL_law 419 = .ok (.aload_n 1, 1) := by decide +kernel
theorem dL_law_420 : decode cL_law 420 = .ok (.aload_n 0, 1) := by decide +kernel
theorem dL_law_421 : decode cL_law 421 = .ok (.iload_n 3, 1) := by decide +kernel
theorem dL_law_422 : decode cL_law 422 = .ok (.iconst 1, 1) := by decide +kernel
theorem dL_law_423 : decode cL_law 423 = .ok (.iadd, 1) := by decide +kernel
theorem dL_law_424 : decode cL_law 424 = .ok (.iaload, 1) := by decide +kernel
theorem dL_law_425 : decode cL_law 425 = .ok (.invokevirtual 55, 3) := by decide +kernel
theorem dL_law_428 : decode cL_law 428 = .ok (.aload_n 2, 1) := by decide +kernel
theorem dL_law_429 : decode cL_law 429 = .ok (.aload_n 0, 1) := by decide +kernel
theorem dL_law_430 : decode cL_law 430 = .ok (.iload_n 3, 1) := by decide +kernel
theorem dL_law_431 : decode cL_law 431 = .ok (.iconst 1, 1) := by decide +kernel
theorem dL_law_432 : decode cL_law 432 = .ok (.iadd, 1) := by decide +kernel
theorem dL_law_433 : decode cL_law 433 = .ok (.iaload, 1) := by decide +kernel
theorem dL_law_434 : decode cL_law 434 = .ok (.invokevirtual 58, 3) := by decide +kernel
theorem dL_law_437 : decode cL_law 437 = .ok (.if_icmp .eq 483, 3) := by decide +kernel
theorem dL_law_440 : decode cL_law 440 = .ok (.iconst 0, 1) := by decide +kernel
theorem dL_law_441 : decode cL_law 441 = .ok (.ireturn, 1) := by decide +kernel
theorem dL_law_442 : decode cL_law 442 = .ok (.aload_n 1, 1) := by decide +kernel
theorem dL_law_443 : decode cL_law 443 = .ok (.aload_n 0, 1) := by decide +kernel
theorem dL_law_444 : decode cL_law 444 = .ok (.iload_n 3, 1) := by decide +kernel
theorem dL_law_445 : decode cL_law 445 = .ok (.iconst 1, 1) := by decide +kernel
theorem dL_law_446 : decode cL_law 446 = .ok (.iadd, 1) := by decide +kernel
theorem dL_law_447 : decode cL_law 447 = .ok (.iaload, 1) := by decide +kernel
theorem dL_law_448 : decode cL_law 448 = .ok (.aload_n 0, 1) := by decide +kernel
theorem dL_law_449 : decode cL_law 449 = .ok (.iload_n 3, 1) := by decide +kernel
theorem dL_law_450 : decode cL_law 450 = .ok (.iconst 2, 1) := by decide +kernel
theorem dL_law_451 : decode cL_law 451 = .ok (.iadd, 1) := by decide +kernel
theorem dL_law_452 : decode cL_law 452 = .ok (.iaload, 1) := by decide +kernel
theorem dL_law_453 : decode cL_law 453 = .ok (.invokevirtual 59, 3) := by decide +kernel
theorem dL_law_456 : decode cL_law 456 = .ok (.aload_n 2, 1) := by decide +kernel
theorem dL_law_457 : decode cL_law 457 = .ok (.aload_n 0, 1) := by decide +kernel
theorem dL_law_458 : decode cL_law 458 = .ok (.iload_n 3, 1) := by decide +kernel
theorem dL_law_459 : decode cL_law 459 = .ok (.iconst 1, 1) := by decide +kernel
theorem dL_law_460 : decode cL_law 460 = .ok (.iadd, 1) := by decide +kernel
theorem dL_law_461 : decode cL_law 461 = .ok (.iaload, 1) := by decide +kernel
theorem dL_law_462 : decode cL_law 462 = .ok (.aload_n 0, 1) := by decide +kernel
theorem dL_law_463 : decode cL_law 463 = .ok (.iload_n 3, 1) := by decide +kernel
theorem dL_law_464 : decode cL_law 464 = .ok (.iconst 2, 1) := by decide +kernel
theorem dL_law_465 : decode cL_law 465 = .ok (.iadd, 1) := by decide +kernel
theorem dL_law_466 : decode cL_law 466 = .ok (.iaload, 1) := by decide +kernel
theorem dL_law_467 : decode cL_law 467 = .ok (.invokevirtual 62, 3) := by decide +kernel
theorem dL_law_470 : decode cL_law 470 = .ok (.if_icmp .eq 450, 3) := by decide +kernel
theorem dL_law_473 : decode cL_law 473 = .ok (.iconst 0, 1) := by decide +kernel
theorem dL_law_474 : decode cL_law 474 = .ok (.ireturn, 1) := by decide +kernel
theorem dL_law_475 : decode cL_law 475 = .ok (.aload_n 1, 1) := by decide +kernel
theorem dL_law_476 : decode cL_law 476 = .ok (.aload_n 0, 1) := by decide +kernel
theorem dL_law_477 : decode cL_law 477 = .ok (.iload_n 3, 1) := by decide +kernel
theorem dL_law_478 : decode cL_law 478 = .ok (.iconst 1, 1) := by decide +kernel
theorem dL_law_479 : decode cL_law 479 = .ok (.iadd, 1) := by decide +kernel
theorem dL_law_480 : decode cL_law 480 = .ok (.iaload, 1) := by decide +kernel
theorem dL_law_481 : decode cL_law 481 = .ok (.invokevirtual 63, 3) := by decide +kernel
theorem dL_law_484 : decode cL_law 484 = .ok (.aload_n 2, 1) := by decide +kernel
theorem dL_law_485 : decode cL_law 485 = .ok (.aload_n 0, 1) := by decide +kernel
theorem dL_law_486 : decode cL_law 486 = .ok (.iload_n 3, 1) := by decide +kernel
theorem dL_law_487 : decode cL_law 487 = .ok (.iconst 1, 1) := by decide +kernel
theorem dL_law_488 : decode cL_law 488 = .ok (.iadd, 1) := by decide +kernel
theorem dL_law_489 : decode cL_law 489 = .ok (.iaload, 1) := by decide +kernel
theorem dL_law_490 : decode cL_law 490 = .ok (.invokevirtual 66, 3) := by decide +kernel
theorem dL_law_493 : decode cL_law 493 = .ok (.if_icmp .eq 427, 3) := by decide +kernel
theorem dL_law_496 : decode cL_law 496 = .ok (.iconst 0, 1) := by decide +kernel
theorem dL_law_497 : decode cL_law 497 = .ok (.ireturn, 1) := by decide +kernel
theorem dL_law_498 : decode cL_law 498 = .ok (.aload_n 1, 1) := by decide +kernel
theorem dL_law_499 : decode cL_law 499 = .ok (.aload_n 0, 1) := by decide +kernel
theorem dL_law_500 : decode cL_law 500 = .ok (.iload_n 3, 1) := by decide +kernel
theorem dL_law_501 : decode cL_law 501 = .ok (.iconst 1, 1) := by decide +kernel
theorem dL_law_502 : decode cL_law 502 = .ok (.iadd, 1) := by decide +kernel
theorem dL_law_503 : decode cL_law 503 = .ok (.iaload, 1) := by decide +kernel
theorem dL_law_504 : decode cL_law 504 = .ok (.aload_n 0, 1) := by decide +kernel
theorem dL_law_505 : decode cL_law 505 = .ok (.iload_n 3, 1) := by decide +kernel
theorem dL_law_506 : decode cL_law 506 = .ok (.iconst 2, 1) := by decide +kernel
theorem dL_law_507 : decode cL_law 507 = .ok (.iadd, 1) := by decide +kernel
theorem dL_law_508 : decode cL_law 508 = .ok (.iaload, 1) := by decide +kernel
theorem dL_law_509 : decode cL_law 509 = .ok (.aload_n 0, 1) := by decide +kernel
theorem dL_law_510 : decode cL_law 510 = .ok (.iload_n 3, 1) := by decide +kernel
theorem dL_law_511 : decode cL_law 511 = .ok (.iconst 3, 1) := by decide +kernel
theorem dL_law_512 : decode cL_law 512 = .ok (.iadd, 1) := by decide +kernel
theorem dL_law_513 : decode cL_law 513 = .ok (.iaload, 1) := by decide +kernel
theorem dL_law_514 : decode cL_law 514 = .ok (.aload_n 0, 1) := by decide +kernel
theorem dL_law_515 : decode cL_law 515 = .ok (.iload_n 3, 1) := by decide +kernel
theorem dL_law_516 : decode cL_law 516 = .ok (.iconst 4, 1) := by decide +kernel
theorem dL_law_517 : decode cL_law 517 = .ok (.iadd, 1) := by decide +kernel
theorem dL_law_518 : decode cL_law 518 = .ok (.iaload, 1) := by decide +kernel
theorem dL_law_519 : decode cL_law 519 = .ok (.invokevirtual 67, 3) := by decide +kernel
theorem dL_law_522 : decode cL_law 522 = .ok (.aload_n 2, 1) := by decide +kernel
theorem dL_law_523 : decode cL_law 523 = .ok (.aload_n 0, 1) := by decide +kernel
theorem dL_law_524 : decode cL_law 524 = .ok (.iload_n 3, 1) := by decide +kernel
theorem dL_law_525 : decode cL_law 525 = .ok (.iconst 1, 1) := by decide +kernel
theorem dL_law_526 : decode cL_law 526 = .ok (.iadd, 1) := by decide +kernel
theorem dL_law_527 : decode cL_law 527 = .ok (.iaload, 1) := by decide +kernel
theorem dL_law_528 : decode cL_law 528 = .ok (.aload_n 0, 1) := by decide +kernel
theorem dL_law_529 : decode cL_law 529 = .ok (.iload_n 3, 1) := by decide +kernel
theorem dL_law_530 : decode cL_law 530 = .ok (.iconst 2, 1) := by decide +kernel
theorem dL_law_531 : decode cL_law 531 = .ok (.iadd, 1) := by decide +kernel
theorem dL_law_532 : decode cL_law 532 = .ok (.iaload, 1) := by decide +kernel
theorem dL_law_533 : decode cL_law 533 = .ok (.aload_n 0, 1) := by decide +kernel
theorem dL_law_534 : decode cL_law 534 = .ok (.iload_n 3, 1) := by decide +kernel
theorem dL_law_535 : decode cL_law 535 = .ok (.iconst 3, 1) := by decide +kernel
theorem dL_law_536 : decode cL_law 536 = .ok (.iadd, 1) := by decide +kernel
theorem dL_law_537 : decode cL_law 537 = .ok (.iaload, 1) := by decide +kernel
theorem dL_law_538 : decode cL_law 538 = .ok (.aload_n 0, 1) := by decide +kernel
theorem dL_law_539 : decode cL_law 539 = .ok (.iload_n 3, 1) := by decide +kernel
theorem dL_law_540 : decode cL_law 540 = .ok (.iconst 4, 1) := by decide +kernel
theorem dL_law_541 : decode cL_law 541 = .ok (.iadd, 1) := by decide +kernel
theorem dL_law_542 : decode cL_law 542 = .ok (.iaload, 1) := by decide +kernel
theorem dL_law_543 : decode cL_law 543 = .ok (.invokevirtual 71, 3) := by decide +kernel
theorem dL_law_546 : decode cL_law 546 = .ok (.if_icmp .eq 374, 3) := by decide +kernel
theorem dL_law_549 : decode cL_law 549 = .ok (.iconst 0, 1) := by decide +kernel
theorem dL_law_550 : decode cL_law 550 = .ok (.ireturn, 1) := by decide +kernel
theorem dL_law_551 : decode cL_law 551 = .ok (.aload_n 1, 1) := by decide +kernel
theorem dL_law_552 : decode cL_law 552 = .ok (.aload_n 0, 1) := by decide +kernel
theorem dL_law_553 : decode cL_law 553 = .ok (.iload_n 3, 1) := by decide +kernel
theorem dL_law_554 : decode cL_law 554 = .ok (.iconst 1, 1) := by decide +kernel
theorem dL_law_555 : decode cL_law 555 = .ok (.iadd, 1) := by decide +kernel
theorem dL_law_556 : decode cL_law 556 = .ok (.iaload, 1) := by decide +kernel
theorem dL_law_557 : decode cL_law 557 = .ok (.aload_n 0, 1) := by decide +kernel
theorem dL_law_558 : decode cL_law 558 = .ok (.iload_n 3, 1) := by decide +kernel
theorem dL_law_559 : decode cL_law 559 = .ok (.iconst 2, 1) := by decide +kernel
theorem dL_law_560 : decode cL_law 560 = .ok (.iadd, 1) := by decide +kernel
theorem dL_law_561 : decode cL_law 561 = .ok (.iaload, 1) := by decide +kernel
theorem dL_law_562 : decode cL_law 562 = .ok (.invokevirtual 72, 3) := by decide +kernel
theorem dL_law_565 : decode cL_law 565 = .ok (.aload_n 2, 1) := by decide +kernel
theorem dL_law_566 : decode cL_law 566 = .ok (.aload_n 0, 1) := by decide +kernel
theorem dL_law_567 : decode cL_law 567 = .ok (.iload_n 3, 1) := by decide +kernel
theorem dL_law_568 : decode cL_law 568 = .ok (.iconst 1, 1) := by decide +kernel
theorem dL_law_569 : decode cL_law 569 = .ok (.iadd, 1) := by decide +kernel
theorem dL_law_570 : decode cL_law 570 = .ok (.iaload, 1) := by decide +kernel
theorem dL_law_571 : decode cL_law 571 = .ok (.aload_n 0, 1) := by decide +kernel
theorem dL_law_572 : decode cL_law 572 = .ok (.iload_n 3, 1) := by decide +kernel
theorem dL_law_573 : decode cL_law 573 = .ok (.iconst 2, 1) := by decide +kernel
theorem dL_law_574 : decode cL_law 574 = .ok (.iadd, 1) := by decide +kernel
theorem dL_law_575 : decode cL_law 575 = .ok (.iaload, 1) := by decide +kernel
theorem dL_law_576 : decode cL_law 576 = .ok (.invokevirtual 75, 3) := by decide +kernel
theorem dL_law_579 : decode cL_law 579 = .ok (.if_icmp .eq 341, 3) := by decide +kernel
theorem dL_law_582 : decode cL_law 582 = .ok (.iconst 0, 1) := by decide +kernel
theorem dL_law_583 : decode cL_law 583 = .ok (.ireturn, 1) := by decide +kernel
theorem dL_law_584 : decode cL_law 584 = .ok (.aload_n 1, 1) := by decide +kernel
theorem dL_law_585 : decode cL_law 585 = .ok (.aload_n 0, 1) := by decide +kernel
theorem dL_law_586 : decode cL_law 586 = .ok (.iload_n 3, 1) := by decide +kernel
theorem dL_law_587 : decode cL_law 587 = .ok (.iconst 1, 1) := by decide +kernel
theorem dL_law_588 : decode cL_law 588 = .ok (.iadd, 1) := by decide +kernel
theorem dL_law_589 : decode cL_law 589 = .ok (.iaload, 1) := by decide +kernel
theorem dL_law_590 : decode cL_law 590 = .ok (.invokevirtual 76, 3) := by decide +kernel
theorem dL_law_593 : decode cL_law 593 = .ok (.aload_n 2, 1) := by decide +kernel
theorem dL_law_594 : decode cL_law 594 = .ok (.aload_n 0, 1) := by decide +kernel
theorem dL_law_595 : decode cL_law 595 = .ok (.iload_n 3, 1) := by decide +kernel
theorem dL_law_596 : decode cL_law 596 = .ok (.iconst 1, 1) := by decide +kernel
theorem dL_law_597 : decode cL_law 597 = .ok (.iadd, 1) := by decide +kernel
theorem dL_law_598 : decode cL_law 598 = .ok (.iaload, 1) := by decide +kernel
theorem dL_law_599 : decode cL_law 599 = .ok (.invokevirtual 79, 3) := by decide +kernel
theorem dL_law_602 : decode cL_law 602 = .ok (.if_icmp .eq 318, 3) := by decide +kernel
theorem dL_law_605 : decode cL_law 605 = .ok (.iconst 0, 1) := by decide +kernel
theorem dL_law_606 : decode cL_law 606 = .ok (.ireturn, 1) := by decide +kernel
theorem dL_law_607 : decode cL_law 607 = .ok (.aload_n 1, 1) := by decide +kernel
theorem dL_law_608 : decode cL_law 608 = .ok (.aload_n 0, 1) := by decide +kernel
theorem dL_law_609 : decode cL_law 609 = .ok (.iload_n 3, 1) := by decide +kernel
theorem dL_law_610 : decode cL_law 610 = .ok (.iconst 1, 1) := by decide +kernel
theorem dL_law_611 : decode cL_law 611 = .ok (.iadd, 1) := by decide +kernel
theorem dL_law_612 : decode cL_law 612 = .ok (.iaload, 1) := by decide +kernel
theorem dL_law_613 : decode cL_law 613 = .ok (.invokevirtual 80, 3) := by decide +kernel
theorem dL_law_616 : decode cL_law 616 = .ok (.aload_n 2, 1) := by decide +kernel
theorem dL_law_617 : decode cL_law 617 = .ok (.aload_n 0, 1) := by decide +kernel
theorem dL_law_618 : decode cL_law 618 = .ok (.iload_n 3, 1) := by decide +kernel
theorem dL_law_619 : decode cL_law 619 = .ok (.iconst 1, 1) := by decide +kernel
theorem dL_law_620 : decode cL_law 620 = .ok (.iadd, 1) := by decide +kernel
theorem dL_law_621 : decode cL_law 621 = .ok (.iaload, 1) := by decide +kernel
theorem dL_law_622 : decode cL_law 622 = .ok (.invokevirtual 83, 3) := by decide +kernel
theorem dL_law_625 : decode cL_law 625 = .ok (.if_icmp .eq 295, 3) := by decide +kernel
theorem dL_law_628 : decode cL_law 628 = .ok (.iconst 0, 1) := by decide +kernel
theorem dL_law_629 : decode cL_law 629 = .ok (.ireturn, 1) := by decide +kernel
theorem dL_law_630 : decode cL_law 630 = .ok (.aload_n 1, 1) := by decide +kernel
theorem dL_law_631 : decode cL_law 631 = .ok (.aload_n 0, 1) := by decide +kernel
theorem dL_law_632 : decode cL_law 632 = .ok (.iload_n 3, 1) := by decide +kernel
theorem dL_law_633 : decode cL_law 633 = .ok (.iconst 1, 1) := by decide +kernel
theorem dL_law_634 : decode cL_law 634 = .ok (.iadd, 1) := by decide +kernel
theorem dL_law_635 : decode cL_law 635 = .ok (.iaload, 1) := by decide +kernel
theorem dL_law_636 : decode cL_law 636 = .ok (.aload_n 0, 1) := by decide +kernel
theorem dL_law_637 : decode cL_law 637 = .ok (.iload_n 3, 1) := by decide +kernel
theorem dL_law_638 : decode cL_law 638 = .ok (.iconst 2, 1) := by decide +kernel
theorem dL_law_639 : decode cL_law 639 = .ok (.iadd, 1) := by decide +kernel
theorem dL_law_640 : decode cL_law 640 = .ok (.iaload, 1) := by decide +kernel
theorem dL_law_641 : decode cL_law 641 = .ok (.aload_n 0, 1) := by decide +kernel
theorem dL_law_642 : decode cL_law 642 = .ok (.iload_n 3, 1) := by decide +kernel
theorem dL_law_643 : decode cL_law 643 = .ok (.iconst 3, 1) := by decide +kernel
theorem dL_law_644 : decode cL_law 644 = .ok (.iadd, 1) := by decide +kernel
theorem dL_law_645 : decode cL_law 645 = .ok (.iaload, 1) := by decide +kernel
theorem dL_law_646 : decode cL_law 646 = .ok (.invokevirtual 84, 3) := by decide +kernel
theorem dL_law_649 : decode cL_law 649 = .ok (.aload_n 2, 1) := by decide +kernel
theorem dL_law_650 : decode cL_law 650 = .ok (.aload_n 0, 1) := by decide +kernel
theorem dL_law_651 : decode cL_law 651 = .ok (.iload_n 3, 1) := by decide +kernel
theorem dL_law_652 : decode cL_law 652 = .ok (.iconst 1, 1) := by decide +kernel
theorem dL_law_653 : decode cL_law 653 = .ok (.iadd, 1) := by decide +kernel
theorem dL_law_654 : decode cL_law 654 = .ok (.iaload, 1) := by decide +kernel
theorem dL_law_655 : decode cL_law 655 = .ok (.aload_n 0, 1) := by decide +kernel
theorem dL_law_656 : decode cL_law 656 = .ok (.iload_n 3, 1) := by decide +kernel
theorem dL_law_657 : decode cL_law 657 = .ok (.iconst 2, 1) := by decide +kernel
theorem dL_law_658 : decode cL_law 658 = .ok (.iadd, 1) := by decide +kernel
theorem dL_law_659 : decode cL_law 659 = .ok (.iaload, 1) := by decide +kernel
theorem dL_law_660 : decode cL_law 660 = .ok (.aload_n 0, 1) := by decide +kernel
theorem dL_law_661 : decode cL_law 661 = .ok (.iload_n 3, 1) := by decide +kernel
theorem dL_law_662 : decode cL_law 662 = .ok (.iconst 3, 1) := by decide +kernel
theorem dL_law_663 : decode cL_law 663 = .ok (.iadd, 1) := by decide +kernel
theorem dL_law_664 : decode cL_law 664 = .ok (.iaload, 1) := by decide +kernel
theorem dL_law_665 : decode cL_law 665 = .ok (.invokevirtual 87, 3) := by decide +kernel
theorem dL_law_668 : decode cL_law 668 = .ok (.if_icmp .eq 252, 3) := by decide +kernel
theorem dL_law_671 : decode cL_law 671 = .ok (.iconst 0, 1) := by decide +kernel
theorem dL_law_672 : decode cL_law 672 = .ok (.ireturn, 1) := by decide +kernel
theorem dL_law_673 : decode cL_law 673 = .ok (.aload_n 1, 1) := by decide +kernel
theorem dL_law_674 : decode cL_law 674 = .ok (.aload_n 0, 1) := by decide +kernel
theorem dL_law_675 : decode cL_law 675 = .ok (.iload_n 3, 1) := by decide +kernel
theorem dL_law_676 : decode cL_law 676 = .ok (.iconst 1, 1) := by decide +kernel
theorem dL_law_677 : decode cL_law 677 = .ok (.iadd, 1) := by decide +kernel
theorem dL_law_678 : decode cL_law 678 = .ok (.iaload, 1) := by decide +kernel
theorem dL_law_679 : decode cL_law 679 = .ok (.aload_n 0, 1) := by decide +kernel
theorem dL_law_680 : decode cL_law 680 = .ok (.iload_n 3, 1) := by decide +kernel
theorem dL_law_681 : decode cL_law 681 = .ok (.iconst 2, 1) := by decide +kernel
theorem dL_law_682 : decode cL_law 682 = .ok (.iadd, 1) := by decide +kernel
theorem dL_law_683 : decode cL_law 683 = .ok (.iaload, 1) := by decide +kernel
theorem dL_law_684 : decode cL_law 684 = .ok (.invokevirtual 88, 3) := by decide +kernel
theorem dL_law_687 : decode cL_law 687 = .ok (.aload_n 2, 1) := by decide +kernel
theorem dL_law_688 : decode cL_law 688 = .ok (.aload_n 0, 1) := by decide +kernel
theorem dL_law_689 : decode cL_law 689 = .ok (.iload_n 3, 1) := by decide +kernel
theorem dL_law_690 : decode cL_law 690 = .ok (.iconst 1, 1) := by decide +kernel
theorem dL_law_691 : decode cL_law 691 = .ok (.iadd, 1) := by decide +kernel
theorem dL_law_692 : decode cL_law 692 = .ok (.iaload, 1) := by decide +kernel
theorem dL_law_693 : decode cL_law 693 = .ok (.aload_n 0, 1) := by decide +kernel
theorem dL_law_694 : decode cL_law 694 = .ok (.iload_n 3, 1) := by decide +kernel
theorem dL_law_695 : decode cL_law 695 = .ok (.iconst 2, 1) := by decide +kernel
theorem dL_law_696 : decode cL_law 696 = .ok (.iadd, 1) := by decide +kernel
theorem dL_law_697 : decode cL_law 697 = .ok (.iaload, 1) := by decide +kernel
theorem dL_law_698 : decode cL_law 698 = .ok (.invokevirtual 92, 3) := by decide +kernel
theorem dL_law_701 : decode cL_law 701 = .ok (.if_icmp .eq 219, 3) := by decide +kernel
theorem dL_law_704 : decode cL_law 704 = .ok (.iconst 0, 1) := by decide +kernel
theorem dL_law_705 : decode cL_law 705 = .ok (.ireturn, 1) := by decide +kernel
theorem dL_law_706 : decode cL_law 706 = .ok (.aload_n 1, 1) := by decide +kernel
theorem dL_law_707 : decode cL_law 707 = .ok (.aload_n 0, 1) := by decide +kernel
theorem dL_law_708 : decode cL_law 708 = .ok (.iload_n 3, 1) := by decide +kernel
theorem dL_law_709 : decode cL_law 709 = .ok (.iconst 1, 1) := by decide +kernel
theorem dL_law_710 : decode cL_law 710 = .ok (.iadd, 1) := by decide +kernel
theorem dL_law_711 : decode cL_law 711 = .ok (.iaload, 1) := by decide +kernel
theorem dL_law_712 : decode cL_law 712 = .ok (.aload_n 0, 1) := by decide +kernel
theorem dL_law_713 : decode cL_law 713 = .ok (.iload_n 3, 1) := by decide +kernel
theorem dL_law_714 : decode cL_law 714 = .ok (.iconst 2, 1) := by decide +kernel
theorem dL_law_715 : decode cL_law 715 = .ok (.iadd, 1) := by decide +kernel
theorem dL_law_716 : decode cL_law 716 = .ok (.iaload, 1) := by decide +kernel
theorem dL_law_717 : decode cL_law 717 = .ok (.aload_n 0, 1) := by decide +kernel
theorem dL_law_718 : decode cL_law 718 = .ok (.iload_n 3, 1) := by decide +kernel
theorem dL_law_719 : decode cL_law 719 = .ok (.iconst 3, 1) := by decide +kernel
theorem dL_law_720 : decode cL_law 720 = .ok (.iadd, 1) := by decide +kernel
theorem dL_law_721 : decode cL_law 721 = .ok (.iaload, 1) := by decide +kernel
theorem dL_law_722 : decode cL_law 722 = .ok (.invokevirtual 93, 3) := by decide +kernel
theorem dL_law_725 : decode cL_law 725 = .ok (.aload_n 2, 1) := by decide +kernel
theorem dL_law_726 : decode cL_law 726 = .ok (.aload_n 0, 1) := by decide +kernel
theorem dL_law_727 : decode cL_law 727 = .ok (.iload_n 3, 1) := by decide +kernel
theorem dL_law_728 : decode cL_law 728 = .ok (.iconst 1, 1) := by decide +kernel
theorem dL_law_729 : decode cL_law 729 = .ok (.iadd, 1) := by decide +kernel
theorem dL_law_730 : decode cL_law 730 = .ok (.iaload, 1) := by decide +kernel
theorem dL_law_731 : decode cL_law 731 = .ok (.aload_n 0, 1) := by decide +kernel
theorem dL_law_732 : decode cL_law 732 = .ok (.iload_n 3, 1) := by decide +kernel
theorem dL_law_733 : decode cL_law 733 = .ok (.iconst 2, 1) := by decide +kernel
theorem dL_law_734 : decode cL_law 734 = .ok (.iadd, 1) := by decide +kernel
theorem dL_law_735 : decode cL_law 735 = .ok (.iaload, 1) := by decide +kernel
theorem dL_law_736 : decode cL_law 736 = .ok (.aload_n 0, 1) := by decide +kernel
theorem dL_law_737 : decode cL_law 737 = .ok (.iload_n 3, 1) := by decide +kernel
theorem dL_law_738 : decode cL_law 738 = .ok (.iconst 3, 1) := by decide +kernel
theorem dL_law_739 : decode cL_law 739 = .ok (.iadd, 1) := by decide +kernel
theorem dL_law_740 : decode cL_law 740 = .ok (.iaload, 1) := by decide +kernel
theorem dL_law_741 : decode cL_law 741 = .ok (.invokevirtual 96, 3) := by decide +kernel
theorem dL_law_744 : decode cL_law 744 = .ok (.if_icmp .eq 176, 3) := by decide +kernel
theorem dL_law_747 : decode cL_law 747 = .ok (.iconst 0, 1) := by decide +kernel
theorem dL_law_748 : decode cL_law 748 = .ok (.ireturn, 1) := by decide +kernel
theorem dL_law_749 : decode cL_law 749 = .ok (.aload_n 1, 1) := by decide +kernel
theorem dL_law_750 : decode cL_law 750 = .ok (.aload_n 0, 1) := by decide +kernel
theorem dL_law_751 : decode cL_law 751 = .ok (.iload_n 3, 1) := by decide +kernel
theorem dL_law_752 : decode cL_law 752 = .ok (.iconst 1, 1) := by decide +kernel
theorem dL_law_753 : decode cL_law 753 = .ok (.iadd, 1) := by decide +kernel
theorem dL_law_754 : decode cL_law 754 = .ok (.iaload, 1) := by decide +kernel
theorem dL_law_755 : decode cL_law 755 = .ok (.aload_n 0, 1) := by decide +kernel
theorem dL_law_756 : decode cL_law 756 = .ok (.iload_n 3, 1) := by decide +kernel
theorem dL_law_757 : decode cL_law 757 = .ok (.iconst 2, 1) := by decide +kernel
theorem dL_law_758 : decode cL_law 758 = .ok (.iadd, 1) := by decide +kernel
theorem dL_law_759 : decode cL_law 759 = .ok (.iaload, 1) := by decide +kernel
theorem dL_law_760 : decode cL_law 760 = .ok (.aload_n 0, 1) := by decide +kernel
theorem dL_law_761 : decode cL_law 761 = .ok (.iload_n 3, 1) := by decide +kernel
theorem dL_law_762 : decode cL_law 762 = .ok (.iconst 3, 1) := by decide +kernel
theorem dL_law_763 : decode cL_law 763 = .ok (.iadd, 1) := by decide +kernel
theorem dL_law_764 : decode cL_law 764 = .ok (.iaload, 1) := by decide +kernel
theorem dL_law_765 : decode cL_law 765 = .ok (.invokevirtual 97, 3) := by decide +kernel
theorem dL_law_768 : decode cL_law 768 = .ok (.aload_n 2, 1) := by decide +kernel
theorem dL_law_769 : decode cL_law 769 = .ok (.aload_n 0, 1) := by decide +kernel
theorem dL_law_770 : decode cL_law 770 = .ok (.iload_n 3, 1) := by decide +kernel
theorem dL_law_771 : decode cL_law 771 = .ok (.iconst 1, 1) := by decide +kernel
theorem dL_law_772 : decode cL_law 772 = .ok (.iadd, 1) := by decide +kernel
theorem dL_law_773 : decode cL_law 773 = .ok (.iaload, 1) := by decide +kernel
theorem dL_law_774 : decode cL_law 774 = .ok (.aload_n 0, 1) := by decide +kernel
theorem dL_law_775 : decode cL_law 775 = .ok (.iload_n 3, 1) := by decide +kernel
theorem dL_law_776 : decode cL_law 776 = .ok (.iconst 2, 1) := by decide +kernel
theorem dL_law_777 : decode cL_law 777 = .ok (.iadd, 1) := by decide +kernel
theorem dL_law_778 : decode cL_law 778 = .ok (.iaload, 1) := by decide +kernel
theorem dL_law_779 : decode cL_law 779 = .ok (.aload_n 0, 1) := by decide +kernel
theorem dL_law_780 : decode cL_law 780 = .ok (.iload_n 3, 1) := by decide +kernel
theorem dL_law_781 : decode cL_law 781 = .ok (.iconst 3, 1) := by decide +kernel
theorem dL_law_782 : decode cL_law 782 = .ok (.iadd, 1) := by decide +kernel
theorem dL_law_783 : decode cL_law 783 = .ok (.iaload, 1) := by decide +kernel
theorem dL_law_784 : decode cL_law 784 = .ok (.invokevirtual 100, 3) := by decide +kernel
theorem dL_law_787 : decode cL_law 787 = .ok (.if_icmp .eq 133, 3) := by decide +kernel
theorem dL_law_790 : decode cL_law 790 = .ok (.iconst 0, 1) := by decide +kernel
theorem dL_law_791 : decode cL_law 791 = .ok (.ireturn, 1) := by decide +kernel
theorem dL_law_792 : decode cL_law 792 = .ok (.aload_n 1, 1) := by decide +kernel
theorem dL_law_793 : decode cL_law 793 = .ok (.aload_n 0, 1) := by decide +kernel
theorem dL_law_794 : decode cL_law 794 = .ok (.iload_n 3, 1) := by decide +kernel
theorem dL_law_795 : decode cL_law 795 = .ok (.iconst 1, 1) := by decide +kernel
theorem dL_law_796 : decode cL_law 796 = .ok (.iadd, 1) := by decide +kernel
theorem dL_law_797 : decode cL_law 797 = .ok (.iaload, 1) := by decide +kernel
theorem dL_law_798 : decode cL_law 798 = .ok (.invokevirtual 101, 3) := by decide +kernel
theorem dL_law_801 : decode cL_law 801 = .ok (.aload_n 2, 1) := by decide +kernel
theorem dL_law_802 : decode cL_law 802 = .ok (.aload_n 0, 1) := by decide +kernel
theorem dL_law_803 : decode cL_law 803 = .ok (.iload_n 3, 1) := by decide +kernel
theorem dL_law_804 : decode cL_law 804 = .ok (.iconst 1, 1) := by decide +kernel
theorem dL_law_805 : decode cL_law 805 = .ok (.iadd, 1) := by decide +kernel
theorem dL_law_806 : decode cL_law 806 = .ok (.iaload, 1) := by decide +kernel
theorem dL_law_807 : decode cL_law 807 = .ok (.invokevirtual 104, 3) := by decide +kernel
theorem dL_law_810 : decode cL_law 810 = .ok (.if_icmp .eq 110, 3) := by decide +kernel
theorem dL_law_813 : decode cL_law 813 = .ok (.iconst 0, 1) := by decide +kernel
theorem dL_law_814 : decode cL_law 814 = .ok (.ireturn, 1) := by decide +kernel
theorem dL_law_815 : decode cL_law 815 = .ok (.aload_n 1, 1) := by decide +kernel
theorem dL_law_816 : decode cL_law 816 = .ok (.invokevirtual 105, 3) := by decide +kernel
theorem dL_law_819 : decode cL_law 819 = .ok (.aload_n 2, 1) := by decide +kernel
theorem dL_law_820 : decode cL_law 820 = .ok (.invokevirtual 108, 3) := by decide +kernel
theorem dL_law_823 : decode cL_law 823 = .ok (.if_icmp .eq 97, 3) := by decide +kernel
theorem dL_law_826 : decode cL_law 826 = .ok (.iconst 0, 1) := by decide +kernel
theorem dL_law_827 : decode cL_law 827 = .ok (.ireturn, 1) := by decide +kernel
theorem dL_law_828 : decode cL_law 828 = .ok (.aload_n 1, 1) := by decide +kernel
theorem dL_law_829 : decode cL_law 829 = .ok (.aload_n 0, 1) := by decide +kernel
theorem dL_law_830 : decode cL_law 830 = .ok (.iload_n 3, 1) := by decide +kernel
theorem dL_law_831 : decode cL_law 831 = .ok (.iconst 1, 1) := by decide +kernel
theorem dL_law_832 : decode cL_law 832 = .ok (.iadd, 1) := by decide +kernel
theorem dL_law_833 : decode cL_law 833 = .ok (.iaload, 1) := by decide +kernel
theorem dL_law_834 : decode cL_law 834 = .ok (.invokevirtual 109, 3) := by decide +kernel
theorem dL_law_837 : decode cL_law 837 = .ok (.aload_n 2, 1) := by decide +kernel
theorem dL_law_838 : decode cL_law 838 = .ok (.aload_n 0, 1) := by decide +kernel
theorem dL_law_839 : decode cL_law 839 = .ok (.iload_n 3, 1) := by decide +kernel
theorem dL_law_840 : decode cL_law 840 = .ok (.iconst 1, 1) := by decide +kernel
theorem dL_law_841 : decode cL_law 841 = .ok (.iadd, 1) := by decide +kernel
theorem dL_law_842 : decode cL_law 842 = .ok (.iaload, 1) := by decide +kernel
theorem dL_law_843 : decode cL_law 843 = .ok (.invokevirtual 112, 3) := by decide +kernel
theorem dL_law_846 : decode cL_law 846 = .ok (.if_icmp .eq 74, 3) := by decide +kernel
theorem dL_law_849 : decode cL_law 849 = .ok (.iconst 0, 1) := by decide +kernel
theorem dL_law_850 : decode cL_law 850 = .ok (.ireturn, 1) := by decide +kernel
theorem dL_law_851 : decode cL_law 851 = .ok (.aload_n 1, 1) := by decide +kernel
theorem dL_law_852 : decode cL_law 852 = .ok (.aload_n 0, 1) := by decide +kernel
theorem dL_law_853 : decode cL_law 853 = .ok (.iload_n 3, 1) := by decide +kernel
theorem dL_law_854 : decode cL_law 854 = .ok (.iconst 1, 1) := by decide +kernel
theorem dL_law_855 : decode cL_law 855 = .ok (.iadd, 1) := by decide +kernel
theorem dL_law_856 : decode cL_law 856 = .ok (.iaload, 1) := by decide +kernel
theorem dL_law_857 : decode cL_law 857 = .ok (.aload_n 0, 1) := by decide +kernel
theorem dL_law_858 : decode cL_law 858 = .ok (.iload_n 3, 1) := by decide +kernel
theorem dL_law_859 : decode cL_law 859 = .ok (.iconst 2, 1) := by decide +kernel
theorem dL_law_860 : decode cL_law 860 = .ok (.iadd, 1) := by decide +kernel
theorem dL_law_861 : decode cL_law 861 = .ok (.iaload, 1) := by decide +kernel
theorem dL_law_862 : decode cL_law 862 = .ok (.invokevirtual 113, 3) := by decide +kernel
theorem dL_law_865 : decode cL_law 865 = .ok (.aload_n 2, 1) := by decide +kernel
theorem dL_law_866 : decode cL_law 866 = .ok (.aload_n 0, 1) := by decide +kernel
theorem dL_law_867 : decode cL_law 867 = .ok (.iload_n 3, 1) := by decide +kernel
theorem dL_law_868 : decode cL_law 868 = .ok (.iconst 1, 1) := by decide +kernel
theorem dL_law_869 : decode cL_law 869 = .ok (.iadd, 1) := by decide +kernel
theorem dL_law_870 : decode cL_law 870 = .ok (.iaload, 1) := by decide +kernel
theorem dL_law_871 : decode cL_law 871 = .ok (.aload_n 0, 1) := by decide +kernel
theorem dL_law_872 : decode cL_law 872 = .ok (.iload_n 3, 1) := by decide +kernel
theorem dL_law_873 : decode cL_law 873 = .ok (.iconst 2, 1) := by decide +kernel
theorem dL_law_874 : decode cL_law 874 = .ok (.iadd, 1) := by decide +kernel
theorem dL_law_875 : decode cL_law 875 = .ok (.iaload, 1) := by decide +kernel
theorem dL_law_876 : decode cL_law 876 = .ok (.invokevirtual 116, 3) := by decide +kernel
theorem dL_law_879 : decode cL_law 879 = .ok (.if_icmp .eq 41, 3) := by decide +kernel
theorem dL_law_882 : decode cL_law 882 = .ok (.iconst 0, 1) := by decide +kernel
theorem dL_law_883 : decode cL_law 883 = .ok (.ireturn, 1) := by decide +kernel
theorem dL_law_884 : decode cL_law 884 = .ok (.aload_n 1, 1) := by decide +kernel
theorem dL_law_885 : decode cL_law 885 = .ok (.aload_n 0, 1) := by decide +kernel
theorem dL_law_886 : decode cL_law 886 = .ok (.iload_n 3, 1) := by decide +kernel
theorem dL_law_887 : decode cL_law 887 = .ok (.iconst 1, 1) := by decide +kernel
theorem dL_law_888 : decode cL_law 888 = .ok (.iadd, 1) := by decide +kernel
theorem dL_law_889 : decode cL_law 889 = .ok (.iaload, 1) := by decide +kernel
theorem dL_law_890 : decode cL_law 890 = .ok (.invokevirtual 117, 3) := by decide +kernel
theorem dL_law_893 : decode cL_law 893 = .ok (.aload_n 2, 1) := by decide +kernel
theorem dL_law_894 : decode cL_law 894 = .ok (.aload_n 0, 1) := by decide +kernel
theorem dL_law_895 : decode cL_law 895 = .ok (.iload_n 3, 1) := by decide +kernel
theorem dL_law_896 : decode cL_law 896 = .ok (.iconst 1, 1) := by decide +kernel
theorem dL_law_897 : decode cL_law 897 = .ok (.iadd, 1) := by decide +kernel
theorem dL_law_898 : decode cL_law 898 = .ok (.iaload, 1) := by decide +kernel
theorem dL_law_899 : decode cL_law 899 = .ok (.invokevirtual 120, 3) := by decide +kernel
theorem dL_law_902 : decode cL_law 902 = .ok (.if_icmp .eq 18, 3) := by decide +kernel
theorem dL_law_905 : decode cL_law 905 = .ok (.iconst 0, 1) := by decide +kernel
theorem dL_law_906 : decode cL_law 906 = .ok (.ireturn, 1) := by decide +kernel
theorem dL_law_907 : decode cL_law 907 = .ok (.aload_n 1, 1) := by decide +kernel
theorem dL_law_908 : decode cL_law 908 = .ok (.invokevirtual 121, 3) := by decide +kernel
theorem dL_law_911 : decode cL_law 911 = .ok (.aload_n 2, 1) := by decide +kernel
theorem dL_law_912 : decode cL_law 912 = .ok (.invokevirtual 124, 3) := by decide +kernel
theorem dL_law_915 : decode cL_law 915 = .ok (.if_icmp .eq 5, 3) := by decide +kernel
theorem dL_law_918 : decode cL_law 918 = .ok (.iconst 0, 1) := by decide +kernel
theorem dL_law_919 : decode cL_law 919 = .ok (.ireturn, 1) := by decide +kernel
theorem dL_law_920 : decode cL_law 920 = .ok (.iinc 3 6, 3) := by decide +kernel
theorem dL_law_923 : decode cL_law 923 = .ok (.goto (-905), 3) := by decide +kernel
theorem dL_law_926 : decode cL_law 926 = .ok (.iconst 1, 1) := by decide +kernel
theorem dL_law_927 : decode cL_law 927 = .ok (.ireturn, 1) := by decide +kernel
def f_L_law_18 (N : Nat) (nS : Nat) (xS : Nat → Int32) : Nat → Option Nat → Option Nat → Int32 → zH → Option (Int32 × zH)
  | 0, _, _, _, _ => none
  | n + 1, l1, l2, l3, h => if ((nI nS) - (6 : Int32)) < l3 then some ((1 : Int32), h) else (zsc nS xS l3).bind fun x1 => if (x1 &&& (31 : Int32)) = (0 : Int32) then (zsc nS xS (l3 + (1 : Int32))).bind fun x2 => (zsc nS xS (l3 + (2 : Int32))).bind fun x3 => (zsc nS xS (l3 + (3 : Int32))).bind fun x4 => (zsc nS xS (l3 + (4 : Int32))).bind fun x5 => (zsc nS xS (l3 + (5 : Int32))).bind fun x6 => (zck h 11 l1).bind fun q1 => zb2 (f_X11_feed N q1 x2 x3 x4 x5 x6 h) fun x7 h1 => (zsc nS xS (l3 + (1 : Int32))).bind fun x8 => (zsc nS xS (l3 + (2 : Int32))).bind fun x9 => (zsc nS xS (l3 + (3 : Int32))).bind fun x10 => (zsc nS xS (l3 + (4 : Int32))).bind fun x11 => (zsc nS xS (l3 + (5 : Int32))).bind fun x12 => (zck h1 12 l2).bind fun q2 => zb2 (f_X12_feed N q2 x8 x9 x10 x11 x12 h1) fun x13 h2 => if x7 = x13 then f_L_law_18 N nS xS n l1 l2 (l3 + (6 : Int32)) h2 else some ((0 : Int32), h2) else if (x1 &&& (31 : Int32)) = (1 : Int32) then (zsc nS xS (l3 + (1 : Int32))).bind fun x14 => (zck h 11 l1).bind fun q3 => zb2 (f_X11_end N q3 x14 h) fun x15 h3 => (zsc nS xS (l3 + (1 : Int32))).bind fun x16 => (zck h3 12 l2).bind fun q4 => zb2 (f_X12_end N q4 x16 h3) fun x17 h4 => if x15 = x17 then f_L_law_18 N nS xS n l1 l2 (l3 + (6 : Int32)) h4 else some ((0 : Int32), h4) else if (x1 &&& (31 : Int32)) = (2 : Int32) then (zck h 11 l1).bind fun q5 => zb2 (f_X11_round N q5 h) fun x18 h5 => (zck h5 12 l2).bind fun q6 => zb2 (f_X12_round N q6 h5) fun x19 h6 => if x18 = x19 then f_L_law_18 N nS xS n l1 l2 (l3 + (6 : Int32)) h6 else some ((0 : Int32), h6) else if (x1 &&& (31 : Int32)) = (3 : Int32) then (zsc nS xS (l3 + (1 : Int32))).bind fun x20 => (zck h 11 l1).bind fun q7 => (f_X11_fault N q7 x20 h).bind fun x21 => (zsc nS xS (l3 + (1 : Int32))).bind fun x22 => (zck h 12 l2).bind fun q8 => (f_X12_fault N q8 x22 h).bind fun x23 => if x21 = x23 then f_L_law_18 N nS xS n l1 l2 (l3 + (6 : Int32)) h else some ((0 : Int32), h) else if (x1 &&& (31 : Int32)) = (4 : Int32) then (zsc nS xS (l3 + (1 : Int32))).bind fun x24 => (zck h 11 l1).bind fun q9 => (f_X11_of N q9 x24 h).bind fun x25 => (zsc nS xS (l3 + (1 : Int32))).bind fun x26 => (zck h 12 l2).bind fun q10 => (f_X12_of N q10 x26 h).bind fun x27 => if x25 = x27 then f_L_law_18 N nS xS n l1 l2 (l3 + (6 : Int32)) h else some ((0 : Int32), h) else if (x1 &&& (31 : Int32)) = (5 : Int32) then (zsc nS xS (l3 + (1 : Int32))).bind fun x28 => (zck h 11 l1).bind fun q11 => zb2 (f_X11_archer N q11 x28 h) fun x29 h7 => (zsc nS xS (l3 + (1 : Int32))).bind fun x30 => (zck h7 12 l2).bind fun q12 => zb2 (f_X12_archer N q12 x30 h7) fun x31 h8 => if x29 = x31 then f_L_law_18 N nS xS n l1 l2 (l3 + (6 : Int32)) h8 else some ((0 : Int32), h8) else if (x1 &&& (31 : Int32)) = (6 : Int32) then (zsc nS xS (l3 + (1 : Int32))).bind fun x32 => (zck h 11 l1).bind fun q13 => zb2 (f_X11_leave N q13 x32 h) fun x33 h9 => (zsc nS xS (l3 + (1 : Int32))).bind fun x34 => (zck h9 12 l2).bind fun q14 => zb2 (f_X12_leave N q14 x34 h9) fun x35 h10 => if x33 = x35 then f_L_law_18 N nS xS n l1 l2 (l3 + (6 : Int32)) h10 else some ((0 : Int32), h10) else if (x1 &&& (31 : Int32)) = (7 : Int32) then (zsc nS xS (l3 + (1 : Int32))).bind fun x36 => (zsc nS xS (l3 + (2 : Int32))).bind fun x37 => (zck h 11 l1).bind fun q15 => (f_X11_told N q15 x36 x37 h).bind fun x38 => (zsc nS xS (l3 + (1 : Int32))).bind fun x39 => (zsc nS xS (l3 + (2 : Int32))).bind fun x40 => (zck h 12 l2).bind fun q16 => (f_X12_told N q16 x39 x40 h).bind fun x41 => if x38 = x41 then f_L_law_18 N nS xS n l1 l2 (l3 + (6 : Int32)) h else some ((0 : Int32), h) else if (x1 &&& (31 : Int32)) = (8 : Int32) then (zsc nS xS (l3 + (1 : Int32))).bind fun x42 => (zsc nS xS (l3 + (2 : Int32))).bind fun x43 => (zsc nS xS (l3 + (3 : Int32))).bind fun x44 => (zck h 11 l1).bind fun q17 => zb2 (f_X11_arrow N q17 x42 x43 x44 h) fun x45 h11 => (zsc nS xS (l3 + (1 : Int32))).bind fun x46 => (zsc nS xS (l3 + (2 : Int32))).bind fun x47 => (zsc nS xS (l3 + (3 : Int32))).bind fun x48 => (zck h11 12 l2).bind fun q18 => zb2 (f_X12_arrow N q18 x46 x47 x48 h11) fun x49 h12 => if x45 = x49 then f_L_law_18 N nS xS n l1 l2 (l3 + (6 : Int32)) h12 else some ((0 : Int32), h12) else if (x1 &&& (31 : Int32)) = (9 : Int32) then (zsc nS xS (l3 + (1 : Int32))).bind fun x50 => (zck h 11 l1).bind fun q19 => zb2 (f_X11_shoot N q19 x50 h) fun x51 h13 => (zsc nS xS (l3 + (1 : Int32))).bind fun x52 => (zck h13 12 l2).bind fun q20 => zb2 (f_X12_shoot N q20 x52 h13) fun x53 h14 => if x51 = x53 then f_L_law_18 N nS xS n l1 l2 (l3 + (6 : Int32)) h14 else some ((0 : Int32), h14) else if (x1 &&& (31 : Int32)) = (10 : Int32) then (zsc nS xS (l3 + (1 : Int32))).bind fun x54 => (zsc nS xS (l3 + (2 : Int32))).bind fun x55 => (zck h 11 l1).bind fun q21 => (f_X11_value N q21 x54 x55 h).bind fun x56 => (zsc nS xS (l3 + (1 : Int32))).bind fun x57 => (zsc nS xS (l3 + (2 : Int32))).bind fun x58 => (zck h 12 l2).bind fun q22 => (f_X12_value N q22 x57 x58 h).bind fun x59 => if x56 = x59 then f_L_law_18 N nS xS n l1 l2 (l3 + (6 : Int32)) h else some ((0 : Int32), h) else if (x1 &&& (31 : Int32)) = (11 : Int32) then (zsc nS xS (l3 + (1 : Int32))).bind fun x60 => (zck h 11 l1).bind fun q23 => zb2 (f_X11_take N q23 x60 h) fun x61 h15 => (zsc nS xS (l3 + (1 : Int32))).bind fun x62 => (zck h15 12 l2).bind fun q24 => zb2 (f_X12_take N q24 x62 h15) fun x63 h16 => if x61 = x63 then f_L_law_18 N nS xS n l1 l2 (l3 + (6 : Int32)) h16 else some ((0 : Int32), h16) else if (x1 &&& (31 : Int32)) = (12 : Int32) then (zsc nS xS (l3 + (1 : Int32))).bind fun x64 => (zsc nS xS (l3 + (2 : Int32))).bind fun x65 => (zsc nS xS (l3 + (3 : Int32))).bind fun x66 => (zsc nS xS (l3 + (4 : Int32))).bind fun x67 => (zck h 11 l1).bind fun q25 => zb2 (f_X11_off N q25 x64 x65 x66 x67 h) fun x68 h17 => (zsc nS xS (l3 + (1 : Int32))).bind fun x69 => (zsc nS xS (l3 + (2 : Int32))).bind fun x70 => (zsc nS xS (l3 + (3 : Int32))).bind fun x71 => (zsc nS xS (l3 + (4 : Int32))).bind fun x72 => (zck h17 12 l2).bind fun q26 => zb2 (f_X12_off N q26 x69 x70 x71 x72 h17) fun x73 h18 => if x68 = x73 then f_L_law_18 N nS xS n l1 l2 (l3 + (6 : Int32)) h18 else some ((0 : Int32), h18) else if (x1 &&& (31 : Int32)) = (13 : Int32) then (zsc nS xS (l3 + (1 : Int32))).bind fun x74 => (zsc nS xS (l3 + (2 : Int32))).bind fun x75 => (zck h 11 l1).bind fun q27 => (f_X11_ahead N q27 x74 x75 h).bind fun x76 => (zsc nS xS (l3 + (1 : Int32))).bind fun x77 => (zsc nS xS (l3 + (2 : Int32))).bind fun x78 => (zck h 12 l2).bind fun q28 => (f_X12_ahead N q28 x77 x78 h).bind fun x79 => if x76 = x79 then f_L_law_18 N nS xS n l1 l2 (l3 + (6 : Int32)) h else some ((0 : Int32), h) else if (x1 &&& (31 : Int32)) = (14 : Int32) then (zsc nS xS (l3 + (1 : Int32))).bind fun x80 => (zck h 11 l1).bind fun q29 => (f_X11_rank N q29 x80 h).bind fun x81 => (zsc nS xS (l3 + (1 : Int32))).bind fun x82 => (zck h 12 l2).bind fun q30 => (f_X12_rank N q30 x82 h).bind fun x83 => if x81 = x83 then f_L_law_18 N nS xS n l1 l2 (l3 + (6 : Int32)) h else some ((0 : Int32), h) else if (x1 &&& (31 : Int32)) = (15 : Int32) then (zsc nS xS (l3 + (1 : Int32))).bind fun x84 => (zck h 11 l1).bind fun q31 => zb2 (f_X11_today N q31 x84 h) fun x85 h19 => (zsc nS xS (l3 + (1 : Int32))).bind fun x86 => (zck h19 12 l2).bind fun q32 => zb2 (f_X12_today N q32 x86 h19) fun x87 h20 => if x85 = x87 then f_L_law_18 N nS xS n l1 l2 (l3 + (6 : Int32)) h20 else some ((0 : Int32), h20) else if (x1 &&& (31 : Int32)) = (16 : Int32) then (zsc nS xS (l3 + (1 : Int32))).bind fun x88 => (zsc nS xS (l3 + (2 : Int32))).bind fun x89 => (zsc nS xS (l3 + (3 : Int32))).bind fun x90 => (zck h 11 l1).bind fun q33 => zb2 (f_X11_score N q33 x88 x89 x90 h) fun x91 h21 => (zsc nS xS (l3 + (1 : Int32))).bind fun x92 => (zsc nS xS (l3 + (2 : Int32))).bind fun x93 => (zsc nS xS (l3 + (3 : Int32))).bind fun x94 => (zck h21 12 l2).bind fun q34 => zb2 (f_X12_score N q34 x92 x93 x94 h21) fun x95 h22 => if x91 = x95 then f_L_law_18 N nS xS n l1 l2 (l3 + (6 : Int32)) h22 else some ((0 : Int32), h22) else if (x1 &&& (31 : Int32)) = (17 : Int32) then (zsc nS xS (l3 + (1 : Int32))).bind fun x96 => (zsc nS xS (l3 + (2 : Int32))).bind fun x97 => (zck h 11 l1).bind fun q35 => zb2 (f_X11_strike N q35 x96 x97 h) fun x98 h23 => (zsc nS xS (l3 + (1 : Int32))).bind fun x99 => (zsc nS xS (l3 + (2 : Int32))).bind fun x100 => (zck h23 12 l2).bind fun q36 => zb2 (f_X12_strike N q36 x99 x100 h23) fun x101 h24 => if x98 = x101 then f_L_law_18 N nS xS n l1 l2 (l3 + (6 : Int32)) h24 else some ((0 : Int32), h24) else if (x1 &&& (31 : Int32)) = (18 : Int32) then (zsc nS xS (l3 + (1 : Int32))).bind fun x102 => (zsc nS xS (l3 + (2 : Int32))).bind fun x103 => (zsc nS xS (l3 + (3 : Int32))).bind fun x104 => (zck h 11 l1).bind fun q37 => zb2 (f_X11_law N q37 x102 x103 x104 h) fun x105 h25 => (zsc nS xS (l3 + (1 : Int32))).bind fun x106 => (zsc nS xS (l3 + (2 : Int32))).bind fun x107 => (zsc nS xS (l3 + (3 : Int32))).bind fun x108 => (zck h25 12 l2).bind fun q38 => zb2 (f_X12_law N q38 x106 x107 x108 h25) fun x109 h26 => if x105 = x109 then f_L_law_18 N nS xS n l1 l2 (l3 + (6 : Int32)) h26 else some ((0 : Int32), h26) else if (x1 &&& (31 : Int32)) = (19 : Int32) then (zsc nS xS (l3 + (1 : Int32))).bind fun x110 => (zsc nS xS (l3 + (2 : Int32))).bind fun x111 => (zsc nS xS (l3 + (3 : Int32))).bind fun x112 => (zck h 11 l1).bind fun q39 => (f_X11_kind N q39 x110 x111 x112 h).bind fun x113 => (zsc nS xS (l3 + (1 : Int32))).bind fun x114 => (zsc nS xS (l3 + (2 : Int32))).bind fun x115 => (zsc nS xS (l3 + (3 : Int32))).bind fun x116 => (zck h 12 l2).bind fun q40 => (f_X12_kind N q40 x114 x115 x116 h).bind fun x117 => if x113 = x117 then f_L_law_18 N nS xS n l1 l2 (l3 + (6 : Int32)) h else some ((0 : Int32), h) else if (x1 &&& (31 : Int32)) = (20 : Int32) then (zsc nS xS (l3 + (1 : Int32))).bind fun x118 => (zck h 11 l1).bind fun q41 => zb2 (f_X11_bay N q41 x118 h) fun x119 h27 => (zsc nS xS (l3 + (1 : Int32))).bind fun x120 => (zck h27 12 l2).bind fun q42 => zb2 (f_X12_bay N q42 x120 h27) fun x121 h28 => if x119 = x121 then f_L_law_18 N nS xS n l1 l2 (l3 + (6 : Int32)) h28 else some ((0 : Int32), h28) else if (x1 &&& (31 : Int32)) = (21 : Int32) then (zck h 11 l1).bind fun q43 => zb2 (f_X11_layout N q43 h) fun x122 h29 => (zck h29 12 l2).bind fun q44 => zb2 (f_X12_layout N q44 h29) fun x123 h30 => if x122 = x123 then f_L_law_18 N nS xS n l1 l2 (l3 + (6 : Int32)) h30 else some ((0 : Int32), h30) else if (x1 &&& (31 : Int32)) = (22 : Int32) then (zsc nS xS (l3 + (1 : Int32))).bind fun x124 => (zck h 11 l1).bind fun q45 => (f_X11_on N q45 x124 h).bind fun x125 => (zsc nS xS (l3 + (1 : Int32))).bind fun x126 => (zck h 12 l2).bind fun q46 => (f_X12_on N q46 x126 h).bind fun x127 => if x125 = x127 then f_L_law_18 N nS xS n l1 l2 (l3 + (6 : Int32)) h else some ((0 : Int32), h) else if (x1 &&& (31 : Int32)) = (23 : Int32) then (zsc nS xS (l3 + (1 : Int32))).bind fun x128 => (zsc nS xS (l3 + (2 : Int32))).bind fun x129 => (zck h 11 l1).bind fun q47 => zb2 (f_X11_lane N q47 x128 x129 h) fun x130 h31 => (zsc nS xS (l3 + (1 : Int32))).bind fun x131 => (zsc nS xS (l3 + (2 : Int32))).bind fun x132 => (zck h31 12 l2).bind fun q48 => zb2 (f_X12_lane N q48 x131 x132 h31) fun x133 h32 => if x130 = x133 then f_L_law_18 N nS xS n l1 l2 (l3 + (6 : Int32)) h32 else some ((0 : Int32), h32) else if (x1 &&& (31 : Int32)) = (24 : Int32) then (zsc nS xS (l3 + (1 : Int32))).bind fun x134 => (zck h 11 l1).bind fun q49 => (f_X11_state N q49 x134 h).bind fun x135 => (zsc nS xS (l3 + (1 : Int32))).bind fun x136 => (zck h 12 l2).bind fun q50 => (f_X12_state N q50 x136 h).bind fun x137 => if x135 = x137 then f_L_law_18 N nS xS n l1 l2 (l3 + (6 : Int32)) h else some ((0 : Int32), h) else if (x1 &&& (31 : Int32)) = (25 : Int32) then (zck h 11 l1).bind fun q51 => zb2 (f_X11_undo N q51 h) fun x138 h33 => (zck h33 12 l2).bind fun q52 => zb2 (f_X12_undo N q52 h33) fun x139 h34 => if x138 = x139 then f_L_law_18 N nS xS n l1 l2 (l3 + (6 : Int32)) h34 else some ((0 : Int32), h34) else f_L_law_18 N nS xS n l1 l2 (l3 + (6 : Int32)) h
set_option maxHeartbeats 4000000 in
set_option maxRecDepth 100000 in
theorem s_L_law_18 {g : zG} (hg : g.2.1.map (fun q => q.2) = zty) {h0 : zH} (N : Nat) (nS : Nat) (xS : Nat → Int32) (hS1 : g.2.2.2.2.2.1 = nS) (hS2 : g.2.2.2.2.2.2 = xS) : ∀ (n : Nat) (l1 : Option Nat) (l2 : Option Nat) (l3 : Int32) (h : zH) (r : Int32) (h' : zH), f_L_law_18 N nS xS n l1 l2 l3 h = some (r, h') → zR g jL_law h0 18 [some (zs 8), some (zr l1), some (zr l2), some (zi l3)] [] h (some (zi r)) h' := by
  intro n
  induction n with
  | zero =>
    intro l1 l2 l3 h r h' hf
    cases hf
  | succ n ih =>
    intro l1 l2 l3 h r h' hf
    rw [f_L_law_18] at hf
    refine zr_iload_n (x := l3) dL_law_18 rfl rfl ?_
    refine zr_aload_n (v := .inr 8) dL_law_19 rfl rfl ?_
    refine zq_slen hS1 dL_law_20 ?_
    refine zr_bipush (v := (6 : Int32)) dL_law_21 (by decide) ?_
    refine zr_isub dL_law_23 ?_
    by_cases hc1 : ((nI nS) - (6 : Int32)) < l3
    · rw [if_pos hc1] at hf
      refine zr_icgt_t (tgt := 926) dL_law_24 (by decide) hc1 ?_
      refine zr_iconst (v := (1 : Int32)) dL_law_926 (by decide) ?_
      cases hf
      exact zr_ret _ rfl dL_law_927
    · rw [if_neg hc1] at hf
      refine zr_icgt_f 926 dL_law_24 (by decide) hc1 ?_
      refine zr_aload_n (v := .inr 8) dL_law_27 rfl rfl ?_
      refine zr_iload_n (x := l3) dL_law_28 rfl rfl ?_
      revert hf; refine zbi (fun x1 e_x1 hf => ?_)
      refine zq_sld hS1 hS2 dL_law_29 e_x1 ?_
      refine zr_bipush (v := (31 : Int32)) dL_law_30 (by decide) ?_
      refine zr_iand dL_law_32 ?_
      by_cases hc2 : (x1 &&& (31 : Int32)) = (0 : Int32)
      · rw [if_pos hc2] at hf
        refine zr_tabIn (off := 119) (tgt := 152) dL_law_33 (by rw [hc2]; decide) (by rw [hc2]; rfl) (by decide) ?_
        refine zr_aload_n (v := .inl l1) dL_law_152 rfl rfl ?_
        refine zr_aload_n (v := .inr 8) dL_law_153 rfl rfl ?_
        refine zr_iload_n (x := l3) dL_law_154 rfl rfl ?_
        refine zr_iconst (v := (1 : Int32)) dL_law_155 (by decide) ?_
        refine zr_iadd dL_law_156 ?_
        revert hf; refine zbi (fun x2 e_x2 hf => ?_)
        refine zq_sld hS1 hS2 dL_law_157 e_x2 ?_
        refine zr_aload_n (v := .inr 8) dL_law_158 rfl rfl ?_
        refine zr_iload_n (x := l3) dL_law_159 rfl rfl ?_
        refine zr_iconst (v := (2 : Int32)) dL_law_160 (by decide) ?_
        refine zr_iadd dL_law_161 ?_
        revert hf; refine zbi (fun x3 e_x3 hf => ?_)
        refine zq_sld hS1 hS2 dL_law_162 e_x3 ?_
        refine zr_aload_n (v := .inr 8) dL_law_163 rfl rfl ?_
        refine zr_iload_n (x := l3) dL_law_164 rfl rfl ?_
        refine zr_iconst (v := (3 : Int32)) dL_law_165 (by decide) ?_
        refine zr_iadd dL_law_166 ?_
        revert hf; refine zbi (fun x4 e_x4 hf => ?_)
        refine zq_sld hS1 hS2 dL_law_167 e_x4 ?_
        refine zr_aload_n (v := .inr 8) dL_law_168 rfl rfl ?_
        refine zr_iload_n (x := l3) dL_law_169 rfl rfl ?_
        refine zr_iconst (v := (4 : Int32)) dL_law_170 (by decide) ?_
        refine zr_iadd dL_law_171 ?_
        revert hf; refine zbi (fun x5 e_x5 hf => ?_)
        refine zq_sld hS1 hS2 dL_law_172 e_x5 ?_
        refine zr_aload_n (v := .inr 8) dL_law_173 rfl rfl ?_
        refine zr_iload_n (x := l3) dL_law_174 rfl rfl ?_
        refine zr_iconst (v := (5 : Int32)) dL_law_175 (by decide) ?_
        refine zr_iadd dL_law_176 ?_
        revert hf; refine zbi (fun x6 e_x6 hf => ?_)
        refine zq_sld hS1 hS2 dL_law_177 e_x6 ?_
        revert hf; refine zbi (fun q1 e_q1 hf => ?_)
        revert hf; refine zbi2 (fun x7 h1 e_x7 hf => ?_)
        refine zq_callV (J' := jX11_feed) (as := [zi x2, zi x3, zi x4, zi x5, zi x6]) (rest := []) (r1 := (some (zi x7))) (q := (RX11, TX11, 6)) kw_743 km_X11_feed kt_665 dL_law_178 rfl (Nat.le_of_ble_eq_true rfl) rfl rfl e_q1 rfl (c_X11_feed hg e_x7) ?_
        refine zr_aload_n (v := .inl l2) dL_law_181 rfl rfl ?_
        refine zr_aload_n (v := .inr 8) dL_law_182 rfl rfl ?_
        refine zr_iload_n (x := l3) dL_law_183 rfl rfl ?_
        refine zr_iconst (v := (1 : Int32)) dL_law_184 (by decide) ?_
        refine zr_iadd dL_law_185 ?_
        revert hf; refine zbi (fun x8 e_x8 hf => ?_)
        refine zq_sld hS1 hS2 dL_law_186 e_x8 ?_
        refine zr_aload_n (v := .inr 8) dL_law_187 rfl rfl ?_
        refine zr_iload_n (x := l3) dL_law_188 rfl rfl ?_
        refine zr_iconst (v := (2 : Int32)) dL_law_189 (by decide) ?_
        refine zr_iadd dL_law_190 ?_
        revert hf; refine zbi (fun x9 e_x9 hf => ?_)
        refine zq_sld hS1 hS2 dL_law_191 e_x9 ?_
        refine zr_aload_n (v := .inr 8) dL_law_192 rfl rfl ?_
        refine zr_iload_n (x := l3) dL_law_193 rfl rfl ?_
        refine zr_iconst (v := (3 : Int32)) dL_law_194 (by decide) ?_
        refine zr_iadd dL_law_195 ?_
        revert hf; refine zbi (fun x10 e_x10 hf => ?_)
        refine zq_sld hS1 hS2 dL_law_196 e_x10 ?_
        refine zr_aload_n (v := .inr 8) dL_law_197 rfl rfl ?_
        refine zr_iload_n (x := l3) dL_law_198 rfl rfl ?_
        refine zr_iconst (v := (4 : Int32)) dL_law_199 (by decide) ?_
        refine zr_iadd dL_law_200 ?_
        revert hf; refine zbi (fun x11 e_x11 hf => ?_)
        refine zq_sld hS1 hS2 dL_law_201 e_x11 ?_
        refine zr_aload_n (v := .inr 8) dL_law_202 rfl rfl ?_
        refine zr_iload_n (x := l3) dL_law_203 rfl rfl ?_
        refine zr_iconst (v := (5 : Int32)) dL_law_204 (by decide) ?_
        refine zr_iadd dL_law_205 ?_
        revert hf; refine zbi (fun x12 e_x12 hf => ?_)
        refine zq_sld hS1 hS2 dL_law_206 e_x12 ?_
        revert hf; refine zbi (fun q2 e_q2 hf => ?_)
        revert hf; refine zbi2 (fun x13 h2 e_x13 hf => ?_)
        refine zq_callV (J' := jX12_feed) (as := [zi x8, zi x9, zi x10, zi x11, zi x12]) (rest := [zi x7]) (r1 := (some (zi x13))) (q := (RX12, TX12, 31)) kw_747 km_X12_feed kt_667 dL_law_207 rfl (Nat.le_of_ble_eq_true rfl) rfl rfl e_q2 rfl (c_X12_feed hg e_x13) ?_
        by_cases hc3 : x7 = x13
        · rw [if_pos hc3] at hf
          refine zr_iceq_t (tgt := 920) dL_law_210 (by decide) hc3 ?_
          refine zq_iinc (x := l3) (y := (6 : Int32)) (L' := [some (zs 8), some (zr l1), some (zr l2), some (zi (l3 + (6 : Int32)))]) dL_law_920 rfl (by decide) (by decide) rfl ?_
          refine zr_goto (tgt := 18) dL_law_923 (by decide) ?_
          exact ih l1 l2 (l3 + (6 : Int32)) h2 r h' hf
        · rw [if_neg hc3] at hf
          refine zr_iceq_f 920 dL_law_210 (by decide) hc3 ?_
          refine zr_iconst (v := (0 : Int32)) dL_law_213 (by decide) ?_
          cases hf
          exact zr_ret _ rfl dL_law_214
      · rw [if_neg hc2] at hf
        by_cases hc4 : (x1 &&& (31 : Int32)) = (1 : Int32)
        · rw [if_pos hc4] at hf
          refine zr_tabIn (off := 182) (tgt := 215) dL_law_33 (by rw [hc4]; decide) (by rw [hc4]; rfl) (by decide) ?_
          refine zr_aload_n (v := .inl l1) dL_law_215 rfl rfl ?_
          refine zr_aload_n (v := .inr 8) dL_law_216 rfl rfl ?_
          refine zr_iload_n (x := l3) dL_law_217 rfl rfl ?_
          refine zr_iconst (v := (1 : Int32)) dL_law_218 (by decide) ?_
          refine zr_iadd dL_law_219 ?_
          revert hf; refine zbi (fun x14 e_x14 hf => ?_)
          refine zq_sld hS1 hS2 dL_law_220 e_x14 ?_
          revert hf; refine zbi (fun q3 e_q3 hf => ?_)
          revert hf; refine zbi2 (fun x15 h3 e_x15 hf => ?_)
          refine zq_callV (J' := jX11_end) (as := [zi x14]) (rest := []) (r1 := (some (zi x15))) (q := (RX11, TX11, 6)) kw_751 km_X11_end kt_669 dL_law_221 rfl (Nat.le_of_ble_eq_true rfl) rfl rfl e_q3 rfl (c_X11_end hg e_x15) ?_
          refine zr_aload_n (v := .inl l2) dL_law_224 rfl rfl ?_
          refine zr_aload_n (v := .inr 8) dL_law_225 rfl rfl ?_
          refine zr_iload_n (x := l3) dL_law_226 rfl rfl ?_
          refine zr_iconst (v := (1 : Int32)) dL_law_227 (by decide) ?_
          refine zr_iadd dL_law_228 ?_
          revert hf; refine zbi (fun x16 e_x16 hf => ?_)
          refine zq_sld hS1 hS2 dL_law_229 e_x16 ?_
          revert hf; refine zbi (fun q4 e_q4 hf => ?_)
          revert hf; refine zbi2 (fun x17 h4 e_x17 hf => ?_)
          refine zq_callV (J' := jX12_end) (as := [zi x16]) (rest := [zi x15]) (r1 := (some (zi x17))) (q := (RX12, TX12, 31)) kw_755 km_X12_end kt_671 dL_law_230 rfl (Nat.le_of_ble_eq_true rfl) rfl rfl e_q4 rfl (c_X12_end hg e_x17) ?_
          by_cases hc5 : x15 = x17
          · rw [if_pos hc5] at hf
            refine zr_iceq_t (tgt := 920) dL_law_233 (by decide) hc5 ?_
            refine zq_iinc (x := l3) (y := (6 : Int32)) (L' := [some (zs 8), some (zr l1), some (zr l2), some (zi (l3 + (6 : Int32)))]) dL_law_920 rfl (by decide) (by decide) rfl ?_
            refine zr_goto (tgt := 18) dL_law_923 (by decide) ?_
            exact ih l1 l2 (l3 + (6 : Int32)) h4 r h' hf
          · rw [if_neg hc5] at hf
            refine zr_iceq_f 920 dL_law_233 (by decide) hc5 ?_
            refine zr_iconst (v := (0 : Int32)) dL_law_236 (by decide) ?_
            cases hf
            exact zr_ret _ rfl dL_law_237
        · rw [if_neg hc4] at hf
          by_cases hc6 : (x1 &&& (31 : Int32)) = (2 : Int32)
          · rw [if_pos hc6] at hf
            refine zr_tabIn (off := 205) (tgt := 238) dL_law_33 (by rw [hc6]; decide) (by rw [hc6]; rfl) (by decide) ?_
            refine zr_aload_n (v := .inl l1) dL_law_238 rfl rfl ?_
            revert hf; refine zbi (fun q5 e_q5 hf => ?_)
            revert hf; refine zbi2 (fun x18 h5 e_x18 hf => ?_)
            refine zq_callV (J' := jX11_round) (as := []) (rest := []) (r1 := (some (zi x18))) (q := (RX11, TX11, 6)) kw_759 km_X11_round kt_673 dL_law_239 rfl (Nat.le_of_ble_eq_true rfl) rfl rfl e_q5 rfl (c_X11_round hg e_x18) ?_
            refine zr_aload_n (v := .inl l2) dL_law_242 rfl rfl ?_
            revert hf; refine zbi (fun q6 e_q6 hf => ?_)
            revert hf; refine zbi2 (fun x19 h6 e_x19 hf => ?_)
            refine zq_callV (J' := jX12_round) (as := []) (rest := [zi x18]) (r1 := (some (zi x19))) (q := (RX12, TX12, 31)) kw_763 km_X12_round kt_675 dL_law_243 rfl (Nat.le_of_ble_eq_true rfl) rfl rfl e_q6 rfl (c_X12_round hg e_x19) ?_
            by_cases hc7 : x18 = x19
            · rw [if_pos hc7] at hf
              refine zr_iceq_t (tgt := 920) dL_law_246 (by decide) hc7 ?_
              refine zq_iinc (x := l3) (y := (6 : Int32)) (L' := [some (zs 8), some (zr l1), some (zr l2), some (zi (l3 + (6 : Int32)))]) dL_law_920 rfl (by decide) (by decide) rfl ?_
              refine zr_goto (tgt := 18) dL_law_923 (by decide) ?_
              exact ih l1 l2 (l3 + (6 : Int32)) h6 r h' hf
            · rw [if_neg hc7] at hf
              refine zr_iceq_f 920 dL_law_246 (by decide) hc7 ?_
              refine zr_iconst (v := (0 : Int32)) dL_law_249 (by decide) ?_
              cases hf
              exact zr_ret _ rfl dL_law_250
          · rw [if_neg hc6] at hf
            by_cases hc8 : (x1 &&& (31 : Int32)) = (3 : Int32)
            · rw [if_pos hc8] at hf
              refine zr_tabIn (off := 218) (tgt := 251) dL_law_33 (by rw [hc8]; decide) (by rw [hc8]; rfl) (by decide) ?_
              refine zr_aload_n (v := .inl l1) dL_law_251 rfl rfl ?_
              refine zr_aload_n (v := .inr 8) dL_law_252 rfl rfl ?_
              refine zr_iload_n (x := l3) dL_law_253 rfl rfl ?_
              refine zr_iconst (v := (1 : Int32)) dL_law_254 (by decide) ?_
              refine zr_iadd dL_law_255 ?_
              revert hf; refine zbi (fun x20 e_x20 hf => ?_)
              refine zq_sld hS1 hS2 dL_law_256 e_x20 ?_
              revert hf; refine zbi (fun q7 e_q7 hf => ?_)
              revert hf; refine zbi (fun x21 e_x21 hf => ?_)
              refine zq_callV (J' := jX11_fault) (as := [zi x20]) (rest := []) (r1 := (some (zi x21))) (q := (RX11, TX11, 6)) kw_767 km_X11_fault kt_677 dL_law_257 rfl (Nat.le_of_ble_eq_true rfl) rfl rfl e_q7 rfl (c_X11_fault hg e_x21) ?_
              refine zr_aload_n (v := .inl l2) dL_law_260 rfl rfl ?_
              refine zr_aload_n (v := .inr 8) dL_law_261 rfl rfl ?_
              refine zr_iload_n (x := l3) dL_law_262 rfl rfl ?_
              refine zr_iconst (v := (1 : Int32)) dL_law_263 (by decide) ?_
              refine zr_iadd dL_law_264 ?_
              revert hf; refine zbi (fun x22 e_x22 hf => ?_)
              refine zq_sld hS1 hS2 dL_law_265 e_x22 ?_
              revert hf; refine zbi (fun q8 e_q8 hf => ?_)
              revert hf; refine zbi (fun x23 e_x23 hf => ?_)
              refine zq_callV (J' := jX12_fault) (as := [zi x22]) (rest := [zi x21]) (r1 := (some (zi x23))) (q := (RX12, TX12, 31)) kw_771 km_X12_fault kt_679 dL_law_266 rfl (Nat.le_of_ble_eq_true rfl) rfl rfl e_q8 rfl (c_X12_fault hg e_x23) ?_
              by_cases hc9 : x21 = x23
              · rw [if_pos hc9] at hf
                refine zr_iceq_t (tgt := 920) dL_law_269 (by decide) hc9 ?_
                refine zq_iinc (x := l3) (y := (6 : Int32)) (L' := [some (zs 8), some (zr l1), some (zr l2), some (zi (l3 + (6 : Int32)))]) dL_law_920 rfl (by decide) (by decide) rfl ?_
                refine zr_goto (tgt := 18) dL_law_923 (by decide) ?_
                exact ih l1 l2 (l3 + (6 : Int32)) h r h' hf
              · rw [if_neg hc9] at hf
                refine zr_iceq_f 920 dL_law_269 (by decide) hc9 ?_
                refine zr_iconst (v := (0 : Int32)) dL_law_272 (by decide) ?_
                cases hf
                exact zr_ret _ rfl dL_law_273
            · rw [if_neg hc8] at hf
              by_cases hc10 : (x1 &&& (31 : Int32)) = (4 : Int32)
              · rw [if_pos hc10] at hf
                refine zr_tabIn (off := 241) (tgt := 274) dL_law_33 (by rw [hc10]; decide) (by rw [hc10]; rfl) (by decide) ?_
                refine zr_aload_n (v := .inl l1) dL_law_274 rfl rfl ?_
                refine zr_aload_n (v := .inr 8) dL_law_275 rfl rfl ?_
                refine zr_iload_n (x := l3) dL_law_276 rfl rfl ?_
                refine zr_iconst (v := (1 : Int32)) dL_law_277 (by decide) ?_
                refine zr_iadd dL_law_278 ?_
                revert hf; refine zbi (fun x24 e_x24 hf => ?_)
                refine zq_sld hS1 hS2 dL_law_279 e_x24 ?_
                revert hf; refine zbi (fun q9 e_q9 hf => ?_)
                revert hf; refine zbi (fun x25 e_x25 hf => ?_)
                refine zq_callV (J' := jX11_of) (as := [zi x24]) (rest := []) (r1 := (some (zi x25))) (q := (RX11, TX11, 6)) kw_775 km_X11_of kt_681 dL_law_280 rfl (Nat.le_of_ble_eq_true rfl) rfl rfl e_q9 rfl (c_X11_of hg e_x25) ?_
                refine zr_aload_n (v := .inl l2) dL_law_283 rfl rfl ?_
                refine zr_aload_n (v := .inr 8) dL_law_284 rfl rfl ?_
                refine zr_iload_n (x := l3) dL_law_285 rfl rfl ?_
                refine zr_iconst (v := (1 : Int32)) dL_law_286 (by decide) ?_
                refine zr_iadd dL_law_287 ?_
                revert hf; refine zbi (fun x26 e_x26 hf => ?_)
                refine zq_sld hS1 hS2 dL_law_288 e_x26 ?_
                revert hf; refine zbi (fun q10 e_q10 hf => ?_)
                revert hf; refine zbi (fun x27 e_x27 hf => ?_)
                refine zq_callV (J' := jX12_of) (as := [zi x26]) (rest := [zi x25]) (r1 := (some (zi x27))) (q := (RX12, TX12, 31)) kw_779 km_X12_of kt_682 dL_law_289 rfl (Nat.le_of_ble_eq_true rfl) rfl rfl e_q10 rfl (c_X12_of hg e_x27) ?_
                by_cases hc11 : x25 = x27
                · rw [if_pos hc11] at hf
                  refine zr_iceq_t (tgt := 920) dL_law_292 (by decide) hc11 ?_
                  refine zq_iinc (x := l3) (y := (6 : Int32)) (L' := [some (zs 8), some (zr l1), some (zr l2), some (zi (l3 + (6 : Int32)))]) dL_law_920 rfl (by decide) (by decide) rfl ?_
                  refine zr_goto (tgt := 18) dL_law_923 (by decide) ?_
                  exact ih l1 l2 (l3 + (6 : Int32)) h r h' hf
                · rw [if_neg hc11] at hf
                  refine zr_iceq_f 920 dL_law_292 (by decide) hc11 ?_
                  refine zr_iconst (v := (0 : Int32)) dL_law_295 (by decide) ?_
                  cases hf
                  exact zr_ret _ rfl dL_law_296
              · rw [if_neg hc10] at hf
                by_cases hc12 : (x1 &&& (31 : Int32)) = (5 : Int32)
                · rw [if_pos hc12] at hf
                  refine zr_tabIn (off := 264) (tgt := 297) dL_law_33 (by rw [hc12]; decide) (by rw [hc12]; rfl) (by decide) ?_
                  refine zr_aload_n (v := .inl l1) dL_law_297 rfl rfl ?_
                  refine zr_aload_n (v := .inr 8) dL_law_298 rfl rfl ?_
                  refine zr_iload_n (x := l3) dL_law_299 rfl rfl ?_
                  refine zr_iconst (v := (1 : Int32)) dL_law_300 (by decide) ?_
                  refine zr_iadd dL_law_301 ?_
                  revert hf; refine zbi (fun x28 e_x28 hf => ?_)
                  refine zq_sld hS1 hS2 dL_law_302 e_x28 ?_
                  revert hf; refine zbi (fun q11 e_q11 hf => ?_)
                  revert hf; refine zbi2 (fun x29 h7 e_x29 hf => ?_)
                  refine zq_callV (J' := jX11_archer) (as := [zi x28]) (rest := []) (r1 := (some (zi x29))) (q := (RX11, TX11, 6)) kw_780 km_X11_archer kt_684 dL_law_303 rfl (Nat.le_of_ble_eq_true rfl) rfl rfl e_q11 rfl (c_X11_archer hg e_x29) ?_
                  refine zr_aload_n (v := .inl l2) dL_law_306 rfl rfl ?_
                  refine zr_aload_n (v := .inr 8) dL_law_307 rfl rfl ?_
                  refine zr_iload_n (x := l3) dL_law_308 rfl rfl ?_
                  refine zr_iconst (v := (1 : Int32)) dL_law_309 (by decide) ?_
                  refine zr_iadd dL_law_310 ?_
                  revert hf; refine zbi (fun x30 e_x30 hf => ?_)
                  refine zq_sld hS1 hS2 dL_law_311 e_x30 ?_
                  revert hf; refine zbi (fun q12 e_q12 hf => ?_)
                  revert hf; refine zbi2 (fun x31 h8 e_x31 hf => ?_)
                  refine zq_callV (J' := jX12_archer) (as := [zi x30]) (rest := [zi x29]) (r1 := (some (zi x31))) (q := (RX12, TX12, 31)) kw_784 km_X12_archer kt_686 dL_law_312 rfl (Nat.le_of_ble_eq_true rfl) rfl rfl e_q12 rfl (c_X12_archer hg e_x31) ?_
                  by_cases hc13 : x29 = x31
                  · rw [if_pos hc13] at hf
                    refine zr_iceq_t (tgt := 920) dL_law_315 (by decide) hc13 ?_
                    refine zq_iinc (x := l3) (y := (6 : Int32)) (L' := [some (zs 8), some (zr l1), some (zr l2), some (zi (l3 + (6 : Int32)))]) dL_law_920 rfl (by decide) (by decide) rfl ?_
                    refine zr_goto (tgt := 18) dL_law_923 (by decide) ?_
                    exact ih l1 l2 (l3 + (6 : Int32)) h8 r h' hf
                  · rw [if_neg hc13] at hf
                    refine zr_iceq_f 920 dL_law_315 (by decide) hc13 ?_
                    refine zr_iconst (v := (0 : Int32)) dL_law_318 (by decide) ?_
                    cases hf
                    exact zr_ret _ rfl dL_law_319
                · rw [if_neg hc12] at hf
                  by_cases hc14 : (x1 &&& (31 : Int32)) = (6 : Int32)
                  · rw [if_pos hc14] at hf
                    refine zr_tabIn (off := 287) (tgt := 320) dL_law_33 (by rw [hc14]; decide) (by rw [hc14]; rfl) (by decide) ?_
                    refine zr_aload_n (v := .inl l1) dL_law_320 rfl rfl ?_
                    refine zr_aload_n (v := .inr 8) dL_law_321 rfl rfl ?_
                    refine zr_iload_n (x := l3) dL_law_322 rfl rfl ?_
                    refine zr_iconst (v := (1 : Int32)) dL_law_323 (by decide) ?_
                    refine zr_iadd dL_law_324 ?_
                    revert hf; refine zbi (fun x32 e_x32 hf => ?_)
                    refine zq_sld hS1 hS2 dL_law_325 e_x32 ?_
                    revert hf; refine zbi (fun q13 e_q13 hf => ?_)
                    revert hf; refine zbi2 (fun x33 h9 e_x33 hf => ?_)
                    refine zq_callV (J' := jX11_leave) (as := [zi x32]) (rest := []) (r1 := (some (zi x33))) (q := (RX11, TX11, 6)) kw_788 km_X11_leave kt_688 dL_law_326 rfl (Nat.le_of_ble_eq_true rfl) rfl rfl e_q13 rfl (c_X11_leave hg e_x33) ?_
                    refine zr_aload_n (v := .inl l2) dL_law_329 rfl rfl ?_
                    refine zr_aload_n (v := .inr 8) dL_law_330 rfl rfl ?_
                    refine zr_iload_n (x := l3) dL_law_331 rfl rfl ?_
                    refine zr_iconst (v := (1 : Int32)) dL_law_332 (by decide) ?_
                    refine zr_iadd dL_law_333 ?_
                    revert hf; refine zbi (fun x34 e_x34 hf => ?_)
                    refine zq_sld hS1 hS2 dL_law_334 e_x34 ?_
                    revert hf; refine zbi (fun q14 e_q14 hf => ?_)
                    revert hf; refine zbi2 (fun x35 h10 e_x35 hf => ?_)
                    refine zq_callV (J' := jX12_leave) (as := [zi x34]) (rest := [zi x33]) (r1 := (some (zi x35))) (q := (RX12, TX12, 31)) kw_792 km_X12_leave kt_690 dL_law_335 rfl (Nat.le_of_ble_eq_true rfl) rfl rfl e_q14 rfl (c_X12_leave hg e_x35) ?_
                    by_cases hc15 : x33 = x35
                    · rw [if_pos hc15] at hf
                      refine zr_iceq_t (tgt := 920) dL_law_338 (by decide) hc15 ?_
                      refine zq_iinc (x := l3) (y := (6 : Int32)) (L' := [some (zs 8), some (zr l1), some (zr l2), some (zi (l3 + (6 : Int32)))]) dL_law_920 rfl (by decide) (by decide) rfl ?_
                      refine zr_goto (tgt := 18) dL_law_923 (by decide) ?_
                      exact ih l1 l2 (l3 + (6 : Int32)) h10 r h' hf
                    · rw [if_neg hc15] at hf
                      refine zr_iceq_f 920 dL_law_338 (by decide) hc15 ?_
                      refine zr_iconst (v := (0 : Int32)) dL_law_341 (by decide) ?_
                      cases hf
                      exact zr_ret _ rfl dL_law_342
                  · rw [if_neg hc14] at hf
                    by_cases hc16 : (x1 &&& (31 : Int32)) = (7 : Int32)
                    · rw [if_pos hc16] at hf
                      refine zr_tabIn (off := 310) (tgt := 343) dL_law_33 (by rw [hc16]; decide) (by rw [hc16]; rfl) (by decide) ?_
                      refine zr_aload_n (v := .inl l1) dL_law_343 rfl rfl ?_
                      refine zr_aload_n (v := .inr 8) dL_law_344 rfl rfl ?_
                      refine zr_iload_n (x := l3) dL_law_345 rfl rfl ?_
                      refine zr_iconst (v := (1 : Int32)) dL_law_346 (by decide) ?_
                      refine zr_iadd dL_law_347 ?_
                      revert hf; refine zbi (fun x36 e_x36 hf => ?_)
                      refine zq_sld hS1 hS2 dL_law_348 e_x36 ?_
                      refine zr_aload_n (v := .inr 8) dL_law_349 rfl rfl ?_
                      refine zr_iload_n (x := l3) dL_law_350 rfl rfl ?_
                      refine zr_iconst (v := (2 : Int32)) dL_law_351 (by decide) ?_
                      refine zr_iadd dL_law_352 ?_
                      revert hf; refine zbi (fun x37 e_x37 hf => ?_)
                      refine zq_sld hS1 hS2 dL_law_353 e_x37 ?_
                      revert hf; refine zbi (fun q15 e_q15 hf => ?_)
                      revert hf; refine zbi (fun x38 e_x38 hf => ?_)
                      refine zq_callV (J' := jX11_told) (as := [zi x36, zi x37]) (rest := []) (r1 := (some (zi x38))) (q := (RX11, TX11, 6)) kw_796 km_X11_told kt_692 dL_law_354 rfl (Nat.le_of_ble_eq_true rfl) rfl rfl e_q15 rfl (c_X11_told hg e_x38) ?_
                      refine zr_aload_n (v := .inl l2) dL_law_357 rfl rfl ?_
                      refine zr_aload_n (v := .inr 8) dL_law_358 rfl rfl ?_
                      refine zr_iload_n (x := l3) dL_law_359 rfl rfl ?_
                      refine zr_iconst (v := (1 : Int32)) dL_law_360 (by decide) ?_
                      refine zr_iadd dL_law_361 ?_
                      revert hf; refine zbi (fun x39 e_x39 hf => ?_)
                      refine zq_sld hS1 hS2 dL_law_362 e_x39 ?_
                      refine zr_aload_n (v := .inr 8) dL_law_363 rfl rfl ?_
                      refine zr_iload_n (x := l3) dL_law_364 rfl rfl ?_
                      refine zr_iconst (v := (2 : Int32)) dL_law_365 (by decide) ?_
                      refine zr_iadd dL_law_366 ?_
                      revert hf; refine zbi (fun x40 e_x40 hf => ?_)
                      refine zq_sld hS1 hS2 dL_law_367 e_x40 ?_
                      revert hf; refine zbi (fun q16 e_q16 hf => ?_)
                      revert hf; refine zbi (fun x41 e_x41 hf => ?_)
                      refine zq_callV (J' := jX12_told) (as := [zi x39, zi x40]) (rest := [zi x38]) (r1 := (some (zi x41))) (q := (RX12, TX12, 31)) kw_800 km_X12_told kt_694 dL_law_368 rfl (Nat.le_of_ble_eq_true rfl) rfl rfl e_q16 rfl (c_X12_told hg e_x41) ?_
                      by_cases hc17 : x38 = x41
                      · rw [if_pos hc17] at hf
                        refine zr_iceq_t (tgt := 920) dL_law_371 (by decide) hc17 ?_
                        refine zq_iinc (x := l3) (y := (6 : Int32)) (L' := [some (zs 8), some (zr l1), some (zr l2), some (zi (l3 + (6 : Int32)))]) dL_law_920 rfl (by decide) (by decide) rfl ?_
                        refine zr_goto (tgt := 18) dL_law_923 (by decide) ?_
                        exact ih l1 l2 (l3 + (6 : Int32)) h r h' hf
                      · rw [if_neg hc17] at hf
                        refine zr_iceq_f 920 dL_law_371 (by decide) hc17 ?_
                        refine zr_iconst (v := (0 : Int32)) dL_law_374 (by decide) ?_
                        cases hf
                        exact zr_ret _ rfl dL_law_375
                    · rw [if_neg hc16] at hf
                      by_cases hc18 : (x1 &&& (31 : Int32)) = (8 : Int32)
                      · rw [if_pos hc18] at hf
                        refine zr_tabIn (off := 343) (tgt := 376) dL_law_33 (by rw [hc18]; decide) (by rw [hc18]; rfl) (by decide) ?_
                        refine zr_aload_n (v := .inl l1) dL_law_376 rfl rfl ?_
                        refine zr_aload_n (v := .inr 8) dL_law_377 rfl rfl ?_
                        refine zr_iload_n (x := l3) dL_law_378 rfl rfl ?_
                        refine zr_iconst (v := (1 : Int32)) dL_law_379 (by decide) ?_
                        refine zr_iadd dL_law_380 ?_
                        revert hf; refine zbi (fun x42 e_x42 hf => ?_)
                        refine zq_sld hS1 hS2 dL_law_381 e_x42 ?_
                        refine zr_aload_n (v := .inr 8) dL_law_382 rfl rfl ?_
                        refine zr_iload_n (x := l3) dL_law_383 rfl rfl ?_
                        refine zr_iconst (v := (2 : Int32)) dL_law_384 (by decide) ?_
                        refine zr_iadd dL_law_385 ?_
                        revert hf; refine zbi (fun x43 e_x43 hf => ?_)
                        refine zq_sld hS1 hS2 dL_law_386 e_x43 ?_
                        refine zr_aload_n (v := .inr 8) dL_law_387 rfl rfl ?_
                        refine zr_iload_n (x := l3) dL_law_388 rfl rfl ?_
                        refine zr_iconst (v := (3 : Int32)) dL_law_389 (by decide) ?_
                        refine zr_iadd dL_law_390 ?_
                        revert hf; refine zbi (fun x44 e_x44 hf => ?_)
                        refine zq_sld hS1 hS2 dL_law_391 e_x44 ?_
                        revert hf; refine zbi (fun q17 e_q17 hf => ?_)
                        revert hf; refine zbi2 (fun x45 h11 e_x45 hf => ?_)
                        refine zq_callV (J' := jX11_arrow) (as := [zi x42, zi x43, zi x44]) (rest := []) (r1 := (some (zi x45))) (q := (RX11, TX11, 6)) kw_804 km_X11_arrow kt_696 dL_law_392 rfl (Nat.le_of_ble_eq_true rfl) rfl rfl e_q17 rfl (c_X11_arrow hg e_x45) ?_
                        refine zr_aload_n (v := .inl l2) dL_law_395 rfl rfl ?_
                        refine zr_aload_n (v := .inr 8) dL_law_396 rfl rfl ?_
                        refine zr_iload_n (x := l3) dL_law_397 rfl rfl ?_
                        refine zr_iconst (v := (1 : Int32)) dL_law_398 (by decide) ?_
                        refine zr_iadd dL_law_399 ?_
                        revert hf; refine zbi (fun x46 e_x46 hf => ?_)
                        refine zq_sld hS1 hS2 dL_law_400 e_x46 ?_
                        refine zr_aload_n (v := .inr 8) dL_law_401 rfl rfl ?_
                        refine zr_iload_n (x := l3) dL_law_402 rfl rfl ?_
                        refine zr_iconst (v := (2 : Int32)) dL_law_403 (by decide) ?_
                        refine zr_iadd dL_law_404 ?_
                        revert hf; refine zbi (fun x47 e_x47 hf => ?_)
                        refine zq_sld hS1 hS2 dL_law_405 e_x47 ?_
                        refine zr_aload_n (v := .inr 8) dL_law_406 rfl rfl ?_
                        refine zr_iload_n (x := l3) dL_law_407 rfl rfl ?_
                        refine zr_iconst (v := (3 : Int32)) dL_law_408 (by decide) ?_
                        refine zr_iadd dL_law_409 ?_
                        revert hf; refine zbi (fun x48 e_x48 hf => ?_)
                        refine zq_sld hS1 hS2 dL_law_410 e_x48 ?_
                        revert hf; refine zbi (fun q18 e_q18 hf => ?_)
                        revert hf; refine zbi2 (fun x49 h12 e_x49 hf => ?_)
                        refine zq_callV (J' := jX12_arrow) (as := [zi x46, zi x47, zi x48]) (rest := [zi x45]) (r1 := (some (zi x49))) (q := (RX12, TX12, 31)) kw_808 km_X12_arrow kt_698 dL_law_411 rfl (Nat.le_of_ble_eq_true rfl) rfl rfl e_q18 rfl (c_X12_arrow hg e_x49) ?_
                        by_cases hc19 : x45 = x49
                        · rw [if_pos hc19] at hf
                          refine zr_iceq_t (tgt := 920) dL_law_414 (by decide) hc19 ?_
                          refine zq_iinc (x := l3) (y := (6 : Int32)) (L' := [some (zs 8), some (zr l1), some (zr l2), some (zi (l3 + (6 : Int32)))]) dL_law_920 rfl (by decide) (by decide) rfl ?_
                          refine zr_goto (tgt := 18) dL_law_923 (by decide) ?_
                          exact ih l1 l2 (l3 + (6 : Int32)) h12 r h' hf
                        · rw [if_neg hc19] at hf
                          refine zr_iceq_f 920 dL_law_414 (by decide) hc19 ?_
                          refine zr_iconst (v := (0 : Int32)) dL_law_417 (by decide) ?_
                          cases hf
                          exact zr_ret _ rfl dL_law_418
                      · rw [if_neg hc18] at hf
                        by_cases hc20 : (x1 &&& (31 : Int32)) = (9 : Int32)
                        · rw [if_pos hc20] at hf
                          refine zr_tabIn (off := 386) (tgt := 419) dL_law_33 (by rw [hc20]; decide) (by rw [hc20]; rfl) (by decide) ?_
                          refine zr_aload_n (v := .inl l1) dL_law_419 rfl rfl ?_
                          refine zr_aload_n (v := .inr 8) dL_law_420 rfl rfl ?_
                          refine zr_iload_n (x := l3) dL_law_421 rfl rfl ?_
                          refine zr_iconst (v := (1 : Int32)) dL_law_422 (by decide) ?_
                          refine zr_iadd dL_law_423 ?_
                          revert hf; refine zbi (fun x50 e_x50 hf => ?_)
                          refine zq_sld hS1 hS2 dL_law_424 e_x50 ?_
                          revert hf; refine zbi (fun q19 e_q19 hf => ?_)
                          revert hf; refine zbi2 (fun x51 h13 e_x51 hf => ?_)
                          refine zq_callV (J' := jX11_shoot) (as := [zi x50]) (rest := []) (r1 := (some (zi x51))) (q := (RX11, TX11, 6)) kw_812 km_X11_shoot kt_700 dL_law_425 rfl (Nat.le_of_ble_eq_true rfl) rfl rfl e_q19 rfl (c_X11_shoot hg e_x51) ?_
                          refine zr_aload_n (v := .inl l2) dL_law_428 rfl rfl ?_
                          refine zr_aload_n (v := .inr 8) dL_law_429 rfl rfl ?_
                          refine zr_iload_n (x := l3) dL_law_430 rfl rfl ?_
                          refine zr_iconst (v := (1 : Int32)) dL_law_431 (by decide) ?_
                          refine zr_iadd dL_law_432 ?_
                          revert hf; refine zbi (fun x52 e_x52 hf => ?_)
                          refine zq_sld hS1 hS2 dL_law_433 e_x52 ?_
                          revert hf; refine zbi (fun q20 e_q20 hf => ?_)
                          revert hf; refine zbi2 (fun x53 h14 e_x53 hf => ?_)
                          refine zq_callV (J' := jX12_shoot) (as := [zi x52]) (rest := [zi x51]) (r1 := (some (zi x53))) (q := (RX12, TX12, 31)) kw_816 km_X12_shoot kt_702 dL_law_434 rfl (Nat.le_of_ble_eq_true rfl) rfl rfl e_q20 rfl (c_X12_shoot hg e_x53) ?_
                          by_cases hc21 : x51 = x53
                          · rw [if_pos hc21] at hf
                            refine zr_iceq_t (tgt := 920) dL_law_437 (by decide) hc21 ?_
                            refine zq_iinc (x := l3) (y := (6 : Int32)) (L' := [some (zs 8), some (zr l1), some (zr l2), some (zi (l3 + (6 : Int32)))]) dL_law_920 rfl (by decide) (by decide) rfl ?_
                            refine zr_goto (tgt := 18) dL_law_923 (by decide) ?_
                            exact ih l1 l2 (l3 + (6 : Int32)) h14 r h' hf
                          · rw [if_neg hc21] at hf
                            refine zr_iceq_f 920 dL_law_437 (by decide) hc21 ?_
                            refine zr_iconst (v := (0 : Int32)) dL_law_440 (by decide) ?_
                            cases hf
                            exact zr_ret _ rfl dL_law_441
                        · rw [if_neg hc20] at hf
                          by_cases hc22 : (x1 &&& (31 : Int32)) = (10 : Int32)
                          · rw [if_pos hc22] at hf
                            refine zr_tabIn (off := 409) (tgt := 442) dL_law_33 (by rw [hc22]; decide) (by rw [hc22]; rfl) (by decide) ?_
                            refine zr_aload_n (v := .inl l1) dL_law_442 rfl rfl ?_
                            refine zr_aload_n (v := .inr 8) dL_law_443 rfl rfl ?_
                            refine zr_iload_n (x := l3) dL_law_444 rfl rfl ?_
                            refine zr_iconst (v := (1 : Int32)) dL_law_445 (by decide) ?_
                            refine zr_iadd dL_law_446 ?_
                            revert hf; refine zbi (fun x54 e_x54 hf => ?_)
                            refine zq_sld hS1 hS2 dL_law_447 e_x54 ?_
                            refine zr_aload_n (v := .inr 8) dL_law_448 rfl rfl ?_
                            refine zr_iload_n (x := l3) dL_law_449 rfl rfl ?_
                            refine zr_iconst (v := (2 : Int32)) dL_law_450 (by decide) ?_
                            refine zr_iadd dL_law_451 ?_
                            revert hf; refine zbi (fun x55 e_x55 hf => ?_)
                            refine zq_sld hS1 hS2 dL_law_452 e_x55 ?_
                            revert hf; refine zbi (fun q21 e_q21 hf => ?_)
                            revert hf; refine zbi (fun x56 e_x56 hf => ?_)
                            refine zq_callV (J' := jX11_value) (as := [zi x54, zi x55]) (rest := []) (r1 := (some (zi x56))) (q := (RX11, TX11, 6)) kw_820 km_X11_value kt_704 dL_law_453 rfl (Nat.le_of_ble_eq_true rfl) rfl rfl e_q21 rfl (c_X11_value hg e_x56) ?_
                            refine zr_aload_n (v := .inl l2) dL_law_456 rfl rfl ?_
                            refine zr_aload_n (v := .inr 8) dL_law_457 rfl rfl ?_
                            refine zr_iload_n (x := l3) dL_law_458 rfl rfl ?_
                            refine zr_iconst (v := (1 : Int32)) dL_law_459 (by decide) ?_
                            refine zr_iadd dL_law_460 ?_
                            revert hf; refine zbi (fun x57 e_x57 hf => ?_)
                            refine zq_sld hS1 hS2 dL_law_461 e_x57 ?_
                            refine zr_aload_n (v := .inr 8) dL_law_462 rfl rfl ?_
                            refine zr_iload_n (x := l3) dL_law_463 rfl rfl ?_
                            refine zr_iconst (v := (2 : Int32)) dL_law_464 (by decide) ?_
                            refine zr_iadd dL_law_465 ?_
                            revert hf; refine zbi (fun x58 e_x58 hf => ?_)
                            refine zq_sld hS1 hS2 dL_law_466 e_x58 ?_
                            revert hf; refine zbi (fun q22 e_q22 hf => ?_)
                            revert hf; refine zbi (fun x59 e_x59 hf => ?_)
                            refine zq_callV (J' := jX12_value) (as := [zi x57, zi x58]) (rest := [zi x56]) (r1 := (some (zi x59))) (q := (RX12, TX12, 31)) kw_824 km_X12_value kt_706 dL_law_467 rfl (Nat.le_of_ble_eq_true rfl) rfl rfl e_q22 rfl (c_X12_value hg e_x59) ?_
                            by_cases hc23 : x56 = x59
                            · rw [if_pos hc23] at hf
                              refine zr_iceq_t (tgt := 920) dL_law_470 (by decide) hc23 ?_
                              refine zq_iinc (x := l3) (y := (6 : Int32)) (L' := [some (zs 8), some (zr l1), some (zr l2), some (zi (l3 + (6 : Int32)))]) dL_law_920 rfl (by decide) (by decide) rfl ?_
                              refine zr_goto (tgt := 18) dL_law_923 (by decide) ?_
                              exact ih l1 l2 (l3 + (6 : Int32)) h r h' hf
                            · rw [if_neg hc23] at hf
                              refine zr_iceq_f 920 dL_law_470 (by decide) hc23 ?_
                              refine zr_iconst (v := (0 : Int32)) dL_law_473 (by decide) ?_
                              cases hf
                              exact zr_ret _ rfl dL_law_474
                          · rw [if_neg hc22] at hf
                            by_cases hc24 : (x1 &&& (31 : Int32)) = (11 : Int32)
                            · rw [if_pos hc24] at hf
                              refine zr_tabIn (off := 442) (tgt := 475) dL_law_33 (by rw [hc24]; decide) (by rw [hc24]; rfl) (by decide) ?_
                              refine zr_aload_n (v := .inl l1) dL_law_475 rfl rfl ?_
                              refine zr_aload_n (v := .inr 8) dL_law_476 rfl rfl ?_
                              refine zr_iload_n (x := l3) dL_law_477 rfl rfl ?_
                              refine zr_iconst (v := (1 : Int32)) dL_law_478 (by decide) ?_
                              refine zr_iadd dL_law_479 ?_
                              revert hf; refine zbi (fun x60 e_x60 hf => ?_)
                              refine zq_sld hS1 hS2 dL_law_480 e_x60 ?_
                              revert hf; refine zbi (fun q23 e_q23 hf => ?_)
                              revert hf; refine zbi2 (fun x61 h15 e_x61 hf => ?_)
                              refine zq_callV (J' := jX11_take) (as := [zi x60]) (rest := []) (r1 := (some (zi x61))) (q := (RX11, TX11, 6)) kw_828 km_X11_take kt_708 dL_law_481 rfl (Nat.le_of_ble_eq_true rfl) rfl rfl e_q23 rfl (c_X11_take hg e_x61) ?_
                              refine zr_aload_n (v := .inl l2) dL_law_484 rfl rfl ?_
                              refine zr_aload_n (v := .inr 8) dL_law_485 rfl rfl ?_
                              refine zr_iload_n (x := l3) dL_law_486 rfl rfl ?_
                              refine zr_iconst (v := (1 : Int32)) dL_law_487 (by decide) ?_
                              refine zr_iadd dL_law_488 ?_
                              revert hf; refine zbi (fun x62 e_x62 hf => ?_)
                              refine zq_sld hS1 hS2 dL_law_489 e_x62 ?_
                              revert hf; refine zbi (fun q24 e_q24 hf => ?_)
                              revert hf; refine zbi2 (fun x63 h16 e_x63 hf => ?_)
                              refine zq_callV (J' := jX12_take) (as := [zi x62]) (rest := [zi x61]) (r1 := (some (zi x63))) (q := (RX12, TX12, 31)) kw_832 km_X12_take kt_710 dL_law_490 rfl (Nat.le_of_ble_eq_true rfl) rfl rfl e_q24 rfl (c_X12_take hg e_x63) ?_
                              by_cases hc25 : x61 = x63
                              · rw [if_pos hc25] at hf
                                refine zr_iceq_t (tgt := 920) dL_law_493 (by decide) hc25 ?_
                                refine zq_iinc (x := l3) (y := (6 : Int32)) (L' := [some (zs 8), some (zr l1), some (zr l2), some (zi (l3 + (6 : Int32)))]) dL_law_920 rfl (by decide) (by decide) rfl ?_
                                refine zr_goto (tgt := 18) dL_law_923 (by decide) ?_
                                exact ih l1 l2 (l3 + (6 : Int32)) h16 r h' hf
                              · rw [if_neg hc25] at hf
                                refine zr_iceq_f 920 dL_law_493 (by decide) hc25 ?_
                                refine zr_iconst (v := (0 : Int32)) dL_law_496 (by decide) ?_
                                cases hf
                                exact zr_ret _ rfl dL_law_497
                            · rw [if_neg hc24] at hf
                              by_cases hc26 : (x1 &&& (31 : Int32)) = (12 : Int32)
                              · rw [if_pos hc26] at hf
                                refine zr_tabIn (off := 465) (tgt := 498) dL_law_33 (by rw [hc26]; decide) (by rw [hc26]; rfl) (by decide) ?_
                                refine zr_aload_n (v := .inl l1) dL_law_498 rfl rfl ?_
                                refine zr_aload_n (v := .inr 8) dL_law_499 rfl rfl ?_
                                refine zr_iload_n (x := l3) dL_law_500 rfl rfl ?_
                                refine zr_iconst (v := (1 : Int32)) dL_law_501 (by decide) ?_
                                refine zr_iadd dL_law_502 ?_
                                revert hf; refine zbi (fun x64 e_x64 hf => ?_)
                                refine zq_sld hS1 hS2 dL_law_503 e_x64 ?_
                                refine zr_aload_n (v := .inr 8) dL_law_504 rfl rfl ?_
                                refine zr_iload_n (x := l3) dL_law_505 rfl rfl ?_
                                refine zr_iconst (v := (2 : Int32)) dL_law_506 (by decide) ?_
                                refine zr_iadd dL_law_507 ?_
                                revert hf; refine zbi (fun x65 e_x65 hf => ?_)
                                refine zq_sld hS1 hS2 dL_law_508 e_x65 ?_
                                refine zr_aload_n (v := .inr 8) dL_law_509 rfl rfl ?_
                                refine zr_iload_n (x := l3) dL_law_510 rfl rfl ?_
                                refine zr_iconst (v := (3 : Int32)) dL_law_511 (by decide) ?_
                                refine zr_iadd dL_law_512 ?_
                                revert hf; refine zbi (fun x66 e_x66 hf => ?_)
                                refine zq_sld hS1 hS2 dL_law_513 e_x66 ?_
                                refine zr_aload_n (v := .inr 8) dL_law_514 rfl rfl ?_
                                refine zr_iload_n (x := l3) dL_law_515 rfl rfl ?_
                                refine zr_iconst (v := (4 : Int32)) dL_law_516 (by decide) ?_
                                refine zr_iadd dL_law_517 ?_
                                revert hf; refine zbi (fun x67 e_x67 hf => ?_)
                                refine zq_sld hS1 hS2 dL_law_518 e_x67 ?_
                                revert hf; refine zbi (fun q25 e_q25 hf => ?_)
                                revert hf; refine zbi2 (fun x68 h17 e_x68 hf => ?_)
                                refine zq_callV (J' := jX11_off) (as := [zi x64, zi x65, zi x66, zi x67]) (rest := []) (r1 := (some (zi x68))) (q := (RX11, TX11, 6)) kw_836 km_X11_off kt_712 dL_law_519 rfl (Nat.le_of_ble_eq_true rfl) rfl rfl e_q25 rfl (c_X11_off hg e_x68) ?_
                                refine zr_aload_n (v := .inl l2) dL_law_522 rfl rfl ?_
                                refine zr_aload_n (v := .inr 8) dL_law_523 rfl rfl ?_
                                refine zr_iload_n (x := l3) dL_law_524 rfl rfl ?_
                                refine zr_iconst (v := (1 : Int32)) dL_law_525 (by decide) ?_
                                refine zr_iadd dL_law_526 ?_
                                revert hf; refine zbi (fun x69 e_x69 hf => ?_)
                                refine zq_sld hS1 hS2 dL_law_527 e_x69 ?_
                                refine zr_aload_n (v := .inr 8) dL_law_528 rfl rfl ?_
                                refine zr_iload_n (x := l3) dL_law_529 rfl rfl ?_
                                refine zr_iconst (v := (2 : Int32)) dL_law_530 (by decide) ?_
                                refine zr_iadd dL_law_531 ?_
                                revert hf; refine zbi (fun x70 e_x70 hf => ?_)
                                refine zq_sld hS1 hS2 dL_law_532 e_x70 ?_
                                refine zr_aload_n (v := .inr 8) dL_law_533 rfl rfl ?_
                                refine zr_iload_n (x := l3) dL_law_534 rfl rfl ?_
                                refine zr_iconst (v := (3 : Int32)) dL_law_535 (by decide) ?_
                                refine zr_iadd dL_law_536 ?_
                                revert hf; refine zbi (fun x71 e_x71 hf => ?_)
                                refine zq_sld hS1 hS2 dL_law_537 e_x71 ?_
                                refine zr_aload_n (v := .inr 8) dL_law_538 rfl rfl ?_
                                refine zr_iload_n (x := l3) dL_law_539 rfl rfl ?_
                                refine zr_iconst (v := (4 : Int32)) dL_law_540 (by decide) ?_
                                refine zr_iadd dL_law_541 ?_
                                revert hf; refine zbi (fun x72 e_x72 hf => ?_)
                                refine zq_sld hS1 hS2 dL_law_542 e_x72 ?_
                                revert hf; refine zbi (fun q26 e_q26 hf => ?_)
                                revert hf; refine zbi2 (fun x73 h18 e_x73 hf => ?_)
                                refine zq_callV (J' := jX12_off) (as := [zi x69, zi x70, zi x71, zi x72]) (rest := [zi x68]) (r1 := (some (zi x73))) (q := (RX12, TX12, 31)) kw_840 km_X12_off kt_714 dL_law_543 rfl (Nat.le_of_ble_eq_true rfl) rfl rfl e_q26 rfl (c_X12_off hg e_x73) ?_
                                by_cases hc27 : x68 = x73
                                · rw [if_pos hc27] at hf
                                  refine zr_iceq_t (tgt := 920) dL_law_546 (by decide) hc27 ?_
                                  refine zq_iinc (x := l3) (y := (6 : Int32)) (L' := [some (zs 8), some (zr l1), some (zr l2), some (zi (l3 + (6 : Int32)))]) dL_law_920 rfl (by decide) (by decide) rfl ?_
                                  refine zr_goto (tgt := 18) dL_law_923 (by decide) ?_
                                  exact ih l1 l2 (l3 + (6 : Int32)) h18 r h' hf
                                · rw [if_neg hc27] at hf
                                  refine zr_iceq_f 920 dL_law_546 (by decide) hc27 ?_
                                  refine zr_iconst (v := (0 : Int32)) dL_law_549 (by decide) ?_
                                  cases hf
                                  exact zr_ret _ rfl dL_law_550
                              · rw [if_neg hc26] at hf
                                by_cases hc28 : (x1 &&& (31 : Int32)) = (13 : Int32)
                                · rw [if_pos hc28] at hf
                                  refine zr_tabIn (off := 518) (tgt := 551) dL_law_33 (by rw [hc28]; decide) (by rw [hc28]; rfl) (by decide) ?_
                                  refine zr_aload_n (v := .inl l1) dL_law_551 rfl rfl ?_
                                  refine zr_aload_n (v := .inr 8) dL_law_552 rfl rfl ?_
                                  refine zr_iload_n (x := l3) dL_law_553 rfl rfl ?_
                                  refine zr_iconst (v := (1 : Int32)) dL_law_554 (by decide) ?_
                                  refine zr_iadd dL_law_555 ?_
                                  revert hf; refine zbi (fun x74 e_x74 hf => ?_)
                                  refine zq_sld hS1 hS2 dL_law_556 e_x74 ?_
                                  refine zr_aload_n (v := .inr 8) dL_law_557 rfl rfl ?_
                                  refine zr_iload_n (x := l3) dL_law_558 rfl rfl ?_
                                  refine zr_iconst (v := (2 : Int32)) dL_law_559 (by decide) ?_
                                  refine zr_iadd dL_law_560 ?_
                                  revert hf; refine zbi (fun x75 e_x75 hf => ?_)
                                  refine zq_sld hS1 hS2 dL_law_561 e_x75 ?_
                                  revert hf; refine zbi (fun q27 e_q27 hf => ?_)
                                  revert hf; refine zbi (fun x76 e_x76 hf => ?_)
                                  refine zq_callV (J' := jX11_ahead) (as := [zi x74, zi x75]) (rest := []) (r1 := (some (zi x76))) (q := (RX11, TX11, 6)) kw_844 km_X11_ahead kt_716 dL_law_562 rfl (Nat.le_of_ble_eq_true rfl) rfl rfl e_q27 rfl (c_X11_ahead hg e_x76) ?_
                                  refine zr_aload_n (v := .inl l2) dL_law_565 rfl rfl ?_
                                  refine zr_aload_n (v := .inr 8) dL_law_566 rfl rfl ?_
                                  refine zr_iload_n (x := l3) dL_law_567 rfl rfl ?_
                                  refine zr_iconst (v := (1 : Int32)) dL_law_568 (by decide) ?_
                                  refine zr_iadd dL_law_569 ?_
                                  revert hf; refine zbi (fun x77 e_x77 hf => ?_)
                                  refine zq_sld hS1 hS2 dL_law_570 e_x77 ?_
                                  refine zr_aload_n (v := .inr 8) dL_law_571 rfl rfl ?_
                                  refine zr_iload_n (x := l3) dL_law_572 rfl rfl ?_
                                  refine zr_iconst (v := (2 : Int32)) dL_law_573 (by decide) ?_
                                  refine zr_iadd dL_law_574 ?_
                                  revert hf; refine zbi (fun x78 e_x78 hf => ?_)
                                  refine zq_sld hS1 hS2 dL_law_575 e_x78 ?_
                                  revert hf; refine zbi (fun q28 e_q28 hf => ?_)
                                  revert hf; refine zbi (fun x79 e_x79 hf => ?_)
                                  refine zq_callV (J' := jX12_ahead) (as := [zi x77, zi x78]) (rest := [zi x76]) (r1 := (some (zi x79))) (q := (RX12, TX12, 31)) kw_848 km_X12_ahead kt_717 dL_law_576 rfl (Nat.le_of_ble_eq_true rfl) rfl rfl e_q28 rfl (c_X12_ahead hg e_x79) ?_
                                  by_cases hc29 : x76 = x79
                                  · rw [if_pos hc29] at hf
                                    refine zr_iceq_t (tgt := 920) dL_law_579 (by decide) hc29 ?_
                                    refine zq_iinc (x := l3) (y := (6 : Int32)) (L' := [some (zs 8), some (zr l1), some (zr l2), some (zi (l3 + (6 : Int32)))]) dL_law_920 rfl (by decide) (by decide) rfl ?_
                                    refine zr_goto (tgt := 18) dL_law_923 (by decide) ?_
                                    exact ih l1 l2 (l3 + (6 : Int32)) h r h' hf
                                  · rw [if_neg hc29] at hf
                                    refine zr_iceq_f 920 dL_law_579 (by decide) hc29 ?_
                                    refine zr_iconst (v := (0 : Int32)) dL_law_582 (by decide) ?_
                                    cases hf
                                    exact zr_ret _ rfl dL_law_583
                                · rw [if_neg hc28] at hf
                                  by_cases hc30 : (x1 &&& (31 : Int32)) = (14 : Int32)
                                  · rw [if_pos hc30] at hf
                                    refine zr_tabIn (off := 551) (tgt := 584) dL_law_33 (by rw [hc30]; decide) (by rw [hc30]; rfl) (by decide) ?_
                                    refine zr_aload_n (v := .inl l1) dL_law_584 rfl rfl ?_
                                    refine zr_aload_n (v := .inr 8) dL_law_585 rfl rfl ?_
                                    refine zr_iload_n (x := l3) dL_law_586 rfl rfl ?_
                                    refine zr_iconst (v := (1 : Int32)) dL_law_587 (by decide) ?_
                                    refine zr_iadd dL_law_588 ?_
                                    revert hf; refine zbi (fun x80 e_x80 hf => ?_)
                                    refine zq_sld hS1 hS2 dL_law_589 e_x80 ?_
                                    revert hf; refine zbi (fun q29 e_q29 hf => ?_)
                                    revert hf; refine zbi (fun x81 e_x81 hf => ?_)
                                    refine zq_callV (J' := jX11_rank) (as := [zi x80]) (rest := []) (r1 := (some (zi x81))) (q := (RX11, TX11, 6)) kw_849 km_X11_rank kt_719 dL_law_590 rfl (Nat.le_of_ble_eq_true rfl) rfl rfl e_q29 rfl (c_X11_rank hg e_x81) ?_
                                    refine zr_aload_n (v := .inl l2) dL_law_593 rfl rfl ?_
                                    refine zr_aload_n (v := .inr 8) dL_law_594 rfl rfl ?_
                                    refine zr_iload_n (x := l3) dL_law_595 rfl rfl ?_
                                    refine zr_iconst (v := (1 : Int32)) dL_law_596 (by decide) ?_
                                    refine zr_iadd dL_law_597 ?_
                                    revert hf; refine zbi (fun x82 e_x82 hf => ?_)
                                    refine zq_sld hS1 hS2 dL_law_598 e_x82 ?_
                                    revert hf; refine zbi (fun q30 e_q30 hf => ?_)
                                    revert hf; refine zbi (fun x83 e_x83 hf => ?_)
                                    refine zq_callV (J' := jX12_rank) (as := [zi x82]) (rest := [zi x81]) (r1 := (some (zi x83))) (q := (RX12, TX12, 31)) kw_853 km_X12_rank kt_721 dL_law_599 rfl (Nat.le_of_ble_eq_true rfl) rfl rfl e_q30 rfl (c_X12_rank hg e_x83) ?_
                                    by_cases hc31 : x81 = x83
                                    · rw [if_pos hc31] at hf
                                      refine zr_iceq_t (tgt := 920) dL_law_602 (by decide) hc31 ?_
                                      refine zq_iinc (x := l3) (y := (6 : Int32)) (L' := [some (zs 8), some (zr l1), some (zr l2), some (zi (l3 + (6 : Int32)))]) dL_law_920 rfl (by decide) (by decide) rfl ?_
                                      refine zr_goto (tgt := 18) dL_law_923 (by decide) ?_
                                      exact ih l1 l2 (l3 + (6 : Int32)) h r h' hf
                                    · rw [if_neg hc31] at hf
                                      refine zr_iceq_f 920 dL_law_602 (by decide) hc31 ?_
                                      refine zr_iconst (v := (0 : Int32)) dL_law_605 (by decide) ?_
                                      cases hf
                                      exact zr_ret _ rfl dL_law_606
                                  · rw [if_neg hc30] at hf
                                    by_cases hc32 : (x1 &&& (31 : Int32)) = (15 : Int32)
                                    · rw [if_pos hc32] at hf
                                      refine zr_tabIn (off := 574) (tgt := 607) dL_law_33 (by rw [hc32]; decide) (by rw [hc32]; rfl) (by decide) ?_
                                      refine zr_aload_n (v := .inl l1) dL_law_607 rfl rfl ?_
                                      refine zr_aload_n (v := .inr 8) dL_law_608 rfl rfl ?_
                                      refine zr_iload_n (x := l3) dL_law_609 rfl rfl ?_
                                      refine zr_iconst (v := (1 : Int32)) dL_law_610 (by decide) ?_
                                      refine zr_iadd dL_law_611 ?_
                                      revert hf; refine zbi (fun x84 e_x84 hf => ?_)
                                      refine zq_sld hS1 hS2 dL_law_612 e_x84 ?_
                                      revert hf; refine zbi (fun q31 e_q31 hf => ?_)
                                      revert hf; refine zbi2 (fun x85 h19 e_x85 hf => ?_)
                                      refine zq_callV (J' := jX11_today) (as := [zi x84]) (rest := []) (r1 := (some (zi x85))) (q := (RX11, TX11, 6)) kw_857 km_X11_today kt_723 dL_law_613 rfl (Nat.le_of_ble_eq_true rfl) rfl rfl e_q31 rfl (c_X11_today hg e_x85) ?_
                                      refine zr_aload_n (v := .inl l2) dL_law_616 rfl rfl ?_
                                      refine zr_aload_n (v := .inr 8) dL_law_617 rfl rfl ?_
                                      refine zr_iload_n (x := l3) dL_law_618 rfl rfl ?_
                                      refine zr_iconst (v := (1 : Int32)) dL_law_619 (by decide) ?_
                                      refine zr_iadd dL_law_620 ?_
                                      revert hf; refine zbi (fun x86 e_x86 hf => ?_)
                                      refine zq_sld hS1 hS2 dL_law_621 e_x86 ?_
                                      revert hf; refine zbi (fun q32 e_q32 hf => ?_)
                                      revert hf; refine zbi2 (fun x87 h20 e_x87 hf => ?_)
                                      refine zq_callV (J' := jX12_today) (as := [zi x86]) (rest := [zi x85]) (r1 := (some (zi x87))) (q := (RX12, TX12, 31)) kw_861 km_X12_today kt_725 dL_law_622 rfl (Nat.le_of_ble_eq_true rfl) rfl rfl e_q32 rfl (c_X12_today hg e_x87) ?_
                                      by_cases hc33 : x85 = x87
                                      · rw [if_pos hc33] at hf
                                        refine zr_iceq_t (tgt := 920) dL_law_625 (by decide) hc33 ?_
                                        refine zq_iinc (x := l3) (y := (6 : Int32)) (L' := [some (zs 8), some (zr l1), some (zr l2), some (zi (l3 + (6 : Int32)))]) dL_law_920 rfl (by decide) (by decide) rfl ?_
                                        refine zr_goto (tgt := 18) dL_law_923 (by decide) ?_
                                        exact ih l1 l2 (l3 + (6 : Int32)) h20 r h' hf
                                      · rw [if_neg hc33] at hf
                                        refine zr_iceq_f 920 dL_law_625 (by decide) hc33 ?_
                                        refine zr_iconst (v := (0 : Int32)) dL_law_628 (by decide) ?_
                                        cases hf
                                        exact zr_ret _ rfl dL_law_629
                                    · rw [if_neg hc32] at hf
                                      by_cases hc34 : (x1 &&& (31 : Int32)) = (16 : Int32)
                                      · rw [if_pos hc34] at hf
                                        refine zr_tabIn (off := 597) (tgt := 630) dL_law_33 (by rw [hc34]; decide) (by rw [hc34]; rfl) (by decide) ?_
                                        refine zr_aload_n (v := .inl l1) dL_law_630 rfl rfl ?_
                                        refine zr_aload_n (v := .inr 8) dL_law_631 rfl rfl ?_
                                        refine zr_iload_n (x := l3) dL_law_632 rfl rfl ?_
                                        refine zr_iconst (v := (1 : Int32)) dL_law_633 (by decide) ?_
                                        refine zr_iadd dL_law_634 ?_
                                        revert hf; refine zbi (fun x88 e_x88 hf => ?_)
                                        refine zq_sld hS1 hS2 dL_law_635 e_x88 ?_
                                        refine zr_aload_n (v := .inr 8) dL_law_636 rfl rfl ?_
                                        refine zr_iload_n (x := l3) dL_law_637 rfl rfl ?_
                                        refine zr_iconst (v := (2 : Int32)) dL_law_638 (by decide) ?_
                                        refine zr_iadd dL_law_639 ?_
                                        revert hf; refine zbi (fun x89 e_x89 hf => ?_)
                                        refine zq_sld hS1 hS2 dL_law_640 e_x89 ?_
                                        refine zr_aload_n (v := .inr 8) dL_law_641 rfl rfl ?_
                                        refine zr_iload_n (x := l3) dL_law_642 rfl rfl ?_
                                        refine zr_iconst (v := (3 : Int32)) dL_law_643 (by decide) ?_
                                        refine zr_iadd dL_law_644 ?_
                                        revert hf; refine zbi (fun x90 e_x90 hf => ?_)
                                        refine zq_sld hS1 hS2 dL_law_645 e_x90 ?_
                                        revert hf; refine zbi (fun q33 e_q33 hf => ?_)
                                        revert hf; refine zbi2 (fun x91 h21 e_x91 hf => ?_)
                                        refine zq_callV (J' := jX11_score) (as := [zi x88, zi x89, zi x90]) (rest := []) (r1 := (some (zi x91))) (q := (RX11, TX11, 6)) kw_865 km_X11_score kt_727 dL_law_646 rfl (Nat.le_of_ble_eq_true rfl) rfl rfl e_q33 rfl (c_X11_score hg e_x91) ?_
                                        refine zr_aload_n (v := .inl l2) dL_law_649 rfl rfl ?_
                                        refine zr_aload_n (v := .inr 8) dL_law_650 rfl rfl ?_
                                        refine zr_iload_n (x := l3) dL_law_651 rfl rfl ?_
                                        refine zr_iconst (v := (1 : Int32)) dL_law_652 (by decide) ?_
                                        refine zr_iadd dL_law_653 ?_
                                        revert hf; refine zbi (fun x92 e_x92 hf => ?_)
                                        refine zq_sld hS1 hS2 dL_law_654 e_x92 ?_
                                        refine zr_aload_n (v := .inr 8) dL_law_655 rfl rfl ?_
                                        refine zr_iload_n (x := l3) dL_law_656 rfl rfl ?_
                                        refine zr_iconst (v := (2 : Int32)) dL_law_657 (by decide) ?_
                                        refine zr_iadd dL_law_658 ?_
                                        revert hf; refine zbi (fun x93 e_x93 hf => ?_)
                                        refine zq_sld hS1 hS2 dL_law_659 e_x93 ?_
                                        refine zr_aload_n (v := .inr 8) dL_law_660 rfl rfl ?_
                                        refine zr_iload_n (x := l3) dL_law_661 rfl rfl ?_
                                        refine zr_iconst (v := (3 : Int32)) dL_law_662 (by decide) ?_
                                        refine zr_iadd dL_law_663 ?_
                                        revert hf; refine zbi (fun x94 e_x94 hf => ?_)
                                        refine zq_sld hS1 hS2 dL_law_664 e_x94 ?_
                                        revert hf; refine zbi (fun q34 e_q34 hf => ?_)
                                        revert hf; refine zbi2 (fun x95 h22 e_x95 hf => ?_)
                                        refine zq_callV (J' := jX12_score) (as := [zi x92, zi x93, zi x94]) (rest := [zi x91]) (r1 := (some (zi x95))) (q := (RX12, TX12, 31)) kw_869 km_X12_score kt_729 dL_law_665 rfl (Nat.le_of_ble_eq_true rfl) rfl rfl e_q34 rfl (c_X12_score hg e_x95) ?_
                                        by_cases hc35 : x91 = x95
                                        · rw [if_pos hc35] at hf
                                          refine zr_iceq_t (tgt := 920) dL_law_668 (by decide) hc35 ?_
                                          refine zq_iinc (x := l3) (y := (6 : Int32)) (L' := [some (zs 8), some (zr l1), some (zr l2), some (zi (l3 + (6 : Int32)))]) dL_law_920 rfl (by decide) (by decide) rfl ?_
                                          refine zr_goto (tgt := 18) dL_law_923 (by decide) ?_
                                          exact ih l1 l2 (l3 + (6 : Int32)) h22 r h' hf
                                        · rw [if_neg hc35] at hf
                                          refine zr_iceq_f 920 dL_law_668 (by decide) hc35 ?_
                                          refine zr_iconst (v := (0 : Int32)) dL_law_671 (by decide) ?_
                                          cases hf
                                          exact zr_ret _ rfl dL_law_672
                                      · rw [if_neg hc34] at hf
                                        by_cases hc36 : (x1 &&& (31 : Int32)) = (17 : Int32)
                                        · rw [if_pos hc36] at hf
                                          refine zr_tabIn (off := 640) (tgt := 673) dL_law_33 (by rw [hc36]; decide) (by rw [hc36]; rfl) (by decide) ?_
                                          refine zr_aload_n (v := .inl l1) dL_law_673 rfl rfl ?_
                                          refine zr_aload_n (v := .inr 8) dL_law_674 rfl rfl ?_
                                          refine zr_iload_n (x := l3) dL_law_675 rfl rfl ?_
                                          refine zr_iconst (v := (1 : Int32)) dL_law_676 (by decide) ?_
                                          refine zr_iadd dL_law_677 ?_
                                          revert hf; refine zbi (fun x96 e_x96 hf => ?_)
                                          refine zq_sld hS1 hS2 dL_law_678 e_x96 ?_
                                          refine zr_aload_n (v := .inr 8) dL_law_679 rfl rfl ?_
                                          refine zr_iload_n (x := l3) dL_law_680 rfl rfl ?_
                                          refine zr_iconst (v := (2 : Int32)) dL_law_681 (by decide) ?_
                                          refine zr_iadd dL_law_682 ?_
                                          revert hf; refine zbi (fun x97 e_x97 hf => ?_)
                                          refine zq_sld hS1 hS2 dL_law_683 e_x97 ?_
                                          revert hf; refine zbi (fun q35 e_q35 hf => ?_)
                                          revert hf; refine zbi2 (fun x98 h23 e_x98 hf => ?_)
                                          refine zq_callV (J' := jX11_strike) (as := [zi x96, zi x97]) (rest := []) (r1 := (some (zi x98))) (q := (RX11, TX11, 6)) kw_873 km_X11_strike kt_731 dL_law_684 rfl (Nat.le_of_ble_eq_true rfl) rfl rfl e_q35 rfl (c_X11_strike hg e_x98) ?_
                                          refine zr_aload_n (v := .inl l2) dL_law_687 rfl rfl ?_
                                          refine zr_aload_n (v := .inr 8) dL_law_688 rfl rfl ?_
                                          refine zr_iload_n (x := l3) dL_law_689 rfl rfl ?_
                                          refine zr_iconst (v := (1 : Int32)) dL_law_690 (by decide) ?_
                                          refine zr_iadd dL_law_691 ?_
                                          revert hf; refine zbi (fun x99 e_x99 hf => ?_)
                                          refine zq_sld hS1 hS2 dL_law_692 e_x99 ?_
                                          refine zr_aload_n (v := .inr 8) dL_law_693 rfl rfl ?_
                                          refine zr_iload_n (x := l3) dL_law_694 rfl rfl ?_
                                          refine zr_iconst (v := (2 : Int32)) dL_law_695 (by decide) ?_
                                          refine zr_iadd dL_law_696 ?_
                                          revert hf; refine zbi (fun x100 e_x100 hf => ?_)
                                          refine zq_sld hS1 hS2 dL_law_697 e_x100 ?_
                                          revert hf; refine zbi (fun q36 e_q36 hf => ?_)
                                          revert hf; refine zbi2 (fun x101 h24 e_x101 hf => ?_)
                                          refine zq_callV (J' := jX12_strike) (as := [zi x99, zi x100]) (rest := [zi x98]) (r1 := (some (zi x101))) (q := (RX12, TX12, 31)) kw_877 km_X12_strike kt_733 dL_law_698 rfl (Nat.le_of_ble_eq_true rfl) rfl rfl e_q36 rfl (c_X12_strike hg e_x101) ?_
                                          by_cases hc37 : x98 = x101
                                          · rw [if_pos hc37] at hf
                                            refine zr_iceq_t (tgt := 920) dL_law_701 (by decide) hc37 ?_
                                            refine zq_iinc (x := l3) (y := (6 : Int32)) (L' := [some (zs 8), some (zr l1), some (zr l2), some (zi (l3 + (6 : Int32)))]) dL_law_920 rfl (by decide) (by decide) rfl ?_
                                            refine zr_goto (tgt := 18) dL_law_923 (by decide) ?_
                                            exact ih l1 l2 (l3 + (6 : Int32)) h24 r h' hf
                                          · rw [if_neg hc37] at hf
                                            refine zr_iceq_f 920 dL_law_701 (by decide) hc37 ?_
                                            refine zr_iconst (v := (0 : Int32)) dL_law_704 (by decide) ?_
                                            cases hf
                                            exact zr_ret _ rfl dL_law_705
                                        · rw [if_neg hc36] at hf
                                          by_cases hc38 : (x1 &&& (31 : Int32)) = (18 : Int32)
                                          · rw [if_pos hc38] at hf
                                            refine zr_tabIn (off := 673) (tgt := 706) dL_law_33 (by rw [hc38]; decide) (by rw [hc38]; rfl) (by decide) ?_
                                            refine zr_aload_n (v := .inl l1) dL_law_706 rfl rfl ?_
                                            refine zr_aload_n (v := .inr 8) dL_law_707 rfl rfl ?_
                                            refine zr_iload_n (x := l3) dL_law_708 rfl rfl ?_
                                            refine zr_iconst (v := (1 : Int32)) dL_law_709 (by decide) ?_
                                            refine zr_iadd dL_law_710 ?_
                                            revert hf; refine zbi (fun x102 e_x102 hf => ?_)
                                            refine zq_sld hS1 hS2 dL_law_711 e_x102 ?_
                                            refine zr_aload_n (v := .inr 8) dL_law_712 rfl rfl ?_
                                            refine zr_iload_n (x := l3) dL_law_713 rfl rfl ?_
                                            refine zr_iconst (v := (2 : Int32)) dL_law_714 (by decide) ?_
                                            refine zr_iadd dL_law_715 ?_
                                            revert hf; refine zbi (fun x103 e_x103 hf => ?_)
                                            refine zq_sld hS1 hS2 dL_law_716 e_x103 ?_
                                            refine zr_aload_n (v := .inr 8) dL_law_717 rfl rfl ?_
                                            refine zr_iload_n (x := l3) dL_law_718 rfl rfl ?_
                                            refine zr_iconst (v := (3 : Int32)) dL_law_719 (by decide) ?_
                                            refine zr_iadd dL_law_720 ?_
                                            revert hf; refine zbi (fun x104 e_x104 hf => ?_)
                                            refine zq_sld hS1 hS2 dL_law_721 e_x104 ?_
                                            revert hf; refine zbi (fun q37 e_q37 hf => ?_)
                                            revert hf; refine zbi2 (fun x105 h25 e_x105 hf => ?_)
                                            refine zq_callV (J' := jX11_law) (as := [zi x102, zi x103, zi x104]) (rest := []) (r1 := (some (zi x105))) (q := (RX11, TX11, 6)) kw_881 km_X11_law kt_735 dL_law_722 rfl (Nat.le_of_ble_eq_true rfl) rfl rfl e_q37 rfl (c_X11_law hg e_x105) ?_
                                            refine zr_aload_n (v := .inl l2) dL_law_725 rfl rfl ?_
                                            refine zr_aload_n (v := .inr 8) dL_law_726 rfl rfl ?_
                                            refine zr_iload_n (x := l3) dL_law_727 rfl rfl ?_
                                            refine zr_iconst (v := (1 : Int32)) dL_law_728 (by decide) ?_
                                            refine zr_iadd dL_law_729 ?_
                                            revert hf; refine zbi (fun x106 e_x106 hf => ?_)
                                            refine zq_sld hS1 hS2 dL_law_730 e_x106 ?_
                                            refine zr_aload_n (v := .inr 8) dL_law_731 rfl rfl ?_
                                            refine zr_iload_n (x := l3) dL_law_732 rfl rfl ?_
                                            refine zr_iconst (v := (2 : Int32)) dL_law_733 (by decide) ?_
                                            refine zr_iadd dL_law_734 ?_
                                            revert hf; refine zbi (fun x107 e_x107 hf => ?_)
                                            refine zq_sld hS1 hS2 dL_law_735 e_x107 ?_
                                            refine zr_aload_n (v := .inr 8) dL_law_736 rfl rfl ?_
                                            refine zr_iload_n (x := l3) dL_law_737 rfl rfl ?_
                                            refine zr_iconst (v := (3 : Int32)) dL_law_738 (by decide) ?_
                                            refine zr_iadd dL_law_739 ?_
                                            revert hf; refine zbi (fun x108 e_x108 hf => ?_)
                                            refine zq_sld hS1 hS2 dL_law_740 e_x108 ?_
                                            revert hf; refine zbi (fun q38 e_q38 hf => ?_)
                                            revert hf; refine zbi2 (fun x109 h26 e_x109 hf => ?_)
                                            refine zq_callV (J' := jX12_law) (as := [zi x106, zi x107, zi x108]) (rest := [zi x105]) (r1 := (some (zi x109))) (q := (RX12, TX12, 31)) kw_885 km_X12_law kt_737 dL_law_741 rfl (Nat.le_of_ble_eq_true rfl) rfl rfl e_q38 rfl (c_X12_law hg e_x109) ?_
                                            by_cases hc39 : x105 = x109
                                            · rw [if_pos hc39] at hf
                                              refine zr_iceq_t (tgt := 920) dL_law_744 (by decide) hc39 ?_
                                              refine zq_iinc (x := l3) (y := (6 : Int32)) (L' := [some (zs 8), some (zr l1), some (zr l2), some (zi (l3 + (6 : Int32)))]) dL_law_920 rfl (by decide) (by decide) rfl ?_
                                              refine zr_goto (tgt := 18) dL_law_923 (by decide) ?_
                                              exact ih l1 l2 (l3 + (6 : Int32)) h26 r h' hf
                                            · rw [if_neg hc39] at hf
                                              refine zr_iceq_f 920 dL_law_744 (by decide) hc39 ?_
                                              refine zr_iconst (v := (0 : Int32)) dL_law_747 (by decide) ?_
                                              cases hf
                                              exact zr_ret _ rfl dL_law_748
                                          · rw [if_neg hc38] at hf
                                            by_cases hc40 : (x1 &&& (31 : Int32)) = (19 : Int32)
                                            · rw [if_pos hc40] at hf
                                              refine zr_tabIn (off := 716) (tgt := 749) dL_law_33 (by rw [hc40]; decide) (by rw [hc40]; rfl) (by decide) ?_
                                              refine zr_aload_n (v := .inl l1) dL_law_749 rfl rfl ?_
                                              refine zr_aload_n (v := .inr 8) dL_law_750 rfl rfl ?_
                                              refine zr_iload_n (x := l3) dL_law_751 rfl rfl ?_
                                              refine zr_iconst (v := (1 : Int32)) dL_law_752 (by decide) ?_
                                              refine zr_iadd dL_law_753 ?_
                                              revert hf; refine zbi (fun x110 e_x110 hf => ?_)
                                              refine zq_sld hS1 hS2 dL_law_754 e_x110 ?_
                                              refine zr_aload_n (v := .inr 8) dL_law_755 rfl rfl ?_
                                              refine zr_iload_n (x := l3) dL_law_756 rfl rfl ?_
                                              refine zr_iconst (v := (2 : Int32)) dL_law_757 (by decide) ?_
                                              refine zr_iadd dL_law_758 ?_
                                              revert hf; refine zbi (fun x111 e_x111 hf => ?_)
                                              refine zq_sld hS1 hS2 dL_law_759 e_x111 ?_
                                              refine zr_aload_n (v := .inr 8) dL_law_760 rfl rfl ?_
                                              refine zr_iload_n (x := l3) dL_law_761 rfl rfl ?_
                                              refine zr_iconst (v := (3 : Int32)) dL_law_762 (by decide) ?_
                                              refine zr_iadd dL_law_763 ?_
                                              revert hf; refine zbi (fun x112 e_x112 hf => ?_)
                                              refine zq_sld hS1 hS2 dL_law_764 e_x112 ?_
                                              revert hf; refine zbi (fun q39 e_q39 hf => ?_)
                                              revert hf; refine zbi (fun x113 e_x113 hf => ?_)
                                              refine zq_callV (J' := jX11_kind) (as := [zi x110, zi x111, zi x112]) (rest := []) (r1 := (some (zi x113))) (q := (RX11, TX11, 6)) kw_889 km_X11_kind kt_739 dL_law_765 rfl (Nat.le_of_ble_eq_true rfl) rfl rfl e_q39 rfl (c_X11_kind hg e_x113) ?_
                                              refine zr_aload_n (v := .inl l2) dL_law_768 rfl rfl ?_
                                              refine zr_aload_n (v := .inr 8) dL_law_769 rfl rfl ?_
                                              refine zr_iload_n (x := l3) dL_law_770 rfl rfl ?_
                                              refine zr_iconst (v := (1 : Int32)) dL_law_771 (by decide) ?_
                                              refine zr_iadd dL_law_772 ?_
                                              revert hf; refine zbi (fun x114 e_x114 hf => ?_)
                                              refine zq_sld hS1 hS2 dL_law_773 e_x114 ?_
                                              refine zr_aload_n (v := .inr 8) dL_law_774 rfl rfl ?_
                                              refine zr_iload_n (x := l3) dL_law_775 rfl rfl ?_
                                              refine zr_iconst (v := (2 : Int32)) dL_law_776 (by decide) ?_
                                              refine zr_iadd dL_law_777 ?_
                                              revert hf; refine zbi (fun x115 e_x115 hf => ?_)
                                              refine zq_sld hS1 hS2 dL_law_778 e_x115 ?_
                                              refine zr_aload_n (v := .inr 8) dL_law_779 rfl rfl ?_
                                              refine zr_iload_n (x := l3) dL_law_780 rfl rfl ?_
                                              refine zr_iconst (v := (3 : Int32)) dL_law_781 (by decide) ?_
                                              refine zr_iadd dL_law_782 ?_
                                              revert hf; refine zbi (fun x116 e_x116 hf => ?_)
                                              refine zq_sld hS1 hS2 dL_law_783 e_x116 ?_
                                              revert hf; refine zbi (fun q40 e_q40 hf => ?_)
                                              revert hf; refine zbi (fun x117 e_x117 hf => ?_)
                                              refine zq_callV (J' := jX12_kind) (as := [zi x114, zi x115, zi x116]) (rest := [zi x113]) (r1 := (some (zi x117))) (q := (RX12, TX12, 31)) kw_893 km_X12_kind kt_741 dL_law_784 rfl (Nat.le_of_ble_eq_true rfl) rfl rfl e_q40 rfl (c_X12_kind hg e_x117) ?_
                                              by_cases hc41 : x113 = x117
                                              · rw [if_pos hc41] at hf
                                                refine zr_iceq_t (tgt := 920) dL_law_787 (by decide) hc41 ?_
                                                refine zq_iinc (x := l3) (y := (6 : Int32)) (L' := [some (zs 8), some (zr l1), some (zr l2), some (zi (l3 + (6 : Int32)))]) dL_law_920 rfl (by decide) (by decide) rfl ?_
                                                refine zr_goto (tgt := 18) dL_law_923 (by decide) ?_
                                                exact ih l1 l2 (l3 + (6 : Int32)) h r h' hf
                                              · rw [if_neg hc41] at hf
                                                refine zr_iceq_f 920 dL_law_787 (by decide) hc41 ?_
                                                refine zr_iconst (v := (0 : Int32)) dL_law_790 (by decide) ?_
                                                cases hf
                                                exact zr_ret _ rfl dL_law_791
                                            · rw [if_neg hc40] at hf
                                              by_cases hc42 : (x1 &&& (31 : Int32)) = (20 : Int32)
                                              · rw [if_pos hc42] at hf
                                                refine zr_tabIn (off := 759) (tgt := 792) dL_law_33 (by rw [hc42]; decide) (by rw [hc42]; rfl) (by decide) ?_
                                                refine zr_aload_n (v := .inl l1) dL_law_792 rfl rfl ?_
                                                refine zr_aload_n (v := .inr 8) dL_law_793 rfl rfl ?_
                                                refine zr_iload_n (x := l3) dL_law_794 rfl rfl ?_
                                                refine zr_iconst (v := (1 : Int32)) dL_law_795 (by decide) ?_
                                                refine zr_iadd dL_law_796 ?_
                                                revert hf; refine zbi (fun x118 e_x118 hf => ?_)
                                                refine zq_sld hS1 hS2 dL_law_797 e_x118 ?_
                                                revert hf; refine zbi (fun q41 e_q41 hf => ?_)
                                                revert hf; refine zbi2 (fun x119 h27 e_x119 hf => ?_)
                                                refine zq_callV (J' := jX11_bay) (as := [zi x118]) (rest := []) (r1 := (some (zi x119))) (q := (RX11, TX11, 6)) kw_897 km_X11_bay kt_743 dL_law_798 rfl (Nat.le_of_ble_eq_true rfl) rfl rfl e_q41 rfl (c_X11_bay hg e_x119) ?_
                                                refine zr_aload_n (v := .inl l2) dL_law_801 rfl rfl ?_
                                                refine zr_aload_n (v := .inr 8) dL_law_802 rfl rfl ?_
                                                refine zr_iload_n (x := l3) dL_law_803 rfl rfl ?_
                                                refine zr_iconst (v := (1 : Int32)) dL_law_804 (by decide) ?_
                                                refine zr_iadd dL_law_805 ?_
                                                revert hf; refine zbi (fun x120 e_x120 hf => ?_)
                                                refine zq_sld hS1 hS2 dL_law_806 e_x120 ?_
                                                revert hf; refine zbi (fun q42 e_q42 hf => ?_)
                                                revert hf; refine zbi2 (fun x121 h28 e_x121 hf => ?_)
                                                refine zq_callV (J' := jX12_bay) (as := [zi x120]) (rest := [zi x119]) (r1 := (some (zi x121))) (q := (RX12, TX12, 31)) kw_901 km_X12_bay kt_745 dL_law_807 rfl (Nat.le_of_ble_eq_true rfl) rfl rfl e_q42 rfl (c_X12_bay hg e_x121) ?_
                                                by_cases hc43 : x119 = x121
                                                · rw [if_pos hc43] at hf
                                                  refine zr_iceq_t (tgt := 920) dL_law_810 (by decide) hc43 ?_
                                                  refine zq_iinc (x := l3) (y := (6 : Int32)) (L' := [some (zs 8), some (zr l1), some (zr l2), some (zi (l3 + (6 : Int32)))]) dL_law_920 rfl (by decide) (by decide) rfl ?_
                                                  refine zr_goto (tgt := 18) dL_law_923 (by decide) ?_
                                                  exact ih l1 l2 (l3 + (6 : Int32)) h28 r h' hf
                                                · rw [if_neg hc43] at hf
                                                  refine zr_iceq_f 920 dL_law_810 (by decide) hc43 ?_
                                                  refine zr_iconst (v := (0 : Int32)) dL_law_813 (by decide) ?_
                                                  cases hf
                                                  exact zr_ret _ rfl dL_law_814
                                              · rw [if_neg hc42] at hf
                                                by_cases hc44 : (x1 &&& (31 : Int32)) = (21 : Int32)
                                                · rw [if_pos hc44] at hf
                                                  refine zr_tabIn (off := 782) (tgt := 815) dL_law_33 (by rw [hc44]; decide) (by rw [hc44]; rfl) (by decide) ?_
                                                  refine zr_aload_n (v := .inl l1) dL_law_815 rfl rfl ?_
                                                  revert hf; refine zbi (fun q43 e_q43 hf => ?_)
                                                  revert hf; refine zbi2 (fun x122 h29 e_x122 hf => ?_)
                                                  refine zq_callV (J' := jX11_layout) (as := []) (rest := []) (r1 := (some (zi x122))) (q := (RX11, TX11, 6)) kw_905 km_X11_layout kt_747 dL_law_816 rfl (Nat.le_of_ble_eq_true rfl) rfl rfl e_q43 rfl (c_X11_layout hg e_x122) ?_
                                                  refine zr_aload_n (v := .inl l2) dL_law_819 rfl rfl ?_
                                                  revert hf; refine zbi (fun q44 e_q44 hf => ?_)
                                                  revert hf; refine zbi2 (fun x123 h30 e_x123 hf => ?_)
                                                  refine zq_callV (J' := jX12_layout) (as := []) (rest := [zi x122]) (r1 := (some (zi x123))) (q := (RX12, TX12, 31)) kw_909 km_X12_layout kt_749 dL_law_820 rfl (Nat.le_of_ble_eq_true rfl) rfl rfl e_q44 rfl (c_X12_layout hg e_x123) ?_
                                                  by_cases hc45 : x122 = x123
                                                  · rw [if_pos hc45] at hf
                                                    refine zr_iceq_t (tgt := 920) dL_law_823 (by decide) hc45 ?_
                                                    refine zq_iinc (x := l3) (y := (6 : Int32)) (L' := [some (zs 8), some (zr l1), some (zr l2), some (zi (l3 + (6 : Int32)))]) dL_law_920 rfl (by decide) (by decide) rfl ?_
                                                    refine zr_goto (tgt := 18) dL_law_923 (by decide) ?_
                                                    exact ih l1 l2 (l3 + (6 : Int32)) h30 r h' hf
                                                  · rw [if_neg hc45] at hf
                                                    refine zr_iceq_f 920 dL_law_823 (by decide) hc45 ?_
                                                    refine zr_iconst (v := (0 : Int32)) dL_law_826 (by decide) ?_
                                                    cases hf
                                                    exact zr_ret _ rfl dL_law_827
                                                · rw [if_neg hc44] at hf
                                                  by_cases hc46 : (x1 &&& (31 : Int32)) = (22 : Int32)
                                                  · rw [if_pos hc46] at hf
                                                    refine zr_tabIn (off := 795) (tgt := 828) dL_law_33 (by rw [hc46]; decide) (by rw [hc46]; rfl) (by decide) ?_
                                                    refine zr_aload_n (v := .inl l1) dL_law_828 rfl rfl ?_
                                                    refine zr_aload_n (v := .inr 8) dL_law_829 rfl rfl ?_
                                                    refine zr_iload_n (x := l3) dL_law_830 rfl rfl ?_
                                                    refine zr_iconst (v := (1 : Int32)) dL_law_831 (by decide) ?_
                                                    refine zr_iadd dL_law_832 ?_
                                                    revert hf; refine zbi (fun x124 e_x124 hf => ?_)
                                                    refine zq_sld hS1 hS2 dL_law_833 e_x124 ?_
                                                    revert hf; refine zbi (fun q45 e_q45 hf => ?_)
                                                    revert hf; refine zbi (fun x125 e_x125 hf => ?_)
                                                    refine zq_callV (J' := jX11_on) (as := [zi x124]) (rest := []) (r1 := (some (zi x125))) (q := (RX11, TX11, 6)) kw_913 km_X11_on kt_751 dL_law_834 rfl (Nat.le_of_ble_eq_true rfl) rfl rfl e_q45 rfl (c_X11_on hg e_x125) ?_
                                                    refine zr_aload_n (v := .inl l2) dL_law_837 rfl rfl ?_
                                                    refine zr_aload_n (v := .inr 8) dL_law_838 rfl rfl ?_
                                                    refine zr_iload_n (x := l3) dL_law_839 rfl rfl ?_
                                                    refine zr_iconst (v := (1 : Int32)) dL_law_840 (by decide) ?_
                                                    refine zr_iadd dL_law_841 ?_
                                                    revert hf; refine zbi (fun x126 e_x126 hf => ?_)
                                                    refine zq_sld hS1 hS2 dL_law_842 e_x126 ?_
                                                    revert hf; refine zbi (fun q46 e_q46 hf => ?_)
                                                    revert hf; refine zbi (fun x127 e_x127 hf => ?_)
                                                    refine zq_callV (J' := jX12_on) (as := [zi x126]) (rest := [zi x125]) (r1 := (some (zi x127))) (q := (RX12, TX12, 31)) kw_917 km_X12_on kt_753 dL_law_843 rfl (Nat.le_of_ble_eq_true rfl) rfl rfl e_q46 rfl (c_X12_on hg e_x127) ?_
                                                    by_cases hc47 : x125 = x127
                                                    · rw [if_pos hc47] at hf
                                                      refine zr_iceq_t (tgt := 920) dL_law_846 (by decide) hc47 ?_
                                                      refine zq_iinc (x := l3) (y := (6 : Int32)) (L' := [some (zs 8), some (zr l1), some (zr l2), some (zi (l3 + (6 : Int32)))]) dL_law_920 rfl (by decide) (by decide) rfl ?_
                                                      refine zr_goto (tgt := 18) dL_law_923 (by decide) ?_
                                                      exact ih l1 l2 (l3 + (6 : Int32)) h r h' hf
                                                    · rw [if_neg hc47] at hf
                                                      refine zr_iceq_f 920 dL_law_846 (by decide) hc47 ?_
                                                      refine zr_iconst (v := (0 : Int32)) dL_law_849 (by decide) ?_
                                                      cases hf
                                                      exact zr_ret _ rfl dL_law_850
                                                  · rw [if_neg hc46] at hf
                                                    by_cases hc48 : (x1 &&& (31 : Int32)) = (23 : Int32)
                                                    · rw [if_pos hc48] at hf
                                                      refine zr_tabIn (off := 818) (tgt := 851) dL_law_33 (by rw [hc48]; decide) (by rw [hc48]; rfl) (by decide) ?_
                                                      refine zr_aload_n (v := .inl l1) dL_law_851 rfl rfl ?_
                                                      refine zr_aload_n (v := .inr 8) dL_law_852 rfl rfl ?_
                                                      refine zr_iload_n (x := l3) dL_law_853 rfl rfl ?_
                                                      refine zr_iconst (v := (1 : Int32)) dL_law_854 (by decide) ?_
                                                      refine zr_iadd dL_law_855 ?_
                                                      revert hf; refine zbi (fun x128 e_x128 hf => ?_)
                                                      refine zq_sld hS1 hS2 dL_law_856 e_x128 ?_
                                                      refine zr_aload_n (v := .inr 8) dL_law_857 rfl rfl ?_
                                                      refine zr_iload_n (x := l3) dL_law_858 rfl rfl ?_
                                                      refine zr_iconst (v := (2 : Int32)) dL_law_859 (by decide) ?_
                                                      refine zr_iadd dL_law_860 ?_
                                                      revert hf; refine zbi (fun x129 e_x129 hf => ?_)
                                                      refine zq_sld hS1 hS2 dL_law_861 e_x129 ?_
                                                      revert hf; refine zbi (fun q47 e_q47 hf => ?_)
                                                      revert hf; refine zbi2 (fun x130 h31 e_x130 hf => ?_)
                                                      refine zq_callV (J' := jX11_lane) (as := [zi x128, zi x129]) (rest := []) (r1 := (some (zi x130))) (q := (RX11, TX11, 6)) kw_921 km_X11_lane kt_755 dL_law_862 rfl (Nat.le_of_ble_eq_true rfl) rfl rfl e_q47 rfl (c_X11_lane hg e_x130) ?_
                                                      refine zr_aload_n (v := .inl l2) dL_law_865 rfl rfl ?_
                                                      refine zr_aload_n (v := .inr 8) dL_law_866 rfl rfl ?_
                                                      refine zr_iload_n (x := l3) dL_law_867 rfl rfl ?_
                                                      refine zr_iconst (v := (1 : Int32)) dL_law_868 (by decide) ?_
                                                      refine zr_iadd dL_law_869 ?_
                                                      revert hf; refine zbi (fun x131 e_x131 hf => ?_)
                                                      refine zq_sld hS1 hS2 dL_law_870 e_x131 ?_
                                                      refine zr_aload_n (v := .inr 8) dL_law_871 rfl rfl ?_
                                                      refine zr_iload_n (x := l3) dL_law_872 rfl rfl ?_
                                                      refine zr_iconst (v := (2 : Int32)) dL_law_873 (by decide) ?_
                                                      refine zr_iadd dL_law_874 ?_
                                                      revert hf; refine zbi (fun x132 e_x132 hf => ?_)
                                                      refine zq_sld hS1 hS2 dL_law_875 e_x132 ?_
                                                      revert hf; refine zbi (fun q48 e_q48 hf => ?_)
                                                      revert hf; refine zbi2 (fun x133 h32 e_x133 hf => ?_)
                                                      refine zq_callV (J' := jX12_lane) (as := [zi x131, zi x132]) (rest := [zi x130]) (r1 := (some (zi x133))) (q := (RX12, TX12, 31)) kw_925 km_X12_lane kt_757 dL_law_876 rfl (Nat.le_of_ble_eq_true rfl) rfl rfl e_q48 rfl (c_X12_lane hg e_x133) ?_
                                                      by_cases hc49 : x130 = x133
                                                      · rw [if_pos hc49] at hf
                                                        refine zr_iceq_t (tgt := 920) dL_law_879 (by decide) hc49 ?_
                                                        refine zq_iinc (x := l3) (y := (6 : Int32)) (L' := [some (zs 8), some (zr l1), some (zr l2), some (zi (l3 + (6 : Int32)))]) dL_law_920 rfl (by decide) (by decide) rfl ?_
                                                        refine zr_goto (tgt := 18) dL_law_923 (by decide) ?_
                                                        exact ih l1 l2 (l3 + (6 : Int32)) h32 r h' hf
                                                      · rw [if_neg hc49] at hf
                                                        refine zr_iceq_f 920 dL_law_879 (by decide) hc49 ?_
                                                        refine zr_iconst (v := (0 : Int32)) dL_law_882 (by decide) ?_
                                                        cases hf
                                                        exact zr_ret _ rfl dL_law_883
                                                    · rw [if_neg hc48] at hf
                                                      by_cases hc50 : (x1 &&& (31 : Int32)) = (24 : Int32)
                                                      · rw [if_pos hc50] at hf
                                                        refine zr_tabIn (off := 851) (tgt := 884) dL_law_33 (by rw [hc50]; decide) (by rw [hc50]; rfl) (by decide) ?_
                                                        refine zr_aload_n (v := .inl l1) dL_law_884 rfl rfl ?_
                                                        refine zr_aload_n (v := .inr 8) dL_law_885 rfl rfl ?_
                                                        refine zr_iload_n (x := l3) dL_law_886 rfl rfl ?_
                                                        refine zr_iconst (v := (1 : Int32)) dL_law_887 (by decide) ?_
                                                        refine zr_iadd dL_law_888 ?_
                                                        revert hf; refine zbi (fun x134 e_x134 hf => ?_)
                                                        refine zq_sld hS1 hS2 dL_law_889 e_x134 ?_
                                                        revert hf; refine zbi (fun q49 e_q49 hf => ?_)
                                                        revert hf; refine zbi (fun x135 e_x135 hf => ?_)
                                                        refine zq_callV (J' := jX11_state) (as := [zi x134]) (rest := []) (r1 := (some (zi x135))) (q := (RX11, TX11, 6)) kw_929 km_X11_state kt_759 dL_law_890 rfl (Nat.le_of_ble_eq_true rfl) rfl rfl e_q49 rfl (c_X11_state hg e_x135) ?_
                                                        refine zr_aload_n (v := .inl l2) dL_law_893 rfl rfl ?_
                                                        refine zr_aload_n (v := .inr 8) dL_law_894 rfl rfl ?_
                                                        refine zr_iload_n (x := l3) dL_law_895 rfl rfl ?_
                                                        refine zr_iconst (v := (1 : Int32)) dL_law_896 (by decide) ?_
                                                        refine zr_iadd dL_law_897 ?_
                                                        revert hf; refine zbi (fun x136 e_x136 hf => ?_)
                                                        refine zq_sld hS1 hS2 dL_law_898 e_x136 ?_
                                                        revert hf; refine zbi (fun q50 e_q50 hf => ?_)
                                                        revert hf; refine zbi (fun x137 e_x137 hf => ?_)
                                                        refine zq_callV (J' := jX12_state) (as := [zi x136]) (rest := [zi x135]) (r1 := (some (zi x137))) (q := (RX12, TX12, 31)) kw_933 km_X12_state kt_761 dL_law_899 rfl (Nat.le_of_ble_eq_true rfl) rfl rfl e_q50 rfl (c_X12_state hg e_x137) ?_
                                                        by_cases hc51 : x135 = x137
                                                        · rw [if_pos hc51] at hf
                                                          refine zr_iceq_t (tgt := 920) dL_law_902 (by decide) hc51 ?_
                                                          refine zq_iinc (x := l3) (y := (6 : Int32)) (L' := [some (zs 8), some (zr l1), some (zr l2), some (zi (l3 + (6 : Int32)))]) dL_law_920 rfl (by decide) (by decide) rfl ?_
                                                          refine zr_goto (tgt := 18) dL_law_923 (by decide) ?_
                                                          exact ih l1 l2 (l3 + (6 : Int32)) h r h' hf
                                                        · rw [if_neg hc51] at hf
                                                          refine zr_iceq_f 920 dL_law_902 (by decide) hc51 ?_
                                                          refine zr_iconst (v := (0 : Int32)) dL_law_905 (by decide) ?_
                                                          cases hf
                                                          exact zr_ret _ rfl dL_law_906
                                                      · rw [if_neg hc50] at hf
                                                        by_cases hc52 : (x1 &&& (31 : Int32)) = (25 : Int32)
                                                        · rw [if_pos hc52] at hf
                                                          refine zr_tabIn (off := 874) (tgt := 907) dL_law_33 (by rw [hc52]; decide) (by rw [hc52]; rfl) (by decide) ?_
                                                          refine zr_aload_n (v := .inl l1) dL_law_907 rfl rfl ?_
                                                          revert hf; refine zbi (fun q51 e_q51 hf => ?_)
                                                          revert hf; refine zbi2 (fun x138 h33 e_x138 hf => ?_)
                                                          refine zq_callV (J' := jX11_undo) (as := []) (rest := []) (r1 := (some (zi x138))) (q := (RX11, TX11, 6)) kw_937 km_X11_undo kt_763 dL_law_908 rfl (Nat.le_of_ble_eq_true rfl) rfl rfl e_q51 rfl (c_X11_undo hg e_x138) ?_
                                                          refine zr_aload_n (v := .inl l2) dL_law_911 rfl rfl ?_
                                                          revert hf; refine zbi (fun q52 e_q52 hf => ?_)
                                                          revert hf; refine zbi2 (fun x139 h34 e_x139 hf => ?_)
                                                          refine zq_callV (J' := jX12_undo) (as := []) (rest := [zi x138]) (r1 := (some (zi x139))) (q := (RX12, TX12, 31)) kw_941 km_X12_undo kt_765 dL_law_912 rfl (Nat.le_of_ble_eq_true rfl) rfl rfl e_q52 rfl (c_X12_undo hg e_x139) ?_
                                                          by_cases hc53 : x138 = x139
                                                          · rw [if_pos hc53] at hf
                                                            refine zr_iceq_t (tgt := 920) dL_law_915 (by decide) hc53 ?_
                                                            refine zq_iinc (x := l3) (y := (6 : Int32)) (L' := [some (zs 8), some (zr l1), some (zr l2), some (zi (l3 + (6 : Int32)))]) dL_law_920 rfl (by decide) (by decide) rfl ?_
                                                            refine zr_goto (tgt := 18) dL_law_923 (by decide) ?_
                                                            exact ih l1 l2 (l3 + (6 : Int32)) h34 r h' hf
                                                          · rw [if_neg hc53] at hf
                                                            refine zr_iceq_f 920 dL_law_915 (by decide) hc53 ?_
                                                            refine zr_iconst (v := (0 : Int32)) dL_law_918 (by decide) ?_
                                                            cases hf
                                                            exact zr_ret _ rfl dL_law_919
                                                        · rw [if_neg hc52] at hf
                                                          refine zr_tabOut (tgt := 920) dL_law_33 (fun q => by have n0 := zne (n := 0) hc2 (by decide); have n1 := zne (n := 1) hc4 (by decide); have n2 := zne (n := 2) hc6 (by decide); have n3 := zne (n := 3) hc8 (by decide); have n4 := zne (n := 4) hc10 (by decide); have n5 := zne (n := 5) hc12 (by decide); have n6 := zne (n := 6) hc14 (by decide); have n7 := zne (n := 7) hc16 (by decide); have n8 := zne (n := 8) hc18 (by decide); have n9 := zne (n := 9) hc20 (by decide); have n10 := zne (n := 10) hc22 (by decide); have n11 := zne (n := 11) hc24 (by decide); have n12 := zne (n := 12) hc26 (by decide); have n13 := zne (n := 13) hc28 (by decide); have n14 := zne (n := 14) hc30 (by decide); have n15 := zne (n := 15) hc32 (by decide); have n16 := zne (n := 16) hc34 (by decide); have n17 := zne (n := 17) hc36 (by decide); have n18 := zne (n := 18) hc38 (by decide); have n19 := zne (n := 19) hc40 (by decide); have n20 := zne (n := 20) hc42 (by decide); have n21 := zne (n := 21) hc44 (by decide); have n22 := zne (n := 22) hc46 (by decide); have n23 := zne (n := 23) hc48 (by decide); have n24 := zne (n := 24) hc50 (by decide); have n25 := zne (n := 25) hc52 (by decide); omega) (by decide) ?_
                                                          refine zq_iinc (x := l3) (y := (6 : Int32)) (L' := [some (zs 8), some (zr l1), some (zr l2), some (zi (l3 + (6 : Int32)))]) dL_law_920 rfl (by decide) (by decide) rfl ?_
                                                          refine zr_goto (tgt := 18) dL_law_923 (by decide) ?_
                                                          exact ih l1 l2 (l3 + (6 : Int32)) h r h' hf
def f_L_law (N : Nat) (nS : Nat) (xS : Nat → Int32) (h : zH) : Option (Int32 × zH) := znw h (.inr (11, [zr none, zr none, zr none, zr none, zi 0, zr none])) fun a1 h1 => (f_X11_init N a1 h1).bind fun h2 => znw h2 (.inr (12, [zr none, zi 0, zr none, zi 0, zi 0, zi 0, zi 0, zi 0, zi 0, zi 0, zi 0, zi 0, zi 0, zr none, zr none, zr none, zr none, zr none, zr none, zr none, zr none, zr none, zr none, zi 0, zr none, zr none, zr none, zr none, zi 0, zr none, zr none])) fun a2 h3 => (f_X12_init N a2 h3).bind fun h4 => f_L_law_18 N nS xS N (some a1) (some a2) (0 : Int32) h4
set_option maxHeartbeats 4000000 in
set_option maxRecDepth 100000 in
theorem s_L_law {g : zG} (hg : g.2.1.map (fun q => q.2) = zty) {h0 : zH} (N : Nat) (nS : Nat) (xS : Nat → Int32) (hS1 : g.2.2.2.2.2.1 = nS) (hS2 : g.2.2.2.2.2.2 = xS)  (h : zH) (r : Int32) (h' : zH) (hf : f_L_law N nS xS  h = some (r, h')) : zR g jL_law h0 0 [some (zs 8), none, none, none] [] h (some (zi r)) h' := by
  unfold f_L_law at hf
  obtain ⟨a1, h1, e_a1, e_h1, hf⟩ := znw_spec hf
  refine zq_new kn_766 dL_law_0 e_a1 e_h1 ?_
  refine zr_dup dL_law_3 ?_
  revert hf; refine zbi (fun h2 e_h2 hf => ?_)
  refine zq_callI (J' := jX11_init) (as := []) (rest := [zr (some a1)]) (r1 := none) (a := a1) kw_947 km_X11_init kt_768 dL_law_4 rfl (Nat.le_of_ble_eq_true rfl) rfl (c_X11_init hg e_h2) ?_
  refine zq_astore_n (v := .inl (some a1)) (L' := [some (zs 8), some (zr (some a1)), none, none]) dL_law_7 rfl (by decide) rfl ?_
  obtain ⟨a2, h3, e_a2, e_h3, hf⟩ := znw_spec hf
  refine zq_new kn_769 dL_law_8 e_a2 e_h3 ?_
  refine zr_dup dL_law_11 ?_
  revert hf; refine zbi (fun h4 e_h4 hf => ?_)
  refine zq_callI (J' := jX12_init) (as := []) (rest := [zr (some a2)]) (r1 := none) (a := a2) kw_952 km_X12_init kt_771 dL_law_12 rfl (Nat.le_of_ble_eq_true rfl) rfl (c_X12_init hg e_h4) ?_
  refine zq_astore_n (v := .inl (some a2)) (L' := [some (zs 8), some (zr (some a1)), some (zr (some a2)), none]) dL_law_15 rfl (by decide) rfl ?_
  refine zr_iconst (v := (0 : Int32)) dL_law_16 (by decide) ?_
  refine zq_istore_n (x := (0 : Int32)) (L' := [some (zs 8), some (zr (some a1)), some (zr (some a2)), some (zi (0 : Int32))]) dL_law_17 rfl (by decide) rfl ?_
  exact s_L_law_18 hg N nS xS hS1 hS2 N (some a1) (some a2) (0 : Int32) h4 r h' hf
