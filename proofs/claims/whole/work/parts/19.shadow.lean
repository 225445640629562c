theorem dX12_of_0 : decode cX12_of 0 = .ok (.aload_n 0, 1) := by decide +kernel
theorem dX12_of_1 : decode cX12_of 1 = .ok (.getfield 8, 3) := by decide +kernel
theorem dX12_of_4 : decode cX12_of 4 = .ok (.iconst 0, 1) := by decide +kernel
theorem dX12_of_5 : decode cX12_of 5 = .ok (.iaload, 1) := by decide +kernel
theorem dX12_of_6 : decode cX12_of 6 = .ok (.ifCond .ne 5, 3) := by decide +kernel
theorem dX12_of_9 : decode cX12_of 9 = .ok (.iconst (-1), 1) := by decide +kernel
theorem dX12_of_10 : decode cX12_of 10 = .ok (.ireturn, 1) := by decide +kernel
theorem dX12_of_11 : decode cX12_of 11 = .ok (.iconst 0, 1) := by decide +kernel
theorem dX12_of_12 : decode cX12_of 12 = .ok (.istore_n 2, 1) := by decide +kernel
theorem dX12_of_13 : decode cX12_of 13 = .ok (.iconst 0, 1) := by decide +kernel
theorem dX12_of_14 : decode cX12_of 14 = .ok (.istore_n 3, 1) := by decide +kernel
theorem dX12_of_15 : decode cX12_of 15 = .ok (.iconst 0, 1) := by decide +kernel
theorem dX12_of_16 : decode cX12_of 16 = .ok (.istore 4, 2) := by decide +kernel
theorem dX12_of_18 : decode cX12_of 18 = .ok (.iload 4, 2) := by decide +kernel
theorem dX12_of_20 : decode cX12_of 20 = .ok (.aload_n 0, 1) := by decide +kernel
theorem dX12_of_21 : decode cX12_of 21 = .ok (.getfield 8, 3) := by decide +kernel
theorem dX12_of_24 : decode cX12_of 24 = .ok (.iconst 1, 1) := by decide +kernel
theorem dX12_of_25 : decode cX12_of 25 = .ok (.iaload, 1) := by decide +kernel
theorem dX12_of_26 : decode cX12_of 26 = .ok (.if_icmp .ge 51, 3) := by decide +kernel
theorem dX12_of_29 : decode cX12_of 29 = .ok (.iload_n 2, 1) := by decide +kernel
theorem dX12_of_30 : decode cX12_of 30 = .ok (.aload_n 0, 1) := by decide +kernel
theorem dX12_of_31 : decode cX12_of 31 = .ok (.getfield 8, 3) := by decide +kernel
theorem dX12_of_34 : decode cX12_of 34 = .ok (.iconst 2, 1) := by decide +kernel
theorem dX12_of_35 : decode cX12_of 35 = .ok (.iconst 3, 1) := by decide +kernel
theorem dX12_of_36 : decode cX12_of 36 = .ok (.iload 4, 2) := by decide +kernel
theorem dX12_of_38 : decode cX12_of 38 = .ok (.imul, 1) := by decide +kernel
theorem dX12_of_39 : decode cX12_of 39 = .ok (.iadd, 1) := by decide +kernel
theorem dX12_of_40 : decode cX12_of 40 = .ok (.iaload, 1) := by decide +kernel
theorem dX12_of_41 : decode cX12_of 41 = .ok (.iadd, 1) := by decide +kernel
theorem dX12_of_42 : decode cX12_of 42 = .ok (.istore_n 2, 1) := by decide +kernel
theorem dX12_of_43 : decode cX12_of 43 = .ok (.iload_n 3, 1) := by decide +kernel
theorem dX12_of_44 : decode cX12_of 44 = .ok (.aload_n 0, 1) := by decide +kernel
theorem dX12_of_45 : decode cX12_of 45 = .ok (.getfield 8, 3) := by decide +kernel
theorem dX12_of_48 : decode cX12_of 48 = .ok (.iconst 2, 1) := by decide +kernel
theorem dX12_of_49 : decode cX12_of 49 = .ok (.iconst 3, 1) := by decide +kernel
theorem dX12_of_50 : decode cX12_of 50 = .ok (.iload 4, 2) := by decide +kernel
theorem dX12_of_52 : decode cX12_of 52 = .ok (.imul, 1) := by decide +kernel
theorem dX12_of_53 : decode cX12_of 53 = .ok (.iadd, 1) := by decide +kernel
theorem dX12_of_54 : decode cX12_of 54 = .ok (.iaload, 1) := by decide +kernel
theorem dX12_of_55 : decode cX12_of 55 = .ok (.aload_n 0, 1) := by decide +kernel
theorem dX12_of_56 : decode cX12_of 56 = .ok (.getfield 8, 3) := by decide +kernel
theorem dX12_of_59 : decode cX12_of 59 = .ok (.iconst 2, 1) := by decide +kernel
theorem dX12_of_60 : decode cX12_of 60 = .ok (.iconst 3, 1) := by decide +kernel
theorem dX12_of_61 : decode cX12_of 61 = .ok (.iload 4, 2) := by decide +kernel
theorem dX12_of_63 : decode cX12_of 63 = .ok (.imul, 1) := by decide +kernel
theorem dX12_of_64 : decode cX12_of 64 = .ok (.iadd, 1) := by decide +kernel
theorem dX12_of_65 : decode cX12_of 65 = .ok (.iconst 1, 1) := by decide +kernel
theorem dX12_of_66 : decode cX12_of 66 = .ok (.iadd, 1) := by decide +kernel
theorem dX12_of_67 : decode cX12_of 67 = .ok (.iaload, 1) := by decide +kernel
theorem dX12_of_68 : decode cX12_of 68 = .ok (.imul, 1) := by decide +kernel
theorem dX12_of_69 : decode cX12_of 69 = .ok (.iadd, 1) := by decide +kernel
theorem dX12_of_70 : decode cX12_of 70 = .ok (.istore_n 3, 1) := by decide +kernel
theorem dX12_of_71 : decode cX12_of 71 = .ok (.iinc 4 1, 3) := by decide +kernel
theorem dX12_of_74 : decode cX12_of 74 = .ok (.goto (-56), 3) := by decide +kernel
theorem dX12_of_77 : decode cX12_of 77 = .ok (.iload_n 1, 1) := by decide +kernel
theorem dX12_of_78 : decode cX12_of 78 = .ok (.tableswitch 97 0 7 #[46, 53, 55, 57, 65, 73, 81, 89], 46) := by decide +kernel
theorem dX12_of_124 : decode cX12_of 124 = .ok (.aload_n 0, 1) := by decide +kernel
theorem dX12_of_125 : decode cX12_of 125 = .ok (.getfield 8, 3) := by decide +kernel
theorem dX12_of_128 : decode cX12_of 128 = .ok (.iconst 1, 1) := by decide +kernel
theorem dX12_of_129 : decode cX12_of 129 = .ok (.iaload, 1) := by decide +kernel
theorem dX12_of_130 : decode cX12_of 130 = .ok (.ireturn, 1) := by decide +kernel
theorem dX12_of_131 : decode cX12_of 131 = .ok (.iload_n 2, 1) := by decide +kernel
theorem dX12_of_132 : decode cX12_of 132 = .ok (.ireturn, 1) := by decide +kernel
theorem dX12_of_133 : decode cX12_of 133 = .ok (.iload_n 3, 1) := by decide +kernel
theorem dX12_of_134 : decode cX12_of 134 = .ok (.ireturn, 1) := by decide +kernel
theorem dX12_of_135 : decode cX12_of 135 = .ok (.aload_n 0, 1) := by decide +kernel
theorem dX12_of_136 : decode cX12_of 136 = .ok (.getfield 8, 3) := by decide +kernel
theorem dX12_of_139 : decode cX12_of 139 = .ok (.bipush 14, 2) := by decide +kernel
theorem dX12_of_141 : decode cX12_of 141 = .ok (.iaload, 1) := by decide +kernel
theorem dX12_of_142 : decode cX12_of 142 = .ok (.ireturn, 1) := by decide +kernel
theorem dX12_of_143 : decode cX12_of 143 = .ok (.aload_n 0, 1) := by decide +kernel
theorem dX12_of_144 : decode cX12_of 144 = .ok (.getfield 8, 3) := by decide +kernel
theorem dX12_of_147 : decode cX12_of 147 = .ok (.bipush 115, 2) := by decide +kernel
theorem dX12_of_149 : decode cX12_of 149 = .ok (.iaload, 1) := by decide +kernel
theorem dX12_of_150 : decode cX12_of 150 = .ok (.ireturn, 1) := by decide +kernel
theorem dX12_of_151 : decode cX12_of 151 = .ok (.aload_n 0, 1) := by decide +kernel
theorem dX12_of_152 : decode cX12_of 152 = .ok (.getfield 8, 3) := by decide +kernel
theorem dX12_of_155 : decode cX12_of 155 = .ok (.bipush 122, 2) := by decide +kernel
theorem dX12_of_157 : decode cX12_of 157 = .ok (.iaload, 1) := by decide +kernel
theorem dX12_of_158 : decode cX12_of 158 = .ok (.ireturn, 1) := by decide +kernel
theorem dX12_of_159 : decode cX12_of 159 = .ok (.aload_n 0, 1) := by decide +kernel
theorem dX12_of_160 : decode cX12_of 160 = .ok (.getfield 8, 3) := by decide +kernel
theorem dX12_of_163 : decode cX12_of 163 = .ok (.bipush 123, 2) := by decide +kernel
theorem dX12_of_165 : decode cX12_of 165 = .ok (.iaload, 1) := by decide +kernel
theorem dX12_of_166 : decode cX12_of 166 = .ok (.ireturn, 1) := by decide +kernel
theorem dX12_of_167 : decode cX12_of 167 = .ok (.aload_n 0, 1) := by decide +kernel
theorem dX12_of_168 : decode cX12_of 168 = .ok (.getfield 8, 3) := by decide +kernel
theorem dX12_of_171 : decode cX12_of 171 = .ok (.bipush 124, 2) := by decide +kernel
theorem dX12_of_173 : decode cX12_of 173 = .ok (.iaload, 1) := by decide +kernel
theorem dX12_of_174 : decode cX12_of 174 = .ok (.ireturn, 1) := by decide +kernel
theorem dX12_of_175 : decode cX12_of 175 = .ok (.iconst (-1), 1) := by decide +kernel
theorem dX12_of_176 : decode cX12_of 176 = .ok (.ireturn, 1) := by decide +kernel
def f_X12_of_18 (N : Nat) : Nat → Nat → Int32 → Int32 → Int32 → Int32 → zH → Option Int32
  | 0, _, _, _, _, _, _ => none
  | n + 1, l0, l1, l2, l3, l4, h => (zgR h 12 (some l0) 0).bind fun x1 => (zld h 0 x1 (1 : Int32)).bind fun x2 => if x2 ≤ l4 then if l1 = (0 : Int32) then (zgR h 12 (some l0) 0).bind fun x3 => (zld h 0 x3 (1 : Int32)).bind fun x4 => some x4 else if l1 = (1 : Int32) then some l2 else if l1 = (2 : Int32) then some l3 else if l1 = (3 : Int32) then (zgR h 12 (some l0) 0).bind fun x5 => (zld h 0 x5 (14 : Int32)).bind fun x6 => some x6 else if l1 = (4 : Int32) then (zgR h 12 (some l0) 0).bind fun x7 => (zld h 0 x7 (115 : Int32)).bind fun x8 => some x8 else if l1 = (5 : Int32) then (zgR h 12 (some l0) 0).bind fun x9 => (zld h 0 x9 (122 : Int32)).bind fun x10 => some x10 else if l1 = (6 : Int32) then (zgR h 12 (some l0) 0).bind fun x11 => (zld h 0 x11 (123 : Int32)).bind fun x12 => some x12 else if l1 = (7 : Int32) then (zgR h 12 (some l0) 0).bind fun x13 => (zld h 0 x13 (124 : Int32)).bind fun x14 => some x14 else some ((-1) : Int32) else (zgR h 12 (some l0) 0).bind fun x15 => (zld h 0 x15 ((2 : Int32) + ((3 : Int32) * l4))).bind fun x16 => (zgR h 12 (some l0) 0).bind fun x17 => (zld h 0 x17 ((2 : Int32) + ((3 : Int32) * l4))).bind fun x18 => (zgR h 12 (some l0) 0).bind fun x19 => (zld h 0 x19 (((2 : Int32) + ((3 : Int32) * l4)) + (1 : Int32))).bind fun x20 => f_X12_of_18 N n l0 l1 (l2 + x16) (l3 + (x18 * x20)) (l4 + (1 : Int32)) h
set_option maxHeartbeats 4000000 in
set_option maxRecDepth 100000 in
theorem s_X12_of_18 {g : zG} (hg : g.2.1.map (fun q => q.2) = zty) {h0 : zH} (N : Nat) : ∀ (n : Nat) (l0 : Nat) (l1 : Int32) (l2 : Int32) (l3 : Int32) (l4 : Int32) (h : zH) (r : Int32), f_X12_of_18 N n l0 l1 l2 l3 l4 h = some r → zR g jX12_of h0 18 [some (zr (some l0)), some (zi l1), some (zi l2), some (zi l3), some (zi l4)] [] h (some (zi r)) h := by
  intro n
  induction n with
  | zero =>
    intro l0 l1 l2 l3 l4 h r hf
    cases hf
  | succ n ih =>
    intro l0 l1 l2 l3 l4 h r hf
    rw [f_X12_of_18] at hf
    refine zr_iload (x := l4) dX12_of_18 rfl ?_
    refine zr_aload_n (v := .inl (some l0)) dX12_of_20 rfl rfl ?_
    revert hf; refine zbi (fun x1 e_x1 hf => ?_)
    refine zq_getR kg_490 dX12_of_21 e_x1 ?_
    refine zr_iconst (v := (1 : Int32)) dX12_of_24 (by decide) ?_
    revert hf; refine zbi (fun x2 e_x2 hf => ?_)
    refine zq_iald dX12_of_25 e_x2 ?_
    by_cases hc1 : x2 ≤ l4
    · rw [if_pos hc1] at hf
      refine zr_icge_t (tgt := 77) dX12_of_26 (by decide) hc1 ?_
      refine zr_iload_n (x := l1) dX12_of_77 rfl rfl ?_
      by_cases hc2 : l1 = (0 : Int32)
      · rw [if_pos hc2] at hf
        refine zr_tabIn (off := 46) (tgt := 124) dX12_of_78 (by rw [hc2]; decide) (by rw [hc2]; rfl) (by decide) ?_
        refine zr_aload_n (v := .inl (some l0)) dX12_of_124 rfl rfl ?_
        revert hf; refine zbi (fun x3 e_x3 hf => ?_)
        refine zq_getR kg_490 dX12_of_125 e_x3 ?_
        refine zr_iconst (v := (1 : Int32)) dX12_of_128 (by decide) ?_
        revert hf; refine zbi (fun x4 e_x4 hf => ?_)
        refine zq_iald dX12_of_129 e_x4 ?_
        cases hf
        exact zr_ret _ rfl dX12_of_130
      · rw [if_neg hc2] at hf
        by_cases hc3 : l1 = (1 : Int32)
        · rw [if_pos hc3] at hf
          refine zr_tabIn (off := 53) (tgt := 131) dX12_of_78 (by rw [hc3]; decide) (by rw [hc3]; rfl) (by decide) ?_
          refine zr_iload_n (x := l2) dX12_of_131 rfl rfl ?_
          cases hf
          exact zr_ret _ rfl dX12_of_132
        · rw [if_neg hc3] at hf
          by_cases hc4 : l1 = (2 : Int32)
          · rw [if_pos hc4] at hf
            refine zr_tabIn (off := 55) (tgt := 133) dX12_of_78 (by rw [hc4]; decide) (by rw [hc4]; rfl) (by decide) ?_
            refine zr_iload_n (x := l3) dX12_of_133 rfl rfl ?_
            cases hf
            exact zr_ret _ rfl dX12_of_134
          · rw [if_neg hc4] at hf
            by_cases hc5 : l1 = (3 : Int32)
            · rw [if_pos hc5] at hf
              refine zr_tabIn (off := 57) (tgt := 135) dX12_of_78 (by rw [hc5]; decide) (by rw [hc5]; rfl) (by decide) ?_
              refine zr_aload_n (v := .inl (some l0)) dX12_of_135 rfl rfl ?_
              revert hf; refine zbi (fun x5 e_x5 hf => ?_)
              refine zq_getR kg_490 dX12_of_136 e_x5 ?_
              refine zr_bipush (v := (14 : Int32)) dX12_of_139 (by decide) ?_
              revert hf; refine zbi (fun x6 e_x6 hf => ?_)
              refine zq_iald dX12_of_141 e_x6 ?_
              cases hf
              exact zr_ret _ rfl dX12_of_142
            · rw [if_neg hc5] at hf
              by_cases hc6 : l1 = (4 : Int32)
              · rw [if_pos hc6] at hf
                refine zr_tabIn (off := 65) (tgt := 143) dX12_of_78 (by rw [hc6]; decide) (by rw [hc6]; rfl) (by decide) ?_
                refine zr_aload_n (v := .inl (some l0)) dX12_of_143 rfl rfl ?_
                revert hf; refine zbi (fun x7 e_x7 hf => ?_)
                refine zq_getR kg_490 dX12_of_144 e_x7 ?_
                refine zr_bipush (v := (115 : Int32)) dX12_of_147 (by decide) ?_
                revert hf; refine zbi (fun x8 e_x8 hf => ?_)
                refine zq_iald dX12_of_149 e_x8 ?_
                cases hf
                exact zr_ret _ rfl dX12_of_150
              · rw [if_neg hc6] at hf
                by_cases hc7 : l1 = (5 : Int32)
                · rw [if_pos hc7] at hf
                  refine zr_tabIn (off := 73) (tgt := 151) dX12_of_78 (by rw [hc7]; decide) (by rw [hc7]; rfl) (by decide) ?_
                  refine zr_aload_n (v := .inl (some l0)) dX12_of_151 rfl rfl ?_
                  revert hf; refine zbi (fun x9 e_x9 hf => ?_)
                  refine zq_getR kg_490 dX12_of_152 e_x9 ?_
                  refine zr_bipush (v := (122 : Int32)) dX12_of_155 (by decide) ?_
                  revert hf; refine zbi (fun x10 e_x10 hf => ?_)
                  refine zq_iald dX12_of_157 e_x10 ?_
                  cases hf
                  exact zr_ret _ rfl dX12_of_158
                · rw [if_neg hc7] at hf
                  by_cases hc8 : l1 = (6 : Int32)
                  · rw [if_pos hc8] at hf
                    refine zr_tabIn (off := 81) (tgt := 159) dX12_of_78 (by rw [hc8]; decide) (by rw [hc8]; rfl) (by decide) ?_
                    refine zr_aload_n (v := .inl (some l0)) dX12_of_159 rfl rfl ?_
                    revert hf; refine zbi (fun x11 e_x11 hf => ?_)
                    refine zq_getR kg_490 dX12_of_160 e_x11 ?_
                    refine zr_bipush (v := (123 : Int32)) dX12_of_163 (by decide) ?_
                    revert hf; refine zbi (fun x12 e_x12 hf => ?_)
                    refine zq_iald dX12_of_165 e_x12 ?_
                    cases hf
                    exact zr_ret _ rfl dX12_of_166
                  · rw [if_neg hc8] at hf
                    by_cases hc9 : l1 = (7 : Int32)
                    · rw [if_pos hc9] at hf
                      refine zr_tabIn (off := 89) (tgt := 167) dX12_of_78 (by rw [hc9]; decide) (by rw [hc9]; rfl) (by decide) ?_
                      refine zr_aload_n (v := .inl (some l0)) dX12_of_167 rfl rfl ?_
                      revert hf; refine zbi (fun x13 e_x13 hf => ?_)
                      refine zq_getR kg_490 dX12_of_168 e_x13 ?_
                      refine zr_bipush (v := (124 : Int32)) dX12_of_171 (by decide) ?_
                      revert hf; refine zbi (fun x14 e_x14 hf => ?_)
                      refine zq_iald dX12_of_173 e_x14 ?_
                      cases hf
                      exact zr_ret _ rfl dX12_of_174
                    · rw [if_neg hc9] at hf
                      refine zr_tabOut (tgt := 175) dX12_of_78 (fun q => by have n0 := zne (n := 0) hc2 (by decide); have n1 := zne (n := 1) hc3 (by decide); have n2 := zne (n := 2) hc4 (by decide); have n3 := zne (n := 3) hc5 (by decide); have n4 := zne (n := 4) hc6 (by decide); have n5 := zne (n := 5) hc7 (by decide); have n6 := zne (n := 6) hc8 (by decide); have n7 := zne (n := 7) hc9 (by decide); omega) (by decide) ?_
                      refine zr_iconst (v := ((-1) : Int32)) dX12_of_175 (by decide) ?_
                      cases hf
                      exact zr_ret _ rfl dX12_of_176
    · rw [if_neg hc1] at hf
      refine zr_icge_f 77 dX12_of_26 (by decide) hc1 ?_
      refine zr_iload_n (x := l2) dX12_of_29 rfl rfl ?_
      refine zr_aload_n (v := .inl (some l0)) dX12_of_30 rfl rfl ?_
      revert hf; refine zbi (fun x15 e_x15 hf => ?_)
      refine zq_getR kg_490 dX12_of_31 e_x15 ?_
      refine zr_iconst (v := (2 : Int32)) dX12_of_34 (by decide) ?_
      refine zr_iconst (v := (3 : Int32)) dX12_of_35 (by decide) ?_
      refine zr_iload (x := l4) dX12_of_36 rfl ?_
      refine zr_imul dX12_of_38 ?_
      refine zr_iadd dX12_of_39 ?_
      revert hf; refine zbi (fun x16 e_x16 hf => ?_)
      refine zq_iald dX12_of_40 e_x16 ?_
      refine zr_iadd dX12_of_41 ?_
      refine zq_istore_n (x := (l2 + x16)) (L' := [some (zr (some l0)), some (zi l1), some (zi (l2 + x16)), some (zi l3), some (zi l4)]) dX12_of_42 rfl (by decide) rfl ?_
      refine zr_iload_n (x := l3) dX12_of_43 rfl rfl ?_
      refine zr_aload_n (v := .inl (some l0)) dX12_of_44 rfl rfl ?_
      revert hf; refine zbi (fun x17 e_x17 hf => ?_)
      refine zq_getR kg_490 dX12_of_45 e_x17 ?_
      refine zr_iconst (v := (2 : Int32)) dX12_of_48 (by decide) ?_
      refine zr_iconst (v := (3 : Int32)) dX12_of_49 (by decide) ?_
      refine zr_iload (x := l4) dX12_of_50 rfl ?_
      refine zr_imul dX12_of_52 ?_
      refine zr_iadd dX12_of_53 ?_
      revert hf; refine zbi (fun x18 e_x18 hf => ?_)
      refine zq_iald dX12_of_54 e_x18 ?_
      refine zr_aload_n (v := .inl (some l0)) dX12_of_55 rfl rfl ?_
      revert hf; refine zbi (fun x19 e_x19 hf => ?_)
      refine zq_getR kg_490 dX12_of_56 e_x19 ?_
      refine zr_iconst (v := (2 : Int32)) dX12_of_59 (by decide) ?_
      refine zr_iconst (v := (3 : Int32)) dX12_of_60 (by decide) ?_
      refine zr_iload (x := l4) dX12_of_61 rfl ?_
      refine zr_imul dX12_of_63 ?_
      refine zr_iadd dX12_of_64 ?_
      refine zr_iconst (v := (1 : Int32)) dX12_of_65 (by decide) ?_
      refine zr_iadd dX12_of_66 ?_
      revert hf; refine zbi (fun x20 e_x20 hf => ?_)
      refine zq_iald dX12_of_67 e_x20 ?_
      refine zr_imul dX12_of_68 ?_
      refine zr_iadd dX12_of_69 ?_
      refine zq_istore_n (x := (l3 + (x18 * x20))) (L' := [some (zr (some l0)), some (zi l1), some (zi (l2 + x16)), some (zi (l3 + (x18 * x20))), some (zi l4)]) dX12_of_70 rfl (by decide) rfl ?_
      refine zq_iinc (x := l4) (y := (1 : Int32)) (L' := [some (zr (some l0)), some (zi l1), some (zi (l2 + x16)), some (zi (l3 + (x18 * x20))), some (zi (l4 + (1 : Int32)))]) dX12_of_71 rfl (by decide) (by decide) rfl ?_
      refine zr_goto (tgt := 18) dX12_of_74 (by decide) ?_
      exact ih l0 l1 (l2 + x16) (l3 + (x18 * x20)) (l4 + (1 : Int32)) h r hf
def f_X12_of (N : Nat) (l0 : Nat) (l1 : Int32) (h : zH) : Option Int32 := (zgR h 12 (some l0) 0).bind fun x1 => (zld h 0 x1 (0 : Int32)).bind fun x2 => if x2 = 0 then some ((-1) : Int32) else f_X12_of_18 N N l0 l1 (0 : Int32) (0 : Int32) (0 : Int32) h
set_option maxHeartbeats 4000000 in
set_option maxRecDepth 100000 in
theorem s_X12_of {g : zG} (hg : g.2.1.map (fun q => q.2) = zty) {h0 : zH} (N : Nat) (l0 : Nat) (l1 : Int32) (h : zH) (r : Int32) (hf : f_X12_of N l0 l1 h = some r) : zR g jX12_of h0 0 [some (zr (some l0)), some (zi l1), none, none, none] [] h (some (zi r)) h := by
  unfold f_X12_of at hf
  refine zr_aload_n (v := .inl (some l0)) dX12_of_0 rfl rfl ?_
  revert hf; refine zbi (fun x1 e_x1 hf => ?_)
  refine zq_getR kg_490 dX12_of_1 e_x1 ?_
  refine zr_iconst (v := (0 : Int32)) dX12_of_4 (by decide) ?_
  revert hf; refine zbi (fun x2 e_x2 hf => ?_)
  refine zq_iald dX12_of_5 e_x2 ?_
  by_cases hc1 : x2 = 0
  · rw [if_pos hc1] at hf
    refine zr_ifne_f 11 dX12_of_6 (by decide) hc1 ?_
    refine zr_iconst (v := ((-1) : Int32)) dX12_of_9 (by decide) ?_
    cases hf
    exact zr_ret _ rfl dX12_of_10
  · rw [if_neg hc1] at hf
    refine zr_ifne_t (tgt := 11) dX12_of_6 (by decide) hc1 ?_
    refine zr_iconst (v := (0 : Int32)) dX12_of_11 (by decide) ?_
    refine zq_istore_n (x := (0 : Int32)) (L' := [some (zr (some l0)), some (zi l1), some (zi (0 : Int32)), none, none]) dX12_of_12 rfl (by decide) rfl ?_
    refine zr_iconst (v := (0 : Int32)) dX12_of_13 (by decide) ?_
    refine zq_istore_n (x := (0 : Int32)) (L' := [some (zr (some l0)), some (zi l1), some (zi (0 : Int32)), some (zi (0 : Int32)), none]) dX12_of_14 rfl (by decide) rfl ?_
    refine zr_iconst (v := (0 : Int32)) dX12_of_15 (by decide) ?_
    refine zq_istore (x := (0 : Int32)) (L' := [some (zr (some l0)), some (zi l1), some (zi (0 : Int32)), some (zi (0 : Int32)), some (zi (0 : Int32))]) dX12_of_16 (by decide) rfl ?_
    exact s_X12_of_18 hg N N l0 l1 (0 : Int32) (0 : Int32) (0 : Int32) h r hf
theorem c_X12_of {g : zG} (hg : g.2.1.map (fun q => q.2) = zty) {N : Nat} {l0 : Nat} {l1 : Int32} {h : zH} {r : Int32} (hf : f_X12_of N l0 l1 h = some r) : zCa g jX12_of [zr (some l0), zi l1] h (some (zi r)) h :=
  zCa.of hg (by decide +kernel) (Nat.le_of_ble_eq_true rfl) (s_X12_of hg N l0 l1 h r hf)
theorem dX12_round_0 : decode cX12_round 0 = .ok (.aload_n 0, 1) := by decide +kernel
theorem dX12_round_1 : decode cX12_round 1 = .ok (.iconst 0, 1) := by decide +kernel
theorem dX12_round_2 : decode cX12_round 2 = .ok (.putfield 83, 3) := by decide +kernel
theorem dX12_round_5 : decode cX12_round 5 = .ok (.aload_n 0, 1) := by decide +kernel
theorem dX12_round_6 : decode cX12_round 6 = .ok (.aload_n 0, 1) := by decide +kernel
theorem dX12_round_7 : decode cX12_round 7 = .ok (.getfield 74, 3) := by decide +kernel
theorem dX12_round_10 : decode cX12_round 10 = .ok (.putfield 86, 3) := by decide +kernel
theorem dX12_round_13 : decode cX12_round 13 = .ok (.aload_n 0, 1) := by decide +kernel
theorem dX12_round_14 : decode cX12_round 14 = .ok (.iconst 0, 1) := by decide +kernel
theorem dX12_round_15 : decode cX12_round 15 = .ok (.putfield 74, 3) := by decide +kernel
theorem dX12_round_18 : decode cX12_round 18 = .ok (.aload_n 0, 1) := by decide +kernel
theorem dX12_round_19 : decode cX12_round 19 = .ok (.iconst 0, 1) := by decide +kernel
theorem dX12_round_20 : decode cX12_round 20 = .ok (.putfield 77, 3) := by decide +kernel
theorem dX12_round_23 : decode cX12_round 23 = .ok (.aload_n 0, 1) := by decide +kernel
theorem dX12_round_24 : decode cX12_round 24 = .ok (.iconst (-1), 1) := by decide +kernel
theorem dX12_round_25 : decode cX12_round 25 = .ok (.putfield 80, 3) := by decide +kernel
theorem dX12_round_28 : decode cX12_round 28 = .ok (.iconst 0, 1) := by decide +kernel
theorem dX12_round_29 : decode cX12_round 29 = .ok (.istore_n 1, 1) := by decide +kernel
theorem dX12_round_30 : decode cX12_round 30 = .ok (.iload_n 1, 1) := by decide +kernel
theorem dX12_round_31 : decode cX12_round 31 = .ok (.bipush 125, 2) := by decide +kernel
theorem dX12_round_33 : decode cX12_round 33 = .ok (.if_icmp .ge 16, 3) := by decide +kernel
theorem dX12_round_36 : decode cX12_round 36 = .ok (.aload_n 0, 1) := by decide +kernel
theorem dX12_round_37 : decode cX12_round 37 = .ok (.getfield 46, 3) := by decide +kernel
theorem dX12_round_40 : decode cX12_round 40 = .ok (.iload_n 1, 1) := by decide +kernel
theorem dX12_round_41 : decode cX12_round 41 = .ok (.iconst 0, 1) := by decide +kernel
theorem dX12_round_42 : decode cX12_round 42 = .ok (.iastore, 1) := by decide +kernel
theorem dX12_round_43 : decode cX12_round 43 = .ok (.iinc 1 1, 3) := by decide +kernel
theorem dX12_round_46 : decode cX12_round 46 = .ok (.goto (-16), 3) := by decide +kernel
theorem dX12_round_49 : decode cX12_round 49 = .ok (.iconst 0, 1) := by decide +kernel
theorem dX12_round_50 : decode cX12_round 50 = .ok (.istore_n 1, 1) := by decide +kernel
theorem dX12_round_51 : decode cX12_round 51 = .ok (.iload_n 1, 1) := by decide +kernel
theorem dX12_round_52 : decode cX12_round 52 = .ok (.iconst 3, 1) := by decide +kernel
theorem dX12_round_53 : decode cX12_round 53 = .ok (.if_icmp .ge 16, 3) := by decide +kernel
theorem dX12_round_56 : decode cX12_round 56 = .ok (.aload_n 0, 1) := by decide +kernel
theorem dX12_round_57 : decode cX12_round 57 = .ok (.getfield 49, 3) := by decide +kernel
theorem dX12_round_60 : decode cX12_round 60 = .ok (.iload_n 1, 1) := by decide +kernel
theorem dX12_round_61 : decode cX12_round 61 = .ok (.iconst 0, 1) := by decide +kernel
theorem dX12_round_62 : decode cX12_round 62 = .ok (.bastore, 1) := by decide +kernel
theorem dX12_round_63 : decode cX12_round 63 = .ok (.iinc 1 1, 3) := by decide +kernel
theorem dX12_round_66 : decode cX12_round 66 = .ok (.goto (-15), 3) := by decide +kernel
theorem dX12_round_69 : decode cX12_round 69 = .ok (.aload_n 0, 1) := by decide +kernel
theorem dX12_round_70 : decode cX12_round 70 = .ok (.invokevirtual 105, 3) := by decide +kernel
theorem dX12_round_73 : decode cX12_round 73 = .ok (.aload_n 0, 1) := by decide +kernel
theorem dX12_round_74 : decode cX12_round 74 = .ok (.getfield 77, 3) := by decide +kernel
theorem dX12_round_77 : decode cX12_round 77 = .ok (.ifCond .ne 28, 3) := by decide +kernel
theorem dX12_round_80 : decode cX12_round 80 = .ok (.aload_n 0, 1) := by decide +kernel
theorem dX12_round_81 : decode cX12_round 81 = .ok (.getfield 99, 3) := by decide +kernel
theorem dX12_round_84 : decode cX12_round 84 = .ok (.ifCond .eq 21, 3) := by decide +kernel
theorem dX12_round_87 : decode cX12_round 87 = .ok (.aload_n 0, 1) := by decide +kernel
theorem dX12_round_88 : decode cX12_round 88 = .ok (.invokevirtual 138, 3) := by decide +kernel
theorem dX12_round_91 : decode cX12_round 91 = .ok (.aload_n 0, 1) := by decide +kernel
theorem dX12_round_92 : decode cX12_round 92 = .ok (.getfield 77, 3) := by decide +kernel
theorem dX12_round_95 : decode cX12_round 95 = .ok (.ifCond .ne (-22), 3) := by decide +kernel
theorem dX12_round_98 : decode cX12_round 98 = .ok (.aload_n 0, 1) := by decide +kernel
theorem dX12_round_99 : decode cX12_round 99 = .ok (.invokevirtual 105, 3) := by decide +kernel
theorem dX12_round_102 : decode cX12_round 102 = .ok (.goto (-29), 3) := by decide +kernel
theorem dX12_round_105 : decode cX12_round 105 = .ok (.aload_n 0, 1) := by decide +kernel
theorem dX12_round_106 : decode cX12_round 106 = .ok (.getfield 77, 3) := by decide +kernel
theorem dX12_round_109 : decode cX12_round 109 = .ok (.ifCond .ne 21, 3) := by decide +kernel
theorem dX12_round_112 : decode cX12_round 112 = .ok (.aload_n 0, 1) := by decide +kernel
theorem dX12_round_113 : decode cX12_round 113 = .ok (.getfield 46, 3) := by decide +kernel
theorem dX12_round_116 : decode cX12_round 116 = .ok (.iconst 1, 1) := by decide +kernel
theorem dX12_round_117 : decode cX12_round 117 = .ok (.iaload, 1) := by decide +kernel
theorem dX12_round_118 : decode cX12_round 118 = .ok (.ifCond .ne 12, 3) := by decide +kernel
theorem dX12_round_121 : decode cX12_round 121 = .ok (.aload_n 0, 1) := by decide +kernel
theorem dX12_round_122 : decode cX12_round 122 = .ok (.iconst 1, 1) := by decide +kernel
theorem dX12_round_123 : decode cX12_round 123 = .ok (.aload_n 0, 1) := by decide +kernel
theorem dX12_round_124 : decode cX12_round 124 = .ok (.getfield 86, 3) := by decide +kernel
theorem dX12_round_127 : decode cX12_round 127 = .ok (.invokevirtual 108, 3) := by decide +kernel
theorem dX12_round_130 : decode cX12_round 130 = .ok (.aload_n 0, 1) := by decide +kernel
theorem dX12_round_131 : decode cX12_round 131 = .ok (.aload_n 0, 1) := by decide +kernel
theorem dX12_round_132 : decode cX12_round 132 = .ok (.getfield 77, 3) := by decide +kernel
theorem dX12_round_135 : decode cX12_round 135 = .ok (.putfield 141, 3) := by decide +kernel
theorem dX12_round_138 : decode cX12_round 138 = .ok (.aload_n 0, 1) := by decide +kernel
theorem dX12_round_139 : decode cX12_round 139 = .ok (.aload_n 0, 1) := by decide +kernel
theorem dX12_round_140 : decode cX12_round 140 = .ok (.getfield 80, 3) := by decide +kernel
theorem dX12_round_143 : decode cX12_round 143 = .ok (.putfield 17, 3) := by decide +kernel
theorem dX12_round_146 : decode cX12_round 146 = .ok (.aload_n 0, 1) := by decide +kernel
theorem dX12_round_147 : decode cX12_round 147 = .ok (.getfield 77, 3) := by decide +kernel
theorem dX12_round_150 : decode cX12_round 150 = .ok (.ifCond .eq 5, 3) := by decide +kernel
theorem dX12_round_153 : decode cX12_round 153 = .ok (.iconst (-1), 1) := by decide +kernel
theorem dX12_round_154 : decode cX12_round 154 = .ok (.ireturn, 1) := by decide +kernel
theorem dX12_round_155 : decode cX12_round 155 = .ok (.aload_n 0, 1) := by decide +kernel
theorem dX12_round_156 : decode cX12_round 156 = .ok (.invokevirtual 144, 3) := by decide +kernel
theorem dX12_round_159 : decode cX12_round 159 = .ok (.aload_n 0, 1) := by decide +kernel
theorem dX12_round_160 : decode cX12_round 160 = .ok (.getfield 46, 3) := by decide +kernel
theorem dX12_round_163 : decode cX12_round 163 = .ok (.iconst 0, 1) := by decide +kernel
theorem dX12_round_164 : decode cX12_round 164 = .ok (.iconst 1, 1) := by decide +kernel
theorem dX12_round_165 : decode cX12_round 165 = .ok (.iastore, 1) := by decide +kernel
theorem dX12_round_166 : decode cX12_round 166 = .ok (.iconst 0, 1) := by decide +kernel
theorem dX12_round_167 : decode cX12_round 167 = .ok (.istore_n 1, 1) := by decide +kernel
theorem dX12_round_168 : decode cX12_round 168 = .ok (.iload_n 1, 1) := by decide +kernel
theorem dX12_round_169 : decode cX12_round 169 = .ok (.bipush 125, 2) := by decide +kernel
theorem dX12_round_171 : decode cX12_round 171 = .ok (.if_icmp .ge 21, 3) := by decide +kernel
theorem dX12_round_174 : decode cX12_round 174 = .ok (.aload_n 0, 1) := by decide +kernel
theorem dX12_round_175 : decode cX12_round 175 = .ok (.getfield 8, 3) := by decide +kernel
theorem dX12_round_178 : decode cX12_round 178 = .ok (.iload_n 1, 1) := by decide +kernel
theorem dX12_round_179 : decode cX12_round 179 = .ok (.aload_n 0, 1) := by decide +kernel
theorem dX12_round_180 : decode cX12_round 180 = .ok (.getfield 46, 3) := by decide +kernel
theorem dX12_round_183 : decode cX12_round 183 = .ok (.iload_n 1, 1) := by decide +kernel
theorem dX12_round_184 : decode cX12_round 184 = .ok (.iaload, 1) := by decide +kernel
theorem dX12_round_185 : decode cX12_round 185 = .ok (.iastore, 1) := by decide +kernel
theorem dX12_round_186 : decode cX12_round 186 = .ok (.iinc 1 1, 3) := by decide +kernel
theorem dX12_round_189 : decode cX12_round 189 = .ok (.goto (-21), 3) := by decide +kernel
theorem dX12_round_192 : decode cX12_round 192 = .ok (.iconst 0, 1) := by decide +kernel
theorem dX12_round_193 : decode cX12_round 193 = .ok (.istore_n 1, 1) := by decide +kernel
theorem dX12_round_194 : decode cX12_round 194 = .ok (.iload_n 1, 1) := by decide +kernel
theorem dX12_round_195 : decode cX12_round 195 = .ok (.bipush 16, 2) := by decide +kernel
theorem dX12_round_197 : decode cX12_round 197 = .ok (.if_icmp .ge 31, 3) := by decide +kernel
theorem dX12_round_200 : decode cX12_round 200 = .ok (.aload_n 0, 1) := by decide +kernel
theorem dX12_round_201 : decode cX12_round 201 = .ok (.getfield 8, 3) := by decide +kernel
theorem dX12_round_204 : decode cX12_round 204 = .ok (.sipush 141, 3) := by decide +kernel
theorem dX12_round_207 : decode cX12_round 207 = .ok (.iload_n 1, 1) := by decide +kernel
theorem dX12_round_208 : decode cX12_round 208 = .ok (.iadd, 1) := by decide +kernel
theorem dX12_round_209 : decode cX12_round 209 = .ok (.iconst 0, 1) := by decide +kernel
theorem dX12_round_210 : decode cX12_round 210 = .ok (.iastore, 1) := by decide +kernel
theorem dX12_round_211 : decode cX12_round 211 = .ok (.aload_n 0, 1) := by decide +kernel
theorem dX12_round_212 : decode cX12_round 212 = .ok (.getfield 8, 3) := by decide +kernel
theorem dX12_round_215 : decode cX12_round 215 = .ok (.sipush 4765, 3) := by decide +kernel
theorem dX12_round_218 : decode cX12_round 218 = .ok (.iload_n 1, 1) := by decide +kernel
theorem dX12_round_219 : decode cX12_round 219 = .ok (.iadd, 1) := by decide +kernel
theorem dX12_round_220 : decode cX12_round 220 = .ok (.iconst 0, 1) := by decide +kernel
theorem dX12_round_221 : decode cX12_round 221 = .ok (.iastore, 1) := by decide +kernel
theorem dX12_round_222 : decode cX12_round 222 = .ok (.iinc 1 1, 3) := by decide +kernel
theorem dX12_round_225 : decode cX12_round 225 = .ok (.goto (-31), 3) := by decide +kernel
theorem dX12_round_228 : decode cX12_round 228 = .ok (.aload_n 0, 1) := by decide +kernel
theorem dX12_round_229 : decode cX12_round 229 = .ok (.iconst 1, 1) := by decide +kernel
theorem dX12_round_230 : decode cX12_round 230 = .ok (.invokevirtual 147, 3) := by decide +kernel
theorem dX12_round_233 : decode cX12_round 233 = .ok (.ireturn, 1) := by decide +kernel
def f_X12_round_194 (N : Nat) : Nat → Nat → Int32 → zH → Option (Int32 × zH)
  | 0, _, _, _ => none
  | n + 1, l0, l1, h => if (16 : Int32) ≤ l1 then (zck h 12 (some l0)).bind fun q1 => (f_X12_of N q1 (1 : Int32) h).bind fun x1 => some (x1, h) else (zgR h 12 (some l0) 0).bind fun x2 => (zst h 0 x2 ((141 : Int32) + l1) (0 : Int32)).bind fun h1 => (zgR h1 12 (some l0) 0).bind fun x3 => (zst h1 0 x3 ((4765 : Int32) + l1) (0 : Int32)).bind fun h2 => f_X12_round_194 N n l0 (l1 + (1 : Int32)) h2
set_option maxHeartbeats 4000000 in
set_option maxRecDepth 100000 in
theorem s_X12_round_194 {g : zG} (hg : g.2.1.map (fun q => q.2) = zty) {h0 : zH} (N : Nat) : ∀ (n : Nat) (l0 : Nat) (l1 : Int32) (h : zH) (r : Int32) (h' : zH), f_X12_round_194 N n l0 l1 h = some (r, h') → zR g jX12_round h0 194 [some (zr (some l0)), some (zi l1)] [] h (some (zi r)) h' := by
  intro n
  induction n with
  | zero =>
    intro l0 l1 h r h' hf
    cases hf
  | succ n ih =>
    intro l0 l1 h r h' hf
    rw [f_X12_round_194] at hf
    refine zr_iload_n (x := l1) dX12_round_194 rfl rfl ?_
    refine zr_bipush (v := (16 : Int32)) dX12_round_195 (by decide) ?_
    by_cases hc1 : (16 : Int32) ≤ l1
    · rw [if_pos hc1] at hf
      refine zr_icge_t (tgt := 228) dX12_round_197 (by decide) hc1 ?_
      refine zr_aload_n (v := .inl (some l0)) dX12_round_228 rfl rfl ?_
      refine zr_iconst (v := (1 : Int32)) dX12_round_229 (by decide) ?_
      revert hf; refine zbi (fun q1 e_q1 hf => ?_)
      revert hf; refine zbi (fun x1 e_x1 hf => ?_)
      refine zq_callV (J' := jX12_of) (as := [zi (1 : Int32)]) (rest := []) (r1 := (some (zi x1))) (q := (RX12, TX12, 31)) kw_669 km_X12_of kt_574 dX12_round_230 rfl (Nat.le_of_ble_eq_true rfl) rfl rfl e_q1 rfl (c_X12_of hg e_x1) ?_
      cases hf
      exact zr_ret _ rfl dX12_round_233
    · rw [if_neg hc1] at hf
      refine zr_icge_f 228 dX12_round_197 (by decide) hc1 ?_
      refine zr_aload_n (v := .inl (some l0)) dX12_round_200 rfl rfl ?_
      revert hf; refine zbi (fun x2 e_x2 hf => ?_)
      refine zq_getR kg_490 dX12_round_201 e_x2 ?_
      refine zr_sipush (v := (141 : Int32)) dX12_round_204 (by decide) ?_
      refine zr_iload_n (x := l1) dX12_round_207 rfl rfl ?_
      refine zr_iadd dX12_round_208 ?_
      refine zr_iconst (v := (0 : Int32)) dX12_round_209 (by decide) ?_
      revert hf; refine zbi (fun h1 e_h1 hf => ?_)
      refine zq_iast dX12_round_210 e_h1 ?_
      refine zr_aload_n (v := .inl (some l0)) dX12_round_211 rfl rfl ?_
      revert hf; refine zbi (fun x3 e_x3 hf => ?_)
      refine zq_getR kg_490 dX12_round_212 e_x3 ?_
      refine zr_sipush (v := (4765 : Int32)) dX12_round_215 (by decide) ?_
      refine zr_iload_n (x := l1) dX12_round_218 rfl rfl ?_
      refine zr_iadd dX12_round_219 ?_
      refine zr_iconst (v := (0 : Int32)) dX12_round_220 (by decide) ?_
      revert hf; refine zbi (fun h2 e_h2 hf => ?_)
      refine zq_iast dX12_round_221 e_h2 ?_
      refine zq_iinc (x := l1) (y := (1 : Int32)) (L' := [some (zr (some l0)), some (zi (l1 + (1 : Int32)))]) dX12_round_222 rfl (by decide) (by decide) rfl ?_
      refine zr_goto (tgt := 194) dX12_round_225 (by decide) ?_
      exact ih l0 (l1 + (1 : Int32)) h2 r h' hf
def f_X12_round_168 (N : Nat) : Nat → Nat → Int32 → zH → Option (Int32 × zH)
  | 0, _, _, _ => none
  | n + 1, l0, l1, h => if (125 : Int32) ≤ l1 then f_X12_round_194 N N l0 (0 : Int32) h else (zgR h 12 (some l0) 0).bind fun x1 => (zgR h 12 (some l0) 21).bind fun x2 => (zld h 0 x2 l1).bind fun x3 => (zst h 0 x1 l1 x3).bind fun h1 => f_X12_round_168 N n l0 (l1 + (1 : Int32)) h1
set_option maxHeartbeats 4000000 in
set_option maxRecDepth 100000 in
theorem s_X12_round_168 {g : zG} (hg : g.2.1.map (fun q => q.2) = zty) {h0 : zH} (N : Nat) : ∀ (n : Nat) (l0 : Nat) (l1 : Int32) (h : zH) (r : Int32) (h' : zH), f_X12_round_168 N n l0 l1 h = some (r, h') → zR g jX12_round h0 168 [some (zr (some l0)), some (zi l1)] [] h (some (zi r)) h' := by
  intro n
  induction n with
  | zero =>
    intro l0 l1 h r h' hf
    cases hf
  | succ n ih =>
    intro l0 l1 h r h' hf
    rw [f_X12_round_168] at hf
    refine zr_iload_n (x := l1) dX12_round_168 rfl rfl ?_
    refine zr_bipush (v := (125 : Int32)) dX12_round_169 (by decide) ?_
    by_cases hc1 : (125 : Int32) ≤ l1
    · rw [if_pos hc1] at hf
      refine zr_icge_t (tgt := 192) dX12_round_171 (by decide) hc1 ?_
      refine zr_iconst (v := (0 : Int32)) dX12_round_192 (by decide) ?_
      refine zq_istore_n (x := (0 : Int32)) (L' := [some (zr (some l0)), some (zi (0 : Int32))]) dX12_round_193 rfl (by decide) rfl ?_
      exact s_X12_round_194 hg N N l0 (0 : Int32) h r h' hf
    · rw [if_neg hc1] at hf
      refine zr_icge_f 192 dX12_round_171 (by decide) hc1 ?_
      refine zr_aload_n (v := .inl (some l0)) dX12_round_174 rfl rfl ?_
      revert hf; refine zbi (fun x1 e_x1 hf => ?_)
      refine zq_getR kg_490 dX12_round_175 e_x1 ?_
      refine zr_iload_n (x := l1) dX12_round_178 rfl rfl ?_
      refine zr_aload_n (v := .inl (some l0)) dX12_round_179 rfl rfl ?_
      revert hf; refine zbi (fun x2 e_x2 hf => ?_)
      refine zq_getR kg_537 dX12_round_180 e_x2 ?_
      refine zr_iload_n (x := l1) dX12_round_183 rfl rfl ?_
      revert hf; refine zbi (fun x3 e_x3 hf => ?_)
      refine zq_iald dX12_round_184 e_x3 ?_
      revert hf; refine zbi (fun h1 e_h1 hf => ?_)
      refine zq_iast dX12_round_185 e_h1 ?_
      refine zq_iinc (x := l1) (y := (1 : Int32)) (L' := [some (zr (some l0)), some (zi (l1 + (1 : Int32)))]) dX12_round_186 rfl (by decide) (by decide) rfl ?_
      refine zr_goto (tgt := 168) dX12_round_189 (by decide) ?_
      exact ih l0 (l1 + (1 : Int32)) h1 r h' hf
def f_X12_round_130 (N : Nat) (l0 : Nat) (h : zH) : Option (Int32 × zH) := (zgI h 12 (some l0) 9).bind fun x1 => (zpu h 12 (some l0) 11 (zi x1)).bind fun h1 => (zgI h1 12 (some l0) 10).bind fun x2 => (zpu h1 12 (some l0) 12 (zi x2)).bind fun h2 => (zgI h2 12 (some l0) 9).bind fun x3 => if x3 = 0 then (zck h2 12 (some l0)).bind fun q1 => (f_X12_keeps N q1 h2).bind fun h3 => (zgR h3 12 (some l0) 21).bind fun x4 => (zst h3 0 x4 (0 : Int32) (1 : Int32)).bind fun h4 => f_X12_round_168 N N l0 (0 : Int32) h4 else some (((-1) : Int32), h2)
set_option maxHeartbeats 4000000 in
set_option maxRecDepth 100000 in
theorem s_X12_round_130 {g : zG} (hg : g.2.1.map (fun q => q.2) = zty) {h0 : zH} (N : Nat) (l0 : Nat) (h : zH) (r : Int32) (h' : zH) (hf : f_X12_round_130 N l0 h = some (r, h')) : zR g jX12_round h0 130 [some (zr (some l0)), none] [] h (some (zi r)) h' := by
  unfold f_X12_round_130 at hf
  refine zr_aload_n (v := .inl (some l0)) dX12_round_130 rfl rfl ?_
  refine zr_aload_n (v := .inl (some l0)) dX12_round_131 rfl rfl ?_
  revert hf; refine zbi (fun x1 e_x1 hf => ?_)
  refine zq_getI kg_515 dX12_round_132 e_x1 ?_
  revert hf; refine zbi (fun h1 e_h1 hf => ?_)
  refine zq_put (kp_575 _) dX12_round_135 (zn_i _) e_h1 ?_
  refine zr_aload_n (v := .inl (some l0)) dX12_round_138 rfl rfl ?_
  refine zr_aload_n (v := .inl (some l0)) dX12_round_139 rfl rfl ?_
  revert hf; refine zbi (fun x2 e_x2 hf => ?_)
  refine zq_getI kg_576 dX12_round_140 e_x2 ?_
  revert hf; refine zbi (fun h2 e_h2 hf => ?_)
  refine zq_put (kp_577 _) dX12_round_143 (zn_i _) e_h2 ?_
  refine zr_aload_n (v := .inl (some l0)) dX12_round_146 rfl rfl ?_
  revert hf; refine zbi (fun x3 e_x3 hf => ?_)
  refine zq_getI kg_515 dX12_round_147 e_x3 ?_
  by_cases hc1 : x3 = 0
  · rw [if_pos hc1] at hf
    refine zr_ifeq_t (tgt := 155) dX12_round_150 (by decide) hc1 ?_
    refine zr_aload_n (v := .inl (some l0)) dX12_round_155 rfl rfl ?_
    revert hf; refine zbi (fun q1 e_q1 hf => ?_)
    revert hf; refine zbi (fun h3 e_h3 hf => ?_)
    refine zq_callV (J' := jX12_keeps) (as := []) (rest := []) (r1 := none) (q := (RX12, TX12, 31)) kw_674 km_X12_keeps kt_579 dX12_round_156 rfl (Nat.le_of_ble_eq_true rfl) rfl rfl e_q1 rfl (c_X12_keeps hg e_h3) ?_
    refine zr_aload_n (v := .inl (some l0)) dX12_round_159 rfl rfl ?_
    revert hf; refine zbi (fun x4 e_x4 hf => ?_)
    refine zq_getR kg_537 dX12_round_160 e_x4 ?_
    refine zr_iconst (v := (0 : Int32)) dX12_round_163 (by decide) ?_
    refine zr_iconst (v := (1 : Int32)) dX12_round_164 (by decide) ?_
    revert hf; refine zbi (fun h4 e_h4 hf => ?_)
    refine zq_iast dX12_round_165 e_h4 ?_
    refine zr_iconst (v := (0 : Int32)) dX12_round_166 (by decide) ?_
    refine zq_istore_n (x := (0 : Int32)) (L' := [some (zr (some l0)), some (zi (0 : Int32))]) dX12_round_167 rfl (by decide) rfl ?_
    exact s_X12_round_168 hg N N l0 (0 : Int32) h4 r h' hf
  · rw [if_neg hc1] at hf
    refine zr_ifeq_f 155 dX12_round_150 (by decide) hc1 ?_
    refine zr_iconst (v := ((-1) : Int32)) dX12_round_153 (by decide) ?_
    cases hf
    exact zr_ret _ rfl dX12_round_154
def f_X12_round_105 (N : Nat) (l0 : Nat) (h : zH) : Option (Int32 × zH) := (zgI h 12 (some l0) 9).bind fun x1 => if x1 = 0 then (zgR h 12 (some l0) 21).bind fun x2 => (zld h 0 x2 (1 : Int32)).bind fun x3 => if x3 = 0 then (zgI h 12 (some l0) 5).bind fun x4 => (zck h 12 (some l0)).bind fun q1 => (f_X12_fail N q1 (1 : Int32) x4 h).bind fun h1 => f_X12_round_130 N l0 h1 else f_X12_round_130 N l0 h else f_X12_round_130 N l0 h
set_option maxHeartbeats 4000000 in
set_option maxRecDepth 100000 in
theorem s_X12_round_105 {g : zG} (hg : g.2.1.map (fun q => q.2) = zty) {h0 : zH} (N : Nat) (l0 : Nat) (h : zH) (r : Int32) (h' : zH) (hf : f_X12_round_105 N l0 h = some (r, h')) : zR g jX12_round h0 105 [some (zr (some l0)), none] [] h (some (zi r)) h' := by
  unfold f_X12_round_105 at hf
  refine zr_aload_n (v := .inl (some l0)) dX12_round_105 rfl rfl ?_
  revert hf; refine zbi (fun x1 e_x1 hf => ?_)
  refine zq_getI kg_515 dX12_round_106 e_x1 ?_
  by_cases hc1 : x1 = 0
  · rw [if_pos hc1] at hf
    refine zr_ifne_f 130 dX12_round_109 (by decide) hc1 ?_
    refine zr_aload_n (v := .inl (some l0)) dX12_round_112 rfl rfl ?_
    revert hf; refine zbi (fun x2 e_x2 hf => ?_)
    refine zq_getR kg_537 dX12_round_113 e_x2 ?_
    refine zr_iconst (v := (1 : Int32)) dX12_round_116 (by decide) ?_
    revert hf; refine zbi (fun x3 e_x3 hf => ?_)
    refine zq_iald dX12_round_117 e_x3 ?_
    by_cases hc2 : x3 = 0
    · rw [if_pos hc2] at hf
      refine zr_ifne_f 130 dX12_round_118 (by decide) hc2 ?_
      refine zr_aload_n (v := .inl (some l0)) dX12_round_121 rfl rfl ?_
      refine zr_iconst (v := (1 : Int32)) dX12_round_122 (by decide) ?_
      refine zr_aload_n (v := .inl (some l0)) dX12_round_123 rfl rfl ?_
      revert hf; refine zbi (fun x4 e_x4 hf => ?_)
      refine zq_getI kg_520 dX12_round_124 e_x4 ?_
      revert hf; refine zbi (fun q1 e_q1 hf => ?_)
      revert hf; refine zbi (fun h1 e_h1 hf => ?_)
      refine zq_callV (J' := jX12_fail) (as := [zi (1 : Int32), zi x4]) (rest := []) (r1 := none) (q := (RX12, TX12, 31)) kw_632 km_X12_fail kt_580 dX12_round_127 rfl (Nat.le_of_ble_eq_true rfl) rfl rfl e_q1 rfl (c_X12_fail hg e_h1) ?_
      exact s_X12_round_130 hg N l0 h1 r h' hf
    · rw [if_neg hc2] at hf
      refine zr_ifne_t (tgt := 130) dX12_round_118 (by decide) hc2 ?_
      exact s_X12_round_130 hg N l0 h r h' hf
  · rw [if_neg hc1] at hf
    refine zr_ifne_t (tgt := 130) dX12_round_109 (by decide) hc1 ?_
    exact s_X12_round_130 hg N l0 h r h' hf
def f_X12_round_73 (N : Nat) : Nat → Nat → zH → Option (Int32 × zH)
  | 0, _, _ => none
  | n + 1, l0, h => (zgI h 12 (some l0) 9).bind fun x1 => if x1 = 0 then (zgI h 12 (some l0) 6).bind fun x2 => if x2 = 0 then f_X12_round_105 N l0 h else (zck h 12 (some l0)).bind fun q1 => (f_X12_statement N q1 h).bind fun h1 => (zgI h1 12 (some l0) 9).bind fun x3 => if x3 = 0 then (zck h1 12 (some l0)).bind fun q2 => (f_X12_next N q2 h1).bind fun h2 => f_X12_round_73 N n l0 h2 else f_X12_round_73 N n l0 h1 else f_X12_round_105 N l0 h
set_option maxHeartbeats 4000000 in
set_option maxRecDepth 100000 in
theorem s_X12_round_73 {g : zG} (hg : g.2.1.map (fun q => q.2) = zty) {h0 : zH} (N : Nat) : ∀ (n : Nat) (l0 : Nat) (h : zH) (r : Int32) (h' : zH), f_X12_round_73 N n l0 h = some (r, h') → zR g jX12_round h0 73 [some (zr (some l0)), none] [] h (some (zi r)) h' := by
  intro n
  induction n with
  | zero =>
    intro l0 h r h' hf
    cases hf
  | succ n ih =>
    intro l0 h r h' hf
    rw [f_X12_round_73] at hf
    refine zr_aload_n (v := .inl (some l0)) dX12_round_73 rfl rfl ?_
    revert hf; refine zbi (fun x1 e_x1 hf => ?_)
    refine zq_getI kg_515 dX12_round_74 e_x1 ?_
    by_cases hc1 : x1 = 0
    · rw [if_pos hc1] at hf
      refine zr_ifne_f 105 dX12_round_77 (by decide) hc1 ?_
      refine zr_aload_n (v := .inl (some l0)) dX12_round_80 rfl rfl ?_
      revert hf; refine zbi (fun x2 e_x2 hf => ?_)
      refine zq_getI kg_529 dX12_round_81 e_x2 ?_
      by_cases hc2 : x2 = 0
      · rw [if_pos hc2] at hf
        refine zr_ifeq_t (tgt := 105) dX12_round_84 (by decide) hc2 ?_
        exact s_X12_round_105 hg N l0 h r h' hf
      · rw [if_neg hc2] at hf
        refine zr_ifeq_f 105 dX12_round_84 (by decide) hc2 ?_
        refine zr_aload_n (v := .inl (some l0)) dX12_round_87 rfl rfl ?_
        revert hf; refine zbi (fun q1 e_q1 hf => ?_)
        revert hf; refine zbi (fun h1 e_h1 hf => ?_)
        refine zq_callV (J' := jX12_statement) (as := []) (rest := []) (r1 := none) (q := (RX12, TX12, 31)) kw_678 km_X12_statement kt_582 dX12_round_88 rfl (Nat.le_of_ble_eq_true rfl) rfl rfl e_q1 rfl (c_X12_statement hg e_h1) ?_
        refine zr_aload_n (v := .inl (some l0)) dX12_round_91 rfl rfl ?_
        revert hf; refine zbi (fun x3 e_x3 hf => ?_)
        refine zq_getI kg_515 dX12_round_92 e_x3 ?_
        by_cases hc3 : x3 = 0
        · rw [if_pos hc3] at hf
          refine zr_ifne_f 73 dX12_round_95 (by decide) hc3 ?_
          refine zr_aload_n (v := .inl (some l0)) dX12_round_98 rfl rfl ?_
          revert hf; refine zbi (fun q2 e_q2 hf => ?_)
          revert hf; refine zbi (fun h2 e_h2 hf => ?_)
          refine zq_callV (J' := jX12_next) (as := []) (rest := []) (r1 := none) (q := (RX12, TX12, 31)) kw_636 km_X12_next kt_583 dX12_round_99 rfl (Nat.le_of_ble_eq_true rfl) rfl rfl e_q2 rfl (c_X12_next hg e_h2) ?_
          refine zr_goto (tgt := 73) dX12_round_102 (by decide) ?_
          exact ih l0 h2 r h' hf
        · rw [if_neg hc3] at hf
          refine zr_ifne_t (tgt := 73) dX12_round_95 (by decide) hc3 ?_
          exact ih l0 h1 r h' hf
    · rw [if_neg hc1] at hf
      refine zr_ifne_t (tgt := 105) dX12_round_77 (by decide) hc1 ?_
      exact s_X12_round_105 hg N l0 h r h' hf
def f_X12_round_51 (N : Nat) : Nat → Nat → Int32 → zH → Option (Int32 × zH)
  | 0, _, _, _ => none
  | n + 1, l0, l1, h => if (3 : Int32) ≤ l1 then (zck h 12 (some l0)).bind fun q1 => (f_X12_next N q1 h).bind fun h1 => f_X12_round_73 N N l0 h1 else (zgR h 12 (some l0) 22).bind fun x1 => (zst h 3 x1 l1 (vp_nar .boolean (0 : Int32))).bind fun h2 => f_X12_round_51 N n l0 (l1 + (1 : Int32)) h2
set_option maxHeartbeats 4000000 in
set_option maxRecDepth 100000 in
theorem s_X12_round_51 {g : zG} (hg : g.2.1.map (fun q => q.2) = zty) {h0 : zH} (N : Nat) : ∀ (n : Nat) (l0 : Nat) (l1 : Int32) (h : zH) (r : Int32) (h' : zH), f_X12_round_51 N n l0 l1 h = some (r, h') → zR g jX12_round h0 51 [some (zr (some l0)), some (zi l1)] [] h (some (zi r)) h' := by
  intro n
  induction n with
  | zero =>
    intro l0 l1 h r h' hf
    cases hf
  | succ n ih =>
    intro l0 l1 h r h' hf
    rw [f_X12_round_51] at hf
    refine zr_iload_n (x := l1) dX12_round_51 rfl rfl ?_
    refine zr_iconst (v := (3 : Int32)) dX12_round_52 (by decide) ?_
    by_cases hc1 : (3 : Int32) ≤ l1
    · rw [if_pos hc1] at hf
      refine zr_icge_t (tgt := 69) dX12_round_53 (by decide) hc1 ?_
      refine zr_aload_n (v := .inl (some l0)) dX12_round_69 rfl rfl ?_
      revert hf; refine zbi (fun q1 e_q1 hf => ?_)
      revert hf; refine zbi (fun h1 e_h1 hf => ?_)
      refine zq_callV (J' := jX12_next) (as := []) (rest := []) (r1 := none) (q := (RX12, TX12, 31)) kw_636 km_X12_next kt_583 dX12_round_70 rfl (Nat.le_of_ble_eq_true rfl) rfl rfl e_q1 rfl (c_X12_next hg e_h1) ?_
      refine zr_forget 1 (L' := [some (zr (some l0)), none]) rfl ?_
      exact s_X12_round_73 hg N N l0 h1 r h' hf
    · rw [if_neg hc1] at hf
      refine zr_icge_f 69 dX12_round_53 (by decide) hc1 ?_
      refine zr_aload_n (v := .inl (some l0)) dX12_round_56 rfl rfl ?_
      revert hf; refine zbi (fun x1 e_x1 hf => ?_)
      refine zq_getR kg_551 dX12_round_57 e_x1 ?_
      refine zr_iload_n (x := l1) dX12_round_60 rfl rfl ?_
      refine zr_iconst (v := (0 : Int32)) dX12_round_61 (by decide) ?_
      revert hf; refine zbi (fun h2 e_h2 hf => ?_)
      refine zq_zast dX12_round_62 e_h2 ?_
      refine zq_iinc (x := l1) (y := (1 : Int32)) (L' := [some (zr (some l0)), some (zi (l1 + (1 : Int32)))]) dX12_round_63 rfl (by decide) (by decide) rfl ?_
      refine zr_goto (tgt := 51) dX12_round_66 (by decide) ?_
      exact ih l0 (l1 + (1 : Int32)) h2 r h' hf
def f_X12_round_30 (N : Nat) : Nat → Nat → Int32 → zH → Option (Int32 × zH)
  | 0, _, _, _ => none
  | n + 1, l0, l1, h => if (125 : Int32) ≤ l1 then f_X12_round_51 N N l0 (0 : Int32) h else (zgR h 12 (some l0) 21).bind fun x1 => (zst h 0 x1 l1 (0 : Int32)).bind fun h1 => f_X12_round_30 N n l0 (l1 + (1 : Int32)) h1
set_option maxHeartbeats 4000000 in
set_option maxRecDepth 100000 in
theorem s_X12_round_30 {g : zG} (hg : g.2.1.map (fun q => q.2) = zty) {h0 : zH} (N : Nat) : ∀ (n : Nat) (l0 : Nat) (l1 : Int32) (h : zH) (r : Int32) (h' : zH), f_X12_round_30 N n l0 l1 h = some (r, h') → zR g jX12_round h0 30 [some (zr (some l0)), some (zi l1)] [] h (some (zi r)) h' := by
  intro n
  induction n with
  | zero =>
    intro l0 l1 h r h' hf
    cases hf
  | succ n ih =>
    intro l0 l1 h r h' hf
    rw [f_X12_round_30] at hf
    refine zr_iload_n (x := l1) dX12_round_30 rfl rfl ?_
    refine zr_bipush (v := (125 : Int32)) dX12_round_31 (by decide) ?_
    by_cases hc1 : (125 : Int32) ≤ l1
    · rw [if_pos hc1] at hf
      refine zr_icge_t (tgt := 49) dX12_round_33 (by decide) hc1 ?_
      refine zr_iconst (v := (0 : Int32)) dX12_round_49 (by decide) ?_
      refine zq_istore_n (x := (0 : Int32)) (L' := [some (zr (some l0)), some (zi (0 : Int32))]) dX12_round_50 rfl (by decide) rfl ?_
      exact s_X12_round_51 hg N N l0 (0 : Int32) h r h' hf
    · rw [if_neg hc1] at hf
      refine zr_icge_f 49 dX12_round_33 (by decide) hc1 ?_
      refine zr_aload_n (v := .inl (some l0)) dX12_round_36 rfl rfl ?_
      revert hf; refine zbi (fun x1 e_x1 hf => ?_)
      refine zq_getR kg_537 dX12_round_37 e_x1 ?_
      refine zr_iload_n (x := l1) dX12_round_40 rfl rfl ?_
      refine zr_iconst (v := (0 : Int32)) dX12_round_41 (by decide) ?_
      revert hf; refine zbi (fun h1 e_h1 hf => ?_)
      refine zq_iast dX12_round_42 e_h1 ?_
      refine zq_iinc (x := l1) (y := (1 : Int32)) (L' := [some (zr (some l0)), some (zi (l1 + (1 : Int32)))]) dX12_round_43 rfl (by decide) (by decide) rfl ?_
      refine zr_goto (tgt := 30) dX12_round_46 (by decide) ?_
      exact ih l0 (l1 + (1 : Int32)) h1 r h' hf
def f_X12_round (N : Nat) (l0 : Nat) (h : zH) : Option (Int32 × zH) := (zpu h 12 (some l0) 4 (zi (0 : Int32))).bind fun h1 => (zgI h1 12 (some l0) 3).bind fun x1 => (zpu h1 12 (some l0) 5 (zi x1)).bind fun h2 => (zpu h2 12 (some l0) 3 (zi (0 : Int32))).bind fun h3 => (zpu h3 12 (some l0) 9 (zi (0 : Int32))).bind fun h4 => (zpu h4 12 (some l0) 10 (zi ((-1) : Int32))).bind fun h5 => f_X12_round_30 N N l0 (0 : Int32) h5
set_option maxHeartbeats 4000000 in
set_option maxRecDepth 100000 in
theorem s_X12_round {g : zG} (hg : g.2.1.map (fun q => q.2) = zty) {h0 : zH} (N : Nat) (l0 : Nat) (h : zH) (r : Int32) (h' : zH) (hf : f_X12_round N l0 h = some (r, h')) : zR g jX12_round h0 0 [some (zr (some l0)), none] [] h (some (zi r)) h' := by
  unfold f_X12_round at hf
  refine zr_aload_n (v := .inl (some l0)) dX12_round_0 rfl rfl ?_
  refine zr_iconst (v := (0 : Int32)) dX12_round_1 (by decide) ?_
  revert hf; refine zbi (fun h1 e_h1 hf => ?_)
  refine zq_put (kp_519 _) dX12_round_2 (zn_i _) e_h1 ?_
  refine zr_aload_n (v := .inl (some l0)) dX12_round_5 rfl rfl ?_
  refine zr_aload_n (v := .inl (some l0)) dX12_round_6 rfl rfl ?_
  revert hf; refine zbi (fun x1 e_x1 hf => ?_)
  refine zq_getI kg_513 dX12_round_7 e_x1 ?_
  revert hf; refine zbi (fun h2 e_h2 hf => ?_)
  refine zq_put (kp_584 _) dX12_round_10 (zn_i _) e_h2 ?_
  refine zr_aload_n (v := .inl (some l0)) dX12_round_13 rfl rfl ?_
  refine zr_iconst (v := (0 : Int32)) dX12_round_14 (by decide) ?_
  revert hf; refine zbi (fun h3 e_h3 hf => ?_)
  refine zq_put (kp_514 _) dX12_round_15 (zn_i _) e_h3 ?_
  refine zr_aload_n (v := .inl (some l0)) dX12_round_18 rfl rfl ?_
  refine zr_iconst (v := (0 : Int32)) dX12_round_19 (by decide) ?_
  revert hf; refine zbi (fun h4 e_h4 hf => ?_)
  refine zq_put (kp_516 _) dX12_round_20 (zn_i _) e_h4 ?_
  refine zr_aload_n (v := .inl (some l0)) dX12_round_23 rfl rfl ?_
  refine zr_iconst (v := ((-1) : Int32)) dX12_round_24 (by decide) ?_
  revert hf; refine zbi (fun h5 e_h5 hf => ?_)
  refine zq_put (kp_517 _) dX12_round_25 (zn_i _) e_h5 ?_
  refine zr_iconst (v := (0 : Int32)) dX12_round_28 (by decide) ?_
  refine zq_istore_n (x := (0 : Int32)) (L' := [some (zr (some l0)), some (zi (0 : Int32))]) dX12_round_29 rfl (by decide) rfl ?_
  exact s_X12_round_30 hg N N l0 (0 : Int32) h5 r h' hf
theorem c_X12_round {g : zG} (hg : g.2.1.map (fun q => q.2) = zty) {N : Nat} {l0 : Nat} {h : zH} {r : Int32} {h' : zH} (hf : f_X12_round N l0 h = some (r, h')) : zCa g jX12_round [zr (some l0)] h (some (zi r)) h' :=
  zCa.of hg (by decide +kernel) (Nat.le_of_ble_eq_true rfl) (s_X12_round hg N l0 h r h' hf)
theorem dX12_fault_0 : decode cX12_fault 0 = .ok (.iload_n 1, 1) := by decide +kernel
theorem dX12_fault_1 : decode cX12_fault 1 = .ok (.ifCond .ne 10, 3) := by decide +kernel
theorem dX12_fault_4 : decode cX12_fault 4 = .ok (.aload_n 0, 1) := by decide +kernel
theorem dX12_fault_5 : decode cX12_fault 5 = .ok (.getfield 141, 3) := by decide +kernel
theorem dX12_fault_8 : decode cX12_fault 8 = .ok (.goto 16, 3) := by decide +kernel
theorem dX12_fault_11 : decode cX12_fault 11 = .ok (.iload_n 1, 1) := by decide +kernel
theorem dX12_fault_12 : decode cX12_fault 12 = .ok (.iconst 1, 1) := by decide +kernel
theorem dX12_fault_13 : decode cX12_fault 13 = .ok (.if_icmp .ne 10, 3) := by decide +kernel
theorem dX12_fault_16 : decode cX12_fault 16 = .ok (.aload_n 0, 1) := by decide +kernel
theorem dX12_fault_17 : decode cX12_fault 17 = .ok (.getfield 17, 3) := by decide +kernel
theorem dX12_fault_20 : decode cX12_fault 20 = .ok (.goto 4, 3) := by decide +kernel
theorem dX12_fault_23 : decode cX12_fault 23 = .ok (.iconst (-1), 1) := by decide +kernel
theorem dX12_fault_24 : decode cX12_fault 24 = .ok (.ireturn, 1) := by decide +kernel
def f_X12_fault (N : Nat) (l0 : Nat) (l1 : Int32) (h : zH) : Option Int32 := if l1 = 0 then (zgI h 12 (some l0) 11).bind fun x2 => some x2 else if l1 = (1 : Int32) then (zgI h 12 (some l0) 12).bind fun x1 => some x1 else some ((-1) : Int32)
set_option maxHeartbeats 4000000 in
set_option maxRecDepth 100000 in
theorem s_X12_fault {g : zG} (hg : g.2.1.map (fun q => q.2) = zty) {h0 : zH} (N : Nat) (l0 : Nat) (l1 : Int32) (h : zH) (r : Int32) (hf : f_X12_fault N l0 l1 h = some r) : zR g jX12_fault h0 0 [some (zr (some l0)), some (zi l1)] [] h (some (zi r)) h := by
  unfold f_X12_fault at hf
  refine zr_iload_n (x := l1) dX12_fault_0 rfl rfl ?_
  by_cases hc1 : l1 = 0
  · rw [if_pos hc1] at hf
    refine zr_ifne_f 11 dX12_fault_1 (by decide) hc1 ?_
    refine zr_aload_n (v := .inl (some l0)) dX12_fault_4 rfl rfl ?_
    revert hf; refine zbi (fun x2 e_x2 hf => ?_)
    refine zq_getI kg_586 dX12_fault_5 e_x2 ?_
    refine zr_goto (tgt := 24) dX12_fault_8 (by decide) ?_
    cases hf
    exact zr_ret _ rfl dX12_fault_24
  · rw [if_neg hc1] at hf
    refine zr_ifne_t (tgt := 11) dX12_fault_1 (by decide) hc1 ?_
    refine zr_iload_n (x := l1) dX12_fault_11 rfl rfl ?_
    refine zr_iconst (v := (1 : Int32)) dX12_fault_12 (by decide) ?_
    by_cases hc2 : l1 = (1 : Int32)
    · rw [if_pos hc2] at hf
      refine zr_icne_f 23 dX12_fault_13 (by decide) hc2 ?_
      refine zr_aload_n (v := .inl (some l0)) dX12_fault_16 rfl rfl ?_
      revert hf; refine zbi (fun x1 e_x1 hf => ?_)
      refine zq_getI kg_585 dX12_fault_17 e_x1 ?_
      refine zr_goto (tgt := 24) dX12_fault_20 (by decide) ?_
      cases hf
      exact zr_ret _ rfl dX12_fault_24
    · rw [if_neg hc2] at hf
      refine zr_icne_t (tgt := 23) dX12_fault_13 (by decide) hc2 ?_
      refine zr_iconst (v := ((-1) : Int32)) dX12_fault_23 (by decide) ?_
      cases hf
      exact zr_ret _ rfl dX12_fault_24
theorem c_X12_fault {g : zG} (hg : g.2.1.map (fun q => q.2) = zty) {N : Nat} {l0 : Nat} {l1 : Int32} {h : zH} {r : Int32} (hf : f_X12_fault N l0 l1 h = some r) : zCa g jX12_fault [zr (some l0), zi l1] h (some (zi r)) h :=
  zCa.of hg (by decide +kernel) (Nat.le_of_ble_eq_true rfl) (s_X12_fault hg N l0 l1 h r hf)
theorem dX12_isArcher_0 : decode cX12_isArcher 0 = .ok (.iload_n 1, 1) := by decide +kernel
theorem dX12_isArcher_1 : decode cX12_isArcher 1 = .ok (.ifCond .lt 26, 3) := by decide +kernel
theorem dX12_isArcher_4 : decode cX12_isArcher 4 = .ok (.iload_n 1, 1) := by decide +kernel
theorem dX12_isArcher_5 : decode cX12_isArcher 5 = .ok (.bipush 16, 2) := by decide +kernel
theorem dX12_isArcher_7 : decode cX12_isArcher 7 = .ok (.if_icmp .ge 20, 3) := by decide +kernel
theorem dX12_isArcher_10 : decode cX12_isArcher 10 = .ok (.aload_n 0, 1) := by decide +kernel
theorem dX12_isArcher_11 : decode cX12_isArcher 11 = .ok (.getfield 8, 3) := by decide +kernel
theorem dX12_isArcher_14 : decode cX12_isArcher 14 = .ok (.bipush 125, 2) := by decide +kernel
theorem dX12_isArcher_16 : decode cX12_isArcher 16 = .ok (.iload_n 1, 1) := by decide +kernel
theorem dX12_isArcher_17 : decode cX12_isArcher 17 = .ok (.iadd, 1) := by decide +kernel
theorem dX12_isArcher_18 : decode cX12_isArcher 18 = .ok (.iaload, 1) := by decide +kernel
theorem dX12_isArcher_19 : decode cX12_isArcher 19 = .ok (.iconst (-1), 1) := by decide +kernel
theorem dX12_isArcher_20 : decode cX12_isArcher 20 = .ok (.if_icmp .eq 7, 3) := by decide +kernel
theorem dX12_isArcher_23 : decode cX12_isArcher 23 = .ok (.iconst 1, 1) := by decide +kernel
theorem dX12_isArcher_24 : decode cX12_isArcher 24 = .ok (.goto 4, 3) := by decide +kernel
theorem dX12_isArcher_27 : decode cX12_isArcher 27 = .ok (.iconst 0, 1) := by decide +kernel
theorem dX12_isArcher_28 : decode cX12_isArcher 28 = .ok (.ireturn, 1) := by decide +kernel
def f_X12_isArcher (N : Nat) (l0 : Nat) (l1 : Int32) (h : zH) : Option Int32 := if l1 < 0 then some (0 : Int32) else if (16 : Int32) ≤ l1 then some (0 : Int32) else (zgR h 12 (some l0) 0).bind fun x1 => (zld h 0 x1 ((125 : Int32) + l1)).bind fun x2 => if x2 = ((-1) : Int32) then some (0 : Int32) else some (1 : Int32)
set_option maxHeartbeats 4000000 in
set_option maxRecDepth 100000 in
theorem s_X12_isArcher {g : zG} (hg : g.2.1.map (fun q => q.2) = zty) {h0 : zH} (N : Nat) (l0 : Nat) (l1 : Int32) (h : zH) (r : Int32) (hf : f_X12_isArcher N l0 l1 h = some r) : zR g jX12_isArcher h0 0 [some (zr (some l0)), some (zi l1)] [] h (some (zi r)) h := by
  unfold f_X12_isArcher at hf
  refine zr_iload_n (x := l1) dX12_isArcher_0 rfl rfl ?_
  by_cases hc1 : l1 < 0
  · rw [if_pos hc1] at hf
    refine zr_iflt_t (tgt := 27) dX12_isArcher_1 (by decide) hc1 ?_
    refine zr_iconst (v := (0 : Int32)) dX12_isArcher_27 (by decide) ?_
    cases hf
    exact zr_ret _ rfl dX12_isArcher_28
  · rw [if_neg hc1] at hf
    refine zr_iflt_f 27 dX12_isArcher_1 (by decide) hc1 ?_
    refine zr_iload_n (x := l1) dX12_isArcher_4 rfl rfl ?_
    refine zr_bipush (v := (16 : Int32)) dX12_isArcher_5 (by decide) ?_
    by_cases hc2 : (16 : Int32) ≤ l1
    · rw [if_pos hc2] at hf
      refine zr_icge_t (tgt := 27) dX12_isArcher_7 (by decide) hc2 ?_
      refine zr_iconst (v := (0 : Int32)) dX12_isArcher_27 (by decide) ?_
      cases hf
      exact zr_ret _ rfl dX12_isArcher_28
    · rw [if_neg hc2] at hf
      refine zr_icge_f 27 dX12_isArcher_7 (by decide) hc2 ?_
      refine zr_aload_n (v := .inl (some l0)) dX12_isArcher_10 rfl rfl ?_
      revert hf; refine zbi (fun x1 e_x1 hf => ?_)
      refine zq_getR kg_490 dX12_isArcher_11 e_x1 ?_
      refine zr_bipush (v := (125 : Int32)) dX12_isArcher_14 (by decide) ?_
      refine zr_iload_n (x := l1) dX12_isArcher_16 rfl rfl ?_
      refine zr_iadd dX12_isArcher_17 ?_
      revert hf; refine zbi (fun x2 e_x2 hf => ?_)
      refine zq_iald dX12_isArcher_18 e_x2 ?_
      refine zr_iconst (v := ((-1) : Int32)) dX12_isArcher_19 (by decide) ?_
      by_cases hc3 : x2 = ((-1) : Int32)
      · rw [if_pos hc3] at hf
        refine zr_iceq_t (tgt := 27) dX12_isArcher_20 (by decide) hc3 ?_
        refine zr_iconst (v := (0 : Int32)) dX12_isArcher_27 (by decide) ?_
        cases hf
        exact zr_ret _ rfl dX12_isArcher_28
      · rw [if_neg hc3] at hf
        refine zr_iceq_f 27 dX12_isArcher_20 (by decide) hc3 ?_
        refine zr_iconst (v := (1 : Int32)) dX12_isArcher_23 (by decide) ?_
        refine zr_goto (tgt := 28) dX12_isArcher_24 (by decide) ?_
        cases hf
        exact zr_ret _ rfl dX12_isArcher_28
theorem c_X12_isArcher {g : zG} (hg : g.2.1.map (fun q => q.2) = zty) {N : Nat} {l0 : Nat} {l1 : Int32} {h : zH} {r : Int32} (hf : f_X12_isArcher N l0 l1 h = some r) : zCa g jX12_isArcher [zr (some l0), zi l1] h (some (zi r)) h :=
  zCa.of hg (by decide +kernel) (Nat.le_of_ble_eq_true rfl) (s_X12_isArcher hg N l0 l1 h r hf)
theorem dX12_archer_0 : decode cX12_archer 0 = .ok (.iconst 0, 1) := by decide +kernel
theorem dX12_archer_1 : decode cX12_archer 1 = .ok (.istore_n 2, 1) := by decide +kernel
theorem dX12_archer_2 : decode cX12_archer 2 = .ok (.iload_n 2, 1) := by decide +kernel
theorem dX12_archer_3 : decode cX12_archer 3 = .ok (.bipush 16, 2) := by decide +kernel
theorem dX12_archer_5 : decode cX12_archer 5 = .ok (.if_icmp .ge 22, 3) := by decide +kernel
theorem dX12_archer_8 : decode cX12_archer 8 = .ok (.aload_n 0, 1) := by decide +kernel
theorem dX12_archer_9 : decode cX12_archer 9 = .ok (.getfield 8, 3) := by decide +kernel
theorem dX12_archer_12 : decode cX12_archer 12 = .ok (.bipush 125, 2) := by decide +kernel
theorem dX12_archer_14 : decode cX12_archer 14 = .ok (.iload_n 2, 1) := by decide +kernel
theorem dX12_archer_15 : decode cX12_archer 15 = .ok (.iadd, 1) := by decide +kernel
theorem dX12_archer_16 : decode cX12_archer 16 = .ok (.iaload, 1) := by decide +kernel
theorem dX12_archer_17 : decode cX12_archer 17 = .ok (.iconst (-1), 1) := by decide +kernel
theorem dX12_archer_18 : decode cX12_archer 18 = .ok (.if_icmp .eq 9, 3) := by decide +kernel
theorem dX12_archer_21 : decode cX12_archer 21 = .ok (.iinc 2 1, 3) := by decide +kernel
theorem dX12_archer_24 : decode cX12_archer 24 = .ok (.goto (-22), 3) := by decide +kernel
theorem dX12_archer_27 : decode cX12_archer 27 = .ok (.iload_n 1, 1) := by decide +kernel
theorem dX12_archer_28 : decode cX12_archer 28 = .ok (.ifCond .lt 15, 3) := by decide +kernel
theorem dX12_archer_31 : decode cX12_archer 31 = .ok (.iload_n 1, 1) := by decide +kernel
theorem dX12_archer_32 : decode cX12_archer 32 = .ok (.bipush 7, 2) := by decide +kernel
theorem dX12_archer_34 : decode cX12_archer 34 = .ok (.if_icmp .gt 9, 3) := by decide +kernel
theorem dX12_archer_37 : decode cX12_archer 37 = .ok (.iload_n 2, 1) := by decide +kernel
theorem dX12_archer_38 : decode cX12_archer 38 = .ok (.bipush 16, 2) := by decide +kernel
theorem dX12_archer_40 : decode cX12_archer 40 = .ok (.if_icmp .ne 5, 3) := by decide +kernel
theorem dX12_archer_43 : decode cX12_archer 43 = .ok (.iconst (-1), 1) := by decide +kernel
theorem dX12_archer_44 : decode cX12_archer 44 = .ok (.ireturn, 1) := by decide +kernel
theorem dX12_archer_45 : decode cX12_archer 45 = .ok (.aload_n 0, 1) := by decide +kernel
theorem dX12_archer_46 : decode cX12_archer 46 = .ok (.invokevirtual 144, 3) := by decide +kernel
theorem dX12_archer_49 : decode cX12_archer 49 = .ok (.aload_n 0, 1) := by decide +kernel
theorem dX12_archer_50 : decode cX12_archer 50 = .ok (.getfield 8, 3) := by decide +kernel
theorem dX12_archer_53 : decode cX12_archer 53 = .ok (.bipush 125, 2) := by decide +kernel
theorem dX12_archer_55 : decode cX12_archer 55 = .ok (.iload_n 2, 1) := by decide +kernel
theorem dX12_archer_56 : decode cX12_archer 56 = .ok (.iadd, 1) := by decide +kernel
theorem dX12_archer_57 : decode cX12_archer 57 = .ok (.iload_n 1, 1) := by decide +kernel
theorem dX12_archer_58 : decode cX12_archer 58 = .ok (.iastore, 1) := by decide +kernel
theorem dX12_archer_59 : decode cX12_archer 59 = .ok (.aload_n 0, 1) := by decide +kernel
theorem dX12_archer_60 : decode cX12_archer 60 = .ok (.getfield 8, 3) := by decide +kernel
theorem dX12_archer_63 : decode cX12_archer 63 = .ok (.sipush 141, 3) := by decide +kernel
theorem dX12_archer_66 : decode cX12_archer 66 = .ok (.iload_n 2, 1) := by decide +kernel
theorem dX12_archer_67 : decode cX12_archer 67 = .ok (.iadd, 1) := by decide +kernel
theorem dX12_archer_68 : decode cX12_archer 68 = .ok (.iconst 0, 1) := by decide +kernel
theorem dX12_archer_69 : decode cX12_archer 69 = .ok (.iastore, 1) := by decide +kernel
theorem dX12_archer_70 : decode cX12_archer 70 = .ok (.aload_n 0, 1) := by decide +kernel
theorem dX12_archer_71 : decode cX12_archer 71 = .ok (.getfield 8, 3) := by decide +kernel
theorem dX12_archer_74 : decode cX12_archer 74 = .ok (.sipush 4765, 3) := by decide +kernel
theorem dX12_archer_77 : decode cX12_archer 77 = .ok (.iload_n 2, 1) := by decide +kernel
theorem dX12_archer_78 : decode cX12_archer 78 = .ok (.iadd, 1) := by decide +kernel
theorem dX12_archer_79 : decode cX12_archer 79 = .ok (.iconst 0, 1) := by decide +kernel
theorem dX12_archer_80 : decode cX12_archer 80 = .ok (.iastore, 1) := by decide +kernel
theorem dX12_archer_81 : decode cX12_archer 81 = .ok (.aload_n 0, 1) := by decide +kernel
theorem dX12_archer_82 : decode cX12_archer 82 = .ok (.getfield 8, 3) := by decide +kernel
theorem dX12_archer_85 : decode cX12_archer 85 = .ok (.sipush 4909, 3) := by decide +kernel
theorem dX12_archer_88 : decode cX12_archer 88 = .ok (.iload_n 2, 1) := by decide +kernel
theorem dX12_archer_89 : decode cX12_archer 89 = .ok (.iadd, 1) := by decide +kernel
theorem dX12_archer_90 : decode cX12_archer 90 = .ok (.iconst 0, 1) := by decide +kernel
theorem dX12_archer_91 : decode cX12_archer 91 = .ok (.iastore, 1) := by decide +kernel
theorem dX12_archer_92 : decode cX12_archer 92 = .ok (.aload_n 0, 1) := by decide +kernel
theorem dX12_archer_93 : decode cX12_archer 93 = .ok (.getfield 8, 3) := by decide +kernel
theorem dX12_archer_96 : decode cX12_archer 96 = .ok (.sipush 6881, 3) := by decide +kernel
theorem dX12_archer_99 : decode cX12_archer 99 = .ok (.iload_n 2, 1) := by decide +kernel
theorem dX12_archer_100 : decode cX12_archer 100 = .ok (.iadd, 1) := by decide +kernel
theorem dX12_archer_101 : decode cX12_archer 101 = .ok (.iconst (-1), 1) := by decide +kernel
theorem dX12_archer_102 : decode cX12_archer 102 = .ok (.iastore, 1) := by decide +kernel
theorem dX12_archer_103 : decode cX12_archer 103 = .ok (.iload_n 2, 1) := by decide +kernel
theorem dX12_archer_104 : decode cX12_archer 104 = .ok (.ireturn, 1) := by decide +kernel
def f_X12_archer_27 (N : Nat) (l0 : Nat) (l1 : Int32) (l2 : Int32) (h : zH) : Option (Int32 × zH) := if l1 < 0 then some (((-1) : Int32), h) else if (7 : Int32) < l1 then some (((-1) : Int32), h) else if l2 = (16 : Int32) then some (((-1) : Int32), h) else (zck h 12 (some l0)).bind fun q1 => (f_X12_keeps N q1 h).bind fun h1 => (zgR h1 12 (some l0) 0).bind fun x1 => (zst h1 0 x1 ((125 : Int32) + l2) l1).bind fun h2 => (zgR h2 12 (some l0) 0).bind fun x2 => (zst h2 0 x2 ((141 : Int32) + l2) (0 : Int32)).bind fun h3 => (zgR h3 12 (some l0) 0).bind fun x3 => (zst h3 0 x3 ((4765 : Int32) + l2) (0 : Int32)).bind fun h4 => (zgR h4 12 (some l0) 0).bind fun x4 => (zst h4 0 x4 ((4909 : Int32) + l2) (0 : Int32)).bind fun h5 => (zgR h5 12 (some l0) 0).bind fun x5 => (zst h5 0 x5 ((6881 : Int32) + l2) ((-1) : Int32)).bind fun h6 => some (l2, h6)
set_option maxHeartbeats 4000000 in
set_option maxRecDepth 100000 in
theorem s_X12_archer_27 {g : zG} (hg : g.2.1.map (fun q => q.2) = zty) {h0 : zH} (N : Nat) (l0 : Nat) (l1 : Int32) (l2 : Int32) (h : zH) (r : Int32) (h' : zH) (hf : f_X12_archer_27 N l0 l1 l2 h = some (r, h')) : zR g jX12_archer h0 27 [some (zr (some l0)), some (zi l1), some (zi l2)] [] h (some (zi r)) h' := by
  unfold f_X12_archer_27 at hf
  refine zr_iload_n (x := l1) dX12_archer_27 rfl rfl ?_
  by_cases hc1 : l1 < 0
  · rw [if_pos hc1] at hf
    refine zr_iflt_t (tgt := 43) dX12_archer_28 (by decide) hc1 ?_
    refine zr_iconst (v := ((-1) : Int32)) dX12_archer_43 (by decide) ?_
    cases hf
    exact zr_ret _ rfl dX12_archer_44
  · rw [if_neg hc1] at hf
    refine zr_iflt_f 43 dX12_archer_28 (by decide) hc1 ?_
    refine zr_iload_n (x := l1) dX12_archer_31 rfl rfl ?_
    refine zr_bipush (v := (7 : Int32)) dX12_archer_32 (by decide) ?_
    by_cases hc2 : (7 : Int32) < l1
    · rw [if_pos hc2] at hf
      refine zr_icgt_t (tgt := 43) dX12_archer_34 (by decide) hc2 ?_
      refine zr_iconst (v := ((-1) : Int32)) dX12_archer_43 (by decide) ?_
      cases hf
      exact zr_ret _ rfl dX12_archer_44
    · rw [if_neg hc2] at hf
      refine zr_icgt_f 43 dX12_archer_34 (by decide) hc2 ?_
      refine zr_iload_n (x := l2) dX12_archer_37 rfl rfl ?_
      refine zr_bipush (v := (16 : Int32)) dX12_archer_38 (by decide) ?_
      by_cases hc3 : l2 = (16 : Int32)
      · rw [if_pos hc3] at hf
        refine zr_icne_f 45 dX12_archer_40 (by decide) hc3 ?_
        refine zr_iconst (v := ((-1) : Int32)) dX12_archer_43 (by decide) ?_
        cases hf
        exact zr_ret _ rfl dX12_archer_44
      · rw [if_neg hc3] at hf
        refine zr_icne_t (tgt := 45) dX12_archer_40 (by decide) hc3 ?_
        refine zr_aload_n (v := .inl (some l0)) dX12_archer_45 rfl rfl ?_
        revert hf; refine zbi (fun q1 e_q1 hf => ?_)
        revert hf; refine zbi (fun h1 e_h1 hf => ?_)
        refine zq_callV (J' := jX12_keeps) (as := []) (rest := []) (r1 := none) (q := (RX12, TX12, 31)) kw_674 km_X12_keeps kt_587 dX12_archer_46 rfl (Nat.le_of_ble_eq_true rfl) rfl rfl e_q1 rfl (c_X12_keeps hg e_h1) ?_
        refine zr_aload_n (v := .inl (some l0)) dX12_archer_49 rfl rfl ?_
        revert hf; refine zbi (fun x1 e_x1 hf => ?_)
        refine zq_getR kg_490 dX12_archer_50 e_x1 ?_
        refine zr_bipush (v := (125 : Int32)) dX12_archer_53 (by decide) ?_
        refine zr_iload_n (x := l2) dX12_archer_55 rfl rfl ?_
        refine zr_iadd dX12_archer_56 ?_
        refine zr_iload_n (x := l1) dX12_archer_57 rfl rfl ?_
        revert hf; refine zbi (fun h2 e_h2 hf => ?_)
        refine zq_iast dX12_archer_58 e_h2 ?_
        refine zr_aload_n (v := .inl (some l0)) dX12_archer_59 rfl rfl ?_
        revert hf; refine zbi (fun x2 e_x2 hf => ?_)
        refine zq_getR kg_490 dX12_archer_60 e_x2 ?_
        refine zr_sipush (v := (141 : Int32)) dX12_archer_63 (by decide) ?_
        refine zr_iload_n (x := l2) dX12_archer_66 rfl rfl ?_
        refine zr_iadd dX12_archer_67 ?_
        refine zr_iconst (v := (0 : Int32)) dX12_archer_68 (by decide) ?_
        revert hf; refine zbi (fun h3 e_h3 hf => ?_)
        refine zq_iast dX12_archer_69 e_h3 ?_
        refine zr_aload_n (v := .inl (some l0)) dX12_archer_70 rfl rfl ?_
        revert hf; refine zbi (fun x3 e_x3 hf => ?_)
        refine zq_getR kg_490 dX12_archer_71 e_x3 ?_
        refine zr_sipush (v := (4765 : Int32)) dX12_archer_74 (by decide) ?_
        refine zr_iload_n (x := l2) dX12_archer_77 rfl rfl ?_
        refine zr_iadd dX12_archer_78 ?_
        refine zr_iconst (v := (0 : Int32)) dX12_archer_79 (by decide) ?_
        revert hf; refine zbi (fun h4 e_h4 hf => ?_)
        refine zq_iast dX12_archer_80 e_h4 ?_
        refine zr_aload_n (v := .inl (some l0)) dX12_archer_81 rfl rfl ?_
        revert hf; refine zbi (fun x4 e_x4 hf => ?_)
        refine zq_getR kg_490 dX12_archer_82 e_x4 ?_
        refine zr_sipush (v := (4909 : Int32)) dX12_archer_85 (by decide) ?_
        refine zr_iload_n (x := l2) dX12_archer_88 rfl rfl ?_
        refine zr_iadd dX12_archer_89 ?_
        refine zr_iconst (v := (0 : Int32)) dX12_archer_90 (by decide) ?_
        revert hf; refine zbi (fun h5 e_h5 hf => ?_)
        refine zq_iast dX12_archer_91 e_h5 ?_
        refine zr_aload_n (v := .inl (some l0)) dX12_archer_92 rfl rfl ?_
        revert hf; refine zbi (fun x5 e_x5 hf => ?_)
        refine zq_getR kg_490 dX12_archer_93 e_x5 ?_
        refine zr_sipush (v := (6881 : Int32)) dX12_archer_96 (by decide) ?_
        refine zr_iload_n (x := l2) dX12_archer_99 rfl rfl ?_
        refine zr_iadd dX12_archer_100 ?_
        refine zr_iconst (v := ((-1) : Int32)) dX12_archer_101 (by decide) ?_
        revert hf; refine zbi (fun h6 e_h6 hf => ?_)
        refine zq_iast dX12_archer_102 e_h6 ?_
        refine zr_iload_n (x := l2) dX12_archer_103 rfl rfl ?_
        cases hf
        exact zr_ret _ rfl dX12_archer_104
def f_X12_archer_2 (N : Nat) : Nat → Nat → Int32 → Int32 → zH → Option (Int32 × zH)
  | 0, _, _, _, _ => none
  | n + 1, l0, l1, l2, h => if (16 : Int32) ≤ l2 then f_X12_archer_27 N l0 l1 l2 h else (zgR h 12 (some l0) 0).bind fun x1 => (zld h 0 x1 ((125 : Int32) + l2)).bind fun x2 => if x2 = ((-1) : Int32) then f_X12_archer_27 N l0 l1 l2 h else f_X12_archer_2 N n l0 l1 (l2 + (1 : Int32)) h
set_option maxHeartbeats 4000000 in
set_option maxRecDepth 100000 in
theorem s_X12_archer_2 {g : zG} (hg : g.2.1.map (fun q => q.2) = zty) {h0 : zH} (N : Nat) : ∀ (n : Nat) (l0 : Nat) (l1 : Int32) (l2 : Int32) (h : zH) (r : Int32) (h' : zH), f_X12_archer_2 N n l0 l1 l2 h = some (r, h') → zR g jX12_archer h0 2 [some (zr (some l0)), some (zi l1), some (zi l2)] [] h (some (zi r)) h' := by
  intro n
  induction n with
  | zero =>
    intro l0 l1 l2 h r h' hf
    cases hf
  | succ n ih =>
    intro l0 l1 l2 h r h' hf
    rw [f_X12_archer_2] at hf
    refine zr_iload_n (x := l2) dX12_archer_2 rfl rfl ?_
    refine zr_bipush (v := (16 : Int32)) dX12_archer_3 (by decide) ?_
    by_cases hc1 : (16 : Int32) ≤ l2
    · rw [if_pos hc1] at hf
      refine zr_icge_t (tgt := 27) dX12_archer_5 (by decide) hc1 ?_
      exact s_X12_archer_27 hg N l0 l1 l2 h r h' hf
    · rw [if_neg hc1] at hf
      refine zr_icge_f 27 dX12_archer_5 (by decide) hc1 ?_
      refine zr_aload_n (v := .inl (some l0)) dX12_archer_8 rfl rfl ?_
      revert hf; refine zbi (fun x1 e_x1 hf => ?_)
      refine zq_getR kg_490 dX12_archer_9 e_x1 ?_
      refine zr_bipush (v := (125 : Int32)) dX12_archer_12 (by decide) ?_
      refine zr_iload_n (x := l2) dX12_archer_14 rfl rfl ?_
      refine zr_iadd dX12_archer_15 ?_
      revert hf; refine zbi (fun x2 e_x2 hf => ?_)
      refine zq_iald dX12_archer_16 e_x2 ?_
      refine zr_iconst (v := ((-1) : Int32)) dX12_archer_17 (by decide) ?_
      by_cases hc2 : x2 = ((-1) : Int32)
      · rw [if_pos hc2] at hf
        refine zr_iceq_t (tgt := 27) dX12_archer_18 (by decide) hc2 ?_
        exact s_X12_archer_27 hg N l0 l1 l2 h r h' hf
      · rw [if_neg hc2] at hf
        refine zr_iceq_f 27 dX12_archer_18 (by decide) hc2 ?_
        refine zq_iinc (x := l2) (y := (1 : Int32)) (L' := [some (zr (some l0)), some (zi l1), some (zi (l2 + (1 : Int32)))]) dX12_archer_21 rfl (by decide) (by decide) rfl ?_
        refine zr_goto (tgt := 2) dX12_archer_24 (by decide) ?_
        exact ih l0 l1 (l2 + (1 : Int32)) h r h' hf
def f_X12_archer (N : Nat) (l0 : Nat) (l1 : Int32) (h : zH) : Option (Int32 × zH) := f_X12_archer_2 N N l0 l1 (0 : Int32) h
set_option maxHeartbeats 4000000 in
set_option maxRecDepth 100000 in
theorem s_X12_archer {g : zG} (hg : g.2.1.map (fun q => q.2) = zty) {h0 : zH} (N : Nat) (l0 : Nat) (l1 : Int32) (h : zH) (r : Int32) (h' : zH) (hf : f_X12_archer N l0 l1 h = some (r, h')) : zR g jX12_archer h0 0 [some (zr (some l0)), some (zi l1), none] [] h (some (zi r)) h' := by
  unfold f_X12_archer at hf
  refine zr_iconst (v := (0 : Int32)) dX12_archer_0 (by decide) ?_
  refine zq_istore_n (x := (0 : Int32)) (L' := [some (zr (some l0)), some (zi l1), some (zi (0 : Int32))]) dX12_archer_1 rfl (by decide) rfl ?_
  exact s_X12_archer_2 hg N N l0 l1 (0 : Int32) h r h' hf
theorem c_X12_archer {g : zG} (hg : g.2.1.map (fun q => q.2) = zty) {N : Nat} {l0 : Nat} {l1 : Int32} {h : zH} {r : Int32} {h' : zH} (hf : f_X12_archer N l0 l1 h = some (r, h')) : zCa g jX12_archer [zr (some l0), zi l1] h (some (zi r)) h' :=
  zCa.of hg (by decide +kernel) (Nat.le_of_ble_eq_true rfl) (s_X12_archer hg N l0 l1 h r h' hf)
theorem dX12_leave_0 : decode cX12_leave 0 = .ok (.aload_n 0, 1) := by decide +kernel
theorem dX12_leave_1 : decode cX12_leave 1 = .ok (.iload_n 1, 1) := by decide +kernel
theorem dX12_leave_2 : decode cX12_leave 2 = .ok (.invokevirtual 151, 3) := by decide +kernel
theorem dX12_leave_5 : decode cX12_leave 5 = .ok (.ifCond .ne 5, 3) := by decide +kernel
theorem dX12_leave_8 : decode cX12_leave 8 = .ok (.iconst 0, 1) := by decide +kernel
theorem dX12_leave_9 : decode cX12_leave 9 = .ok (.ireturn, 1) := by decide +kernel
theorem dX12_leave_10 : decode cX12_leave 10 = .ok (.aload_n 0, 1) := by decide +kernel
theorem dX12_leave_11 : decode cX12_leave 11 = .ok (.invokevirtual 144, 3) := by decide +kernel
theorem dX12_leave_14 : decode cX12_leave 14 = .ok (.aload_n 0, 1) := by decide +kernel
theorem dX12_leave_15 : decode cX12_leave 15 = .ok (.getfield 8, 3) := by decide +kernel
theorem dX12_leave_18 : decode cX12_leave 18 = .ok (.bipush 125, 2) := by decide +kernel
theorem dX12_leave_20 : decode cX12_leave 20 = .ok (.iload_n 1, 1) := by decide +kernel
theorem dX12_leave_21 : decode cX12_leave 21 = .ok (.iadd, 1) := by decide +kernel
theorem dX12_leave_22 : decode cX12_leave 22 = .ok (.iconst (-1), 1) := by decide +kernel
theorem dX12_leave_23 : decode cX12_leave 23 = .ok (.iastore, 1) := by decide +kernel
theorem dX12_leave_24 : decode cX12_leave 24 = .ok (.aload_n 0, 1) := by decide +kernel
theorem dX12_leave_25 : decode cX12_leave 25 = .ok (.getfield 8, 3) := by decide +kernel
theorem dX12_leave_28 : decode cX12_leave 28 = .ok (.sipush 6881, 3) := by decide +kernel
theorem dX12_leave_31 : decode cX12_leave 31 = .ok (.iload_n 1, 1) := by decide +kernel
theorem dX12_leave_32 : decode cX12_leave 32 = .ok (.iadd, 1) := by decide +kernel
theorem dX12_leave_33 : decode cX12_leave 33 = .ok (.iconst (-1), 1) := by decide +kernel
theorem dX12_leave_34 : decode cX12_leave 34 = .ok (.iastore, 1) := by decide +kernel
theorem dX12_leave_35 : decode cX12_leave 35 = .ok (.iconst 1, 1) := by decide +kernel
theorem dX12_leave_36 : decode cX12_leave 36 = .ok (.ireturn, 1) := by decide +kernel
def f_X12_leave (N : Nat) (l0 : Nat) (l1 : Int32) (h : zH) : Option (Int32 × zH) := (zck h 12 (some l0)).bind fun q1 => (f_X12_isArcher N q1 l1 h).bind fun x1 => if x1 = 0 then some ((0 : Int32), h) else (zck h 12 (some l0)).bind fun q2 => (f_X12_keeps N q2 h).bind fun h1 => (zgR h1 12 (some l0) 0).bind fun x2 => (zst h1 0 x2 ((125 : Int32) + l1) ((-1) : Int32)).bind fun h2 => (zgR h2 12 (some l0) 0).bind fun x3 => (zst h2 0 x3 ((6881 : Int32) + l1) ((-1) : Int32)).bind fun h3 => some ((1 : Int32), h3)
set_option maxHeartbeats 4000000 in
set_option maxRecDepth 100000 in
theorem s_X12_leave {g : zG} (hg : g.2.1.map (fun q => q.2) = zty) {h0 : zH} (N : Nat) (l0 : Nat) (l1 : Int32) (h : zH) (r : Int32) (h' : zH) (hf : f_X12_leave N l0 l1 h = some (r, h')) : zR g jX12_leave h0 0 [some (zr (some l0)), some (zi l1)] [] h (some (zi r)) h' := by
  unfold f_X12_leave at hf
  refine zr_aload_n (v := .inl (some l0)) dX12_leave_0 rfl rfl ?_
  refine zr_iload_n (x := l1) dX12_leave_1 rfl rfl ?_
  revert hf; refine zbi (fun q1 e_q1 hf => ?_)
  revert hf; refine zbi (fun x1 e_x1 hf => ?_)
  refine zq_callV (J' := jX12_isArcher) (as := [zi l1]) (rest := []) (r1 := (some (zi x1))) (q := (RX12, TX12, 31)) kw_682 km_X12_isArcher kt_589 dX12_leave_2 rfl (Nat.le_of_ble_eq_true rfl) rfl rfl e_q1 rfl (c_X12_isArcher hg e_x1) ?_
  by_cases hc1 : x1 = 0
  · rw [if_pos hc1] at hf
    refine zr_ifne_f 10 dX12_leave_5 (by decide) hc1 ?_
    refine zr_iconst (v := (0 : Int32)) dX12_leave_8 (by decide) ?_
    cases hf
    exact zr_ret _ rfl dX12_leave_9
  · rw [if_neg hc1] at hf
    refine zr_ifne_t (tgt := 10) dX12_leave_5 (by decide) hc1 ?_
    refine zr_aload_n (v := .inl (some l0)) dX12_leave_10 rfl rfl ?_
    revert hf; refine zbi (fun q2 e_q2 hf => ?_)
    revert hf; refine zbi (fun h1 e_h1 hf => ?_)
    refine zq_callV (J' := jX12_keeps) (as := []) (rest := []) (r1 := none) (q := (RX12, TX12, 31)) kw_674 km_X12_keeps kt_590 dX12_leave_11 rfl (Nat.le_of_ble_eq_true rfl) rfl rfl e_q2 rfl (c_X12_keeps hg e_h1) ?_
    refine zr_aload_n (v := .inl (some l0)) dX12_leave_14 rfl rfl ?_
    revert hf; refine zbi (fun x2 e_x2 hf => ?_)
    refine zq_getR kg_490 dX12_leave_15 e_x2 ?_
    refine zr_bipush (v := (125 : Int32)) dX12_leave_18 (by decide) ?_
    refine zr_iload_n (x := l1) dX12_leave_20 rfl rfl ?_
    refine zr_iadd dX12_leave_21 ?_
    refine zr_iconst (v := ((-1) : Int32)) dX12_leave_22 (by decide) ?_
    revert hf; refine zbi (fun h2 e_h2 hf => ?_)
    refine zq_iast dX12_leave_23 e_h2 ?_
    refine zr_aload_n (v := .inl (some l0)) dX12_leave_24 rfl rfl ?_
    revert hf; refine zbi (fun x3 e_x3 hf => ?_)
    refine zq_getR kg_490 dX12_leave_25 e_x3 ?_
    refine zr_sipush (v := (6881 : Int32)) dX12_leave_28 (by decide) ?_
    refine zr_iload_n (x := l1) dX12_leave_31 rfl rfl ?_
    refine zr_iadd dX12_leave_32 ?_
    refine zr_iconst (v := ((-1) : Int32)) dX12_leave_33 (by decide) ?_
    revert hf; refine zbi (fun h3 e_h3 hf => ?_)
    refine zq_iast dX12_leave_34 e_h3 ?_
    refine zr_iconst (v := (1 : Int32)) dX12_leave_35 (by decide) ?_
    cases hf
    exact zr_ret _ rfl dX12_leave_36
theorem c_X12_leave {g : zG} (hg : g.2.1.map (fun q => q.2) = zty) {N : Nat} {l0 : Nat} {l1 : Int32} {h : zH} {r : Int32} {h' : zH} (hf : f_X12_leave N l0 l1 h = some (r, h')) : zCa g jX12_leave [zr (some l0), zi l1] h (some (zi r)) h' :=
  zCa.of hg (by decide +kernel) (Nat.le_of_ble_eq_true rfl) (s_X12_leave hg N l0 l1 h r h' hf)
theorem dX12_legOf_0 : decode cX12_legOf 0 = .ok (.iconst 0, 1) := by decide +kernel
theorem dX12_legOf_1 : decode cX12_legOf 1 = .ok (.istore_n 2, 1) := by decide +kernel
theorem dX12_legOf_2 : decode cX12_legOf 2 = .ok (.iload_n 1, 1) := by decide +kernel
theorem dX12_legOf_3 : decode cX12_legOf 3 = .ok (.istore_n 3, 1) := by decide +kernel
theorem dX12_legOf_4 : decode cX12_legOf 4 = .ok (.iload_n 3, 1) := by decide +kernel
theorem dX12_legOf_5 : decode cX12_legOf 5 = .ok (.aload_n 0, 1) := by decide +kernel
theorem dX12_legOf_6 : decode cX12_legOf 6 = .ok (.getfield 8, 3) := by decide +kernel
theorem dX12_legOf_9 : decode cX12_legOf 9 = .ok (.iconst 2, 1) := by decide +kernel
theorem dX12_legOf_10 : decode cX12_legOf 10 = .ok (.iconst 3, 1) := by decide +kernel
theorem dX12_legOf_11 : decode cX12_legOf 11 = .ok (.iload_n 2, 1) := by decide +kernel
theorem dX12_legOf_12 : decode cX12_legOf 12 = .ok (.imul, 1) := by decide +kernel
theorem dX12_legOf_13 : decode cX12_legOf 13 = .ok (.iadd, 1) := by decide +kernel
theorem dX12_legOf_14 : decode cX12_legOf 14 = .ok (.iaload, 1) := by decide +kernel
theorem dX12_legOf_15 : decode cX12_legOf 15 = .ok (.if_icmp .lt 22, 3) := by decide +kernel
theorem dX12_legOf_18 : decode cX12_legOf 18 = .ok (.iload_n 3, 1) := by decide +kernel
theorem dX12_legOf_19 : decode cX12_legOf 19 = .ok (.aload_n 0, 1) := by decide +kernel
theorem dX12_legOf_20 : decode cX12_legOf 20 = .ok (.getfield 8, 3) := by decide +kernel
theorem dX12_legOf_23 : decode cX12_legOf 23 = .ok (.iconst 2, 1) := by decide +kernel
theorem dX12_legOf_24 : decode cX12_legOf 24 = .ok (.iconst 3, 1) := by decide +kernel
theorem dX12_legOf_25 : decode cX12_legOf 25 = .ok (.iload_n 2, 1) := by decide +kernel
theorem dX12_legOf_26 : decode cX12_legOf 26 = .ok (.imul, 1) := by decide +kernel
theorem dX12_legOf_27 : decode cX12_legOf 27 = .ok (.iadd, 1) := by decide +kernel
theorem dX12_legOf_28 : decode cX12_legOf 28 = .ok (.iaload, 1) := by decide +kernel
theorem dX12_legOf_29 : decode cX12_legOf 29 = .ok (.isub, 1) := by decide +kernel
theorem dX12_legOf_30 : decode cX12_legOf 30 = .ok (.istore_n 3, 1) := by decide +kernel
theorem dX12_legOf_31 : decode cX12_legOf 31 = .ok (.iinc 2 1, 3) := by decide +kernel
theorem dX12_legOf_34 : decode cX12_legOf 34 = .ok (.goto (-30), 3) := by decide +kernel
theorem dX12_legOf_37 : decode cX12_legOf 37 = .ok (.iload_n 2, 1) := by decide +kernel
theorem dX12_legOf_38 : decode cX12_legOf 38 = .ok (.ireturn, 1) := by decide +kernel
def f_X12_legOf_4 (N : Nat) : Nat → Nat → Int32 → Int32 → zH → Option Int32
  | 0, _, _, _, _ => none
  | n + 1, l0, l2, l3, h => (zgR h 12 (some l0) 0).bind fun x1 => (zld h 0 x1 ((2 : Int32) + ((3 : Int32) * l2))).bind fun x2 => if l3 < x2 then some l2 else (zgR h 12 (some l0) 0).bind fun x3 => (zld h 0 x3 ((2 : Int32) + ((3 : Int32) * l2))).bind fun x4 => f_X12_legOf_4 N n l0 (l2 + (1 : Int32)) (l3 - x4) h
set_option maxHeartbeats 4000000 in
set_option maxRecDepth 100000 in
theorem s_X12_legOf_4 {g : zG} (hg : g.2.1.map (fun q => q.2) = zty) {h0 : zH} (N : Nat) : ∀ (n : Nat) (l0 : Nat) (l2 : Int32) (l3 : Int32) (h : zH) (r : Int32), f_X12_legOf_4 N n l0 l2 l3 h = some r → zR g jX12_legOf h0 4 [some (zr (some l0)), none, some (zi l2), some (zi l3)] [] h (some (zi r)) h := by
  intro n
  induction n with
  | zero =>
    intro l0 l2 l3 h r hf
    cases hf
  | succ n ih =>
    intro l0 l2 l3 h r hf
    rw [f_X12_legOf_4] at hf
    refine zr_iload_n (x := l3) dX12_legOf_4 rfl rfl ?_
    refine zr_aload_n (v := .inl (some l0)) dX12_legOf_5 rfl rfl ?_
    revert hf; refine zbi (fun x1 e_x1 hf => ?_)
    refine zq_getR kg_490 dX12_legOf_6 e_x1 ?_
    refine zr_iconst (v := (2 : Int32)) dX12_legOf_9 (by decide) ?_
    refine zr_iconst (v := (3 : Int32)) dX12_legOf_10 (by decide) ?_
    refine zr_iload_n (x := l2) dX12_legOf_11 rfl rfl ?_
    refine zr_imul dX12_legOf_12 ?_
    refine zr_iadd dX12_legOf_13 ?_
    revert hf; refine zbi (fun x2 e_x2 hf => ?_)
    refine zq_iald dX12_legOf_14 e_x2 ?_
    by_cases hc1 : l3 < x2
    · rw [if_pos hc1] at hf
      refine zr_iclt_t (tgt := 37) dX12_legOf_15 (by decide) hc1 ?_
      refine zr_iload_n (x := l2) dX12_legOf_37 rfl rfl ?_
      cases hf
      exact zr_ret _ rfl dX12_legOf_38
    · rw [if_neg hc1] at hf
      refine zr_iclt_f 37 dX12_legOf_15 (by decide) hc1 ?_
      refine zr_iload_n (x := l3) dX12_legOf_18 rfl rfl ?_
      refine zr_aload_n (v := .inl (some l0)) dX12_legOf_19 rfl rfl ?_
      revert hf; refine zbi (fun x3 e_x3 hf => ?_)
      refine zq_getR kg_490 dX12_legOf_20 e_x3 ?_
      refine zr_iconst (v := (2 : Int32)) dX12_legOf_23 (by decide) ?_
      refine zr_iconst (v := (3 : Int32)) dX12_legOf_24 (by decide) ?_
      refine zr_iload_n (x := l2) dX12_legOf_25 rfl rfl ?_
      refine zr_imul dX12_legOf_26 ?_
      refine zr_iadd dX12_legOf_27 ?_
      revert hf; refine zbi (fun x4 e_x4 hf => ?_)
      refine zq_iald dX12_legOf_28 e_x4 ?_
      refine zr_isub dX12_legOf_29 ?_
      refine zq_istore_n (x := (l3 - x4)) (L' := [some (zr (some l0)), none, some (zi l2), some (zi (l3 - x4))]) dX12_legOf_30 rfl (by decide) rfl ?_
      refine zq_iinc (x := l2) (y := (1 : Int32)) (L' := [some (zr (some l0)), none, some (zi (l2 + (1 : Int32))), some (zi (l3 - x4))]) dX12_legOf_31 rfl (by decide) (by decide) rfl ?_
      refine zr_goto (tgt := 4) dX12_legOf_34 (by decide) ?_
      exact ih l0 (l2 + (1 : Int32)) (l3 - x4) h r hf
def f_X12_legOf (N : Nat) (l0 : Nat) (l1 : Int32) (h : zH) : Option Int32 := f_X12_legOf_4 N N l0 (0 : Int32) l1 h
set_option maxHeartbeats 4000000 in
set_option maxRecDepth 100000 in
theorem s_X12_legOf {g : zG} (hg : g.2.1.map (fun q => q.2) = zty) {h0 : zH} (N : Nat) (l0 : Nat) (l1 : Int32) (h : zH) (r : Int32) (hf : f_X12_legOf N l0 l1 h = some r) : zR g jX12_legOf h0 0 [some (zr (some l0)), some (zi l1), none, none] [] h (some (zi r)) h := by
  unfold f_X12_legOf at hf
  refine zr_iconst (v := (0 : Int32)) dX12_legOf_0 (by decide) ?_
  refine zq_istore_n (x := (0 : Int32)) (L' := [some (zr (some l0)), some (zi l1), some (zi (0 : Int32)), none]) dX12_legOf_1 rfl (by decide) rfl ?_
  refine zr_iload_n (x := l1) dX12_legOf_2 rfl rfl ?_
  refine zq_istore_n (x := l1) (L' := [some (zr (some l0)), some (zi l1), some (zi (0 : Int32)), some (zi l1)]) dX12_legOf_3 rfl (by decide) rfl ?_
  refine zr_forget 1 (L' := [some (zr (some l0)), none, some (zi (0 : Int32)), some (zi l1)]) rfl ?_
  exact s_X12_legOf_4 hg N N l0 (0 : Int32) l1 h r hf
theorem c_X12_legOf {g : zG} (hg : g.2.1.map (fun q => q.2) = zty) {N : Nat} {l0 : Nat} {l1 : Int32} {h : zH} {r : Int32} (hf : f_X12_legOf N l0 l1 h = some r) : zCa g jX12_legOf [zr (some l0), zi l1] h (some (zi r)) h :=
  zCa.of hg (by decide +kernel) (Nat.le_of_ble_eq_true rfl) (s_X12_legOf hg N l0 l1 h r hf)
theorem dX12_arrowsOf_0 : decode cX12_arrowsOf 0 = .ok (.iconst 0, 1) := by decide +kernel
theorem dX12_arrowsOf_1 : decode cX12_arrowsOf 1 = .ok (.istore_n 2, 1) := by decide +kernel
theorem dX12_arrowsOf_2 : decode cX12_arrowsOf 2 = .ok (.iconst 0, 1) := by decide +kernel
theorem dX12_arrowsOf_3 : decode cX12_arrowsOf 3 = .ok (.istore_n 3, 1) := by decide +kernel
theorem dX12_arrowsOf_4 : decode cX12_arrowsOf 4 = .ok (.iload_n 3, 1) := by decide +kernel
theorem dX12_arrowsOf_5 : decode cX12_arrowsOf 5 = .ok (.iload_n 1, 1) := by decide +kernel
theorem dX12_arrowsOf_6 : decode cX12_arrowsOf 6 = .ok (.if_icmp .ge 28, 3) := by decide +kernel
theorem dX12_arrowsOf_9 : decode cX12_arrowsOf 9 = .ok (.iload_n 2, 1) := by decide +kernel
theorem dX12_arrowsOf_10 : decode cX12_arrowsOf 10 = .ok (.aload_n 0, 1) := by decide +kernel
theorem dX12_arrowsOf_11 : decode cX12_arrowsOf 11 = .ok (.getfield 8, 3) := by decide +kernel
theorem dX12_arrowsOf_14 : decode cX12_arrowsOf 14 = .ok (.iconst 2, 1) := by decide +kernel
theorem dX12_arrowsOf_15 : decode cX12_arrowsOf 15 = .ok (.iconst 3, 1) := by decide +kernel
theorem dX12_arrowsOf_16 : decode cX12_arrowsOf 16 = .ok (.aload_n 0, 1) := by decide +kernel
theorem dX12_arrowsOf_17 : decode cX12_arrowsOf 17 = .ok (.iload_n 3, 1) := by decide +kernel
theorem dX12_arrowsOf_18 : decode cX12_arrowsOf 18 = .ok (.invokevirtual 154, 3) := by decide +kernel
theorem dX12_arrowsOf_21 : decode cX12_arrowsOf 21 = .ok (.imul, 1) := by decide +kernel
theorem dX12_arrowsOf_22 : decode cX12_arrowsOf 22 = .ok (.iadd, 1) := by decide +kernel
theorem dX12_arrowsOf_23 : decode cX12_arrowsOf 23 = .ok (.iconst 1, 1) := by decide +kernel
theorem dX12_arrowsOf_24 : decode cX12_arrowsOf 24 = .ok (.iadd, 1) := by decide +kernel
theorem dX12_arrowsOf_25 : decode cX12_arrowsOf 25 = .ok (.iaload, 1) := by decide +kernel
theorem dX12_arrowsOf_26 : decode cX12_arrowsOf 26 = .ok (.iadd, 1) := by decide +kernel
theorem dX12_arrowsOf_27 : decode cX12_arrowsOf 27 = .ok (.istore_n 2, 1) := by decide +kernel
theorem dX12_arrowsOf_28 : decode cX12_arrowsOf 28 = .ok (.iinc 3 1, 3) := by decide +kernel
theorem dX12_arrowsOf_31 : decode cX12_arrowsOf 31 = .ok (.goto (-27), 3) := by decide +kernel
theorem dX12_arrowsOf_34 : decode cX12_arrowsOf 34 = .ok (.iload_n 2, 1) := by decide +kernel
theorem dX12_arrowsOf_35 : decode cX12_arrowsOf 35 = .ok (.ireturn, 1) := by decide +kernel
def f_X12_arrowsOf_4 (N : Nat) : Nat → Nat → Int32 → Int32 → Int32 → zH → Option Int32
  | 0, _, _, _, _, _ => none
  | n + 1, l0, l1, l2, l3, h => if l1 ≤ l3 then some l2 else (zgR h 12 (some l0) 0).bind fun x1 => (zck h 12 (some l0)).bind fun q1 => (f_X12_legOf N q1 l3 h).bind fun x2 => (zld h 0 x1 (((2 : Int32) + ((3 : Int32) * x2)) + (1 : Int32))).bind fun x3 => f_X12_arrowsOf_4 N n l0 l1 (l2 + x3) (l3 + (1 : Int32)) h
set_option maxHeartbeats 4000000 in
set_option maxRecDepth 100000 in
theorem s_X12_arrowsOf_4 {g : zG} (hg : g.2.1.map (fun q => q.2) = zty) {h0 : zH} (N : Nat) : ∀ (n : Nat) (l0 : Nat) (l1 : Int32) (l2 : Int32) (l3 : Int32) (h : zH) (r : Int32), f_X12_arrowsOf_4 N n l0 l1 l2 l3 h = some r → zR g jX12_arrowsOf h0 4 [some (zr (some l0)), some (zi l1), some (zi l2), some (zi l3)] [] h (some (zi r)) h := by
  intro n
  induction n with
  | zero =>
    intro l0 l1 l2 l3 h r hf
    cases hf
  | succ n ih =>
    intro l0 l1 l2 l3 h r hf
    rw [f_X12_arrowsOf_4] at hf
    refine zr_iload_n (x := l3) dX12_arrowsOf_4 rfl rfl ?_
    refine zr_iload_n (x := l1) dX12_arrowsOf_5 rfl rfl ?_
    by_cases hc1 : l1 ≤ l3
    · rw [if_pos hc1] at hf
      refine zr_icge_t (tgt := 34) dX12_arrowsOf_6 (by decide) hc1 ?_
      refine zr_iload_n (x := l2) dX12_arrowsOf_34 rfl rfl ?_
      cases hf
      exact zr_ret _ rfl dX12_arrowsOf_35
    · rw [if_neg hc1] at hf
      refine zr_icge_f 34 dX12_arrowsOf_6 (by decide) hc1 ?_
      refine zr_iload_n (x := l2) dX12_arrowsOf_9 rfl rfl ?_
      refine zr_aload_n (v := .inl (some l0)) dX12_arrowsOf_10 rfl rfl ?_
      revert hf; refine zbi (fun x1 e_x1 hf => ?_)
      refine zq_getR kg_490 dX12_arrowsOf_11 e_x1 ?_
      refine zr_iconst (v := (2 : Int32)) dX12_arrowsOf_14 (by decide) ?_
      refine zr_iconst (v := (3 : Int32)) dX12_arrowsOf_15 (by decide) ?_
      refine zr_aload_n (v := .inl (some l0)) dX12_arrowsOf_16 rfl rfl ?_
      refine zr_iload_n (x := l3) dX12_arrowsOf_17 rfl rfl ?_
      revert hf; refine zbi (fun q1 e_q1 hf => ?_)
      revert hf; refine zbi (fun x2 e_x2 hf => ?_)
      refine zq_callV (J' := jX12_legOf) (as := [zi l3]) (rest := [zi (3 : Int32), zi (2 : Int32), zr x1, zi l2]) (r1 := (some (zi x2))) (q := (RX12, TX12, 31)) kw_686 km_X12_legOf kt_592 dX12_arrowsOf_18 rfl (Nat.le_of_ble_eq_true rfl) rfl rfl e_q1 rfl (c_X12_legOf hg e_x2) ?_
      refine zr_imul dX12_arrowsOf_21 ?_
      refine zr_iadd dX12_arrowsOf_22 ?_
      refine zr_iconst (v := (1 : Int32)) dX12_arrowsOf_23 (by decide) ?_
      refine zr_iadd dX12_arrowsOf_24 ?_
      revert hf; refine zbi (fun x3 e_x3 hf => ?_)
      refine zq_iald dX12_arrowsOf_25 e_x3 ?_
      refine zr_iadd dX12_arrowsOf_26 ?_
      refine zq_istore_n (x := (l2 + x3)) (L' := [some (zr (some l0)), some (zi l1), some (zi (l2 + x3)), some (zi l3)]) dX12_arrowsOf_27 rfl (by decide) rfl ?_
      refine zq_iinc (x := l3) (y := (1 : Int32)) (L' := [some (zr (some l0)), some (zi l1), some (zi (l2 + x3)), some (zi (l3 + (1 : Int32)))]) dX12_arrowsOf_28 rfl (by decide) (by decide) rfl ?_
      refine zr_goto (tgt := 4) dX12_arrowsOf_31 (by decide) ?_
      exact ih l0 l1 (l2 + x3) (l3 + (1 : Int32)) h r hf
def f_X12_arrowsOf (N : Nat) (l0 : Nat) (l1 : Int32) (h : zH) : Option Int32 := f_X12_arrowsOf_4 N N l0 l1 (0 : Int32) (0 : Int32) h
set_option maxHeartbeats 4000000 in
set_option maxRecDepth 100000 in
theorem s_X12_arrowsOf {g : zG} (hg : g.2.1.map (fun q => q.2) = zty) {h0 : zH} (N : Nat) (l0 : Nat) (l1 : Int32) (h : zH) (r : Int32) (hf : f_X12_arrowsOf N l0 l1 h = some r) : zR g jX12_arrowsOf h0 0 [some (zr (some l0)), some (zi l1), none, none] [] h (some (zi r)) h := by
  unfold f_X12_arrowsOf at hf
  refine zr_iconst (v := (0 : Int32)) dX12_arrowsOf_0 (by decide) ?_
  refine zq_istore_n (x := (0 : Int32)) (L' := [some (zr (some l0)), some (zi l1), some (zi (0 : Int32)), none]) dX12_arrowsOf_1 rfl (by decide) rfl ?_
  refine zr_iconst (v := (0 : Int32)) dX12_arrowsOf_2 (by decide) ?_
  refine zq_istore_n (x := (0 : Int32)) (L' := [some (zr (some l0)), some (zi l1), some (zi (0 : Int32)), some (zi (0 : Int32))]) dX12_arrowsOf_3 rfl (by decide) rfl ?_
  exact s_X12_arrowsOf_4 hg N N l0 l1 (0 : Int32) (0 : Int32) h r hf
theorem c_X12_arrowsOf {g : zG} (hg : g.2.1.map (fun q => q.2) = zty) {N : Nat} {l0 : Nat} {l1 : Int32} {h : zH} {r : Int32} (hf : f_X12_arrowsOf N l0 l1 h = some r) : zCa g jX12_arrowsOf [zr (some l0), zi l1] h (some (zi r)) h :=
  zCa.of hg (by decide +kernel) (Nat.le_of_ble_eq_true rfl) (s_X12_arrowsOf hg N l0 l1 h r hf)
theorem dX12_sum_0 : decode cX12_sum 0 = .ok (.iconst 0, 1) := by decide +kernel
theorem dX12_sum_1 : decode cX12_sum 1 = .ok (.istore 4, 2) := by decide +kernel
theorem dX12_sum_3 : decode cX12_sum 3 = .ok (.iload_n 2, 1) := by decide +kernel
theorem dX12_sum_4 : decode cX12_sum 4 = .ok (.istore 5, 2) := by decide +kernel
theorem dX12_sum_6 : decode cX12_sum 6 = .ok (.iload 5, 2) := by decide +kernel
theorem dX12_sum_8 : decode cX12_sum 8 = .ok (.iload_n 3, 1) := by decide +kernel
theorem dX12_sum_9 : decode cX12_sum 9 = .ok (.if_icmp .ge 31, 3) := by decide +kernel
theorem dX12_sum_12 : decode cX12_sum 12 = .ok (.iload 4, 2) := by decide +kernel
theorem dX12_sum_14 : decode cX12_sum 14 = .ok (.aload_n 0, 1) := by decide +kernel
theorem dX12_sum_15 : decode cX12_sum 15 = .ok (.getfield 8, 3) := by decide +kernel
theorem dX12_sum_18 : decode cX12_sum 18 = .ok (.sipush 157, 3) := by decide +kernel
theorem dX12_sum_21 : decode cX12_sum 21 = .ok (.sipush 288, 3) := by decide +kernel
theorem dX12_sum_24 : decode cX12_sum 24 = .ok (.iload_n 1, 1) := by decide +kernel
theorem dX12_sum_25 : decode cX12_sum 25 = .ok (.imul, 1) := by decide +kernel
theorem dX12_sum_26 : decode cX12_sum 26 = .ok (.iadd, 1) := by decide +kernel
theorem dX12_sum_27 : decode cX12_sum 27 = .ok (.iload 5, 2) := by decide +kernel
theorem dX12_sum_29 : decode cX12_sum 29 = .ok (.iadd, 1) := by decide +kernel
theorem dX12_sum_30 : decode cX12_sum 30 = .ok (.iaload, 1) := by decide +kernel
theorem dX12_sum_31 : decode cX12_sum 31 = .ok (.iadd, 1) := by decide +kernel
theorem dX12_sum_32 : decode cX12_sum 32 = .ok (.istore 4, 2) := by decide +kernel
theorem dX12_sum_34 : decode cX12_sum 34 = .ok (.iinc 5 1, 3) := by decide +kernel
theorem dX12_sum_37 : decode cX12_sum 37 = .ok (.goto (-31), 3) := by decide +kernel
theorem dX12_sum_40 : decode cX12_sum 40 = .ok (.iload 4, 2) := by decide +kernel
theorem dX12_sum_42 : decode cX12_sum 42 = .ok (.ireturn, 1) := by decide +kernel
def f_X12_sum_6 (N : Nat) : Nat → Nat → Int32 → Int32 → Int32 → Int32 → zH → Option Int32
  | 0, _, _, _, _, _, _ => none
  | n + 1, l0, l1, l3, l4, l5, h => if l3 ≤ l5 then some l4 else (zgR h 12 (some l0) 0).bind fun x1 => (zld h 0 x1 (((157 : Int32) + ((288 : Int32) * l1)) + l5)).bind fun x2 => f_X12_sum_6 N n l0 l1 l3 (l4 + x2) (l5 + (1 : Int32)) h
set_option maxHeartbeats 4000000 in
set_option maxRecDepth 100000 in
theorem s_X12_sum_6 {g : zG} (hg : g.2.1.map (fun q => q.2) = zty) {h0 : zH} (N : Nat) : ∀ (n : Nat) (l0 : Nat) (l1 : Int32) (l3 : Int32) (l4 : Int32) (l5 : Int32) (h : zH) (r : Int32), f_X12_sum_6 N n l0 l1 l3 l4 l5 h = some r → zR g jX12_sum h0 6 [some (zr (some l0)), some (zi l1), none, some (zi l3), some (zi l4), some (zi l5)] [] h (some (zi r)) h := by
  intro n
  induction n with
  | zero =>
    intro l0 l1 l3 l4 l5 h r hf
    cases hf
  | succ n ih =>
    intro l0 l1 l3 l4 l5 h r hf
    rw [f_X12_sum_6] at hf
    refine zr_iload (x := l5) dX12_sum_6 rfl ?_
    refine zr_iload_n (x := l3) dX12_sum_8 rfl rfl ?_
    by_cases hc1 : l3 ≤ l5
    · rw [if_pos hc1] at hf
      refine zr_icge_t (tgt := 40) dX12_sum_9 (by decide) hc1 ?_
      refine zr_iload (x := l4) dX12_sum_40 rfl ?_
      cases hf
      exact zr_ret _ rfl dX12_sum_42
    · rw [if_neg hc1] at hf
      refine zr_icge_f 40 dX12_sum_9 (by decide) hc1 ?_
      refine zr_iload (x := l4) dX12_sum_12 rfl ?_
      refine zr_aload_n (v := .inl (some l0)) dX12_sum_14 rfl rfl ?_
      revert hf; refine zbi (fun x1 e_x1 hf => ?_)
      refine zq_getR kg_490 dX12_sum_15 e_x1 ?_
      refine zr_sipush (v := (157 : Int32)) dX12_sum_18 (by decide) ?_
      refine zr_sipush (v := (288 : Int32)) dX12_sum_21 (by decide) ?_
      refine zr_iload_n (x := l1) dX12_sum_24 rfl rfl ?_
      refine zr_imul dX12_sum_25 ?_
      refine zr_iadd dX12_sum_26 ?_
      refine zr_iload (x := l5) dX12_sum_27 rfl ?_
      refine zr_iadd dX12_sum_29 ?_
      revert hf; refine zbi (fun x2 e_x2 hf => ?_)
      refine zq_iald dX12_sum_30 e_x2 ?_
      refine zr_iadd dX12_sum_31 ?_
      refine zq_istore (x := (l4 + x2)) (L' := [some (zr (some l0)), some (zi l1), none, some (zi l3), some (zi (l4 + x2)), some (zi l5)]) dX12_sum_32 (by decide) rfl ?_
      refine zq_iinc (x := l5) (y := (1 : Int32)) (L' := [some (zr (some l0)), some (zi l1), none, some (zi l3), some (zi (l4 + x2)), some (zi (l5 + (1 : Int32)))]) dX12_sum_34 rfl (by decide) (by decide) rfl ?_
      refine zr_goto (tgt := 6) dX12_sum_37 (by decide) ?_
      exact ih l0 l1 l3 (l4 + x2) (l5 + (1 : Int32)) h r hf
def f_X12_sum (N : Nat) (l0 : Nat) (l1 : Int32) (l2 : Int32) (l3 : Int32) (h : zH) : Option Int32 := f_X12_sum_6 N N l0 l1 l3 (0 : Int32) l2 h
set_option maxHeartbeats 4000000 in
set_option maxRecDepth 100000 in
theorem s_X12_sum {g : zG} (hg : g.2.1.map (fun q => q.2) = zty) {h0 : zH} (N : Nat) (l0 : Nat) (l1 : Int32) (l2 : Int32) (l3 : Int32) (h : zH) (r : Int32) (hf : f_X12_sum N l0 l1 l2 l3 h = some r) : zR g jX12_sum h0 0 [some (zr (some l0)), some (zi l1), some (zi l2), some (zi l3), none, none] [] h (some (zi r)) h := by
  unfold f_X12_sum at hf
  refine zr_iconst (v := (0 : Int32)) dX12_sum_0 (by decide) ?_
  refine zq_istore (x := (0 : Int32)) (L' := [some (zr (some l0)), some (zi l1), some (zi l2), some (zi l3), some (zi (0 : Int32)), none]) dX12_sum_1 (by decide) rfl ?_
  refine zr_iload_n (x := l2) dX12_sum_3 rfl rfl ?_
  refine zq_istore (x := l2) (L' := [some (zr (some l0)), some (zi l1), some (zi l2), some (zi l3), some (zi (0 : Int32)), some (zi l2)]) dX12_sum_4 (by decide) rfl ?_
  refine zr_forget 2 (L' := [some (zr (some l0)), some (zi l1), none, some (zi l3), some (zi (0 : Int32)), some (zi l2)]) rfl ?_
  exact s_X12_sum_6 hg N N l0 l1 l3 (0 : Int32) l2 h r hf
theorem c_X12_sum {g : zG} (hg : g.2.1.map (fun q => q.2) = zty) {N : Nat} {l0 : Nat} {l1 : Int32} {l2 : Int32} {l3 : Int32} {h : zH} {r : Int32} (hf : f_X12_sum N l0 l1 l2 l3 h = some r) : zCa g jX12_sum [zr (some l0), zi l1, zi l2, zi l3] h (some (zi r)) h :=
  zCa.of hg (by decide +kernel) (Nat.le_of_ble_eq_true rfl) (s_X12_sum hg N l0 l1 l2 l3 h r hf)
theorem dX12_lastEnd_0 : decode cX12_lastEnd 0 = .ok (.aload_n 0, 1) := by decide +kernel
theorem dX12_lastEnd_1 : decode cX12_lastEnd 1 = .ok (.getfield 8, 3) := by decide +kernel
theorem dX12_lastEnd_4 : decode cX12_lastEnd 4 = .ok (.sipush 141, 3) := by decide +kernel
theorem dX12_lastEnd_7 : decode cX12_lastEnd 7 = .ok (.iload_n 1, 1) := by decide +kernel
theorem dX12_lastEnd_8 : decode cX12_lastEnd 8 = .ok (.iadd, 1) := by decide +kernel
theorem dX12_lastEnd_9 : decode cX12_lastEnd 9 = .ok (.iaload, 1) := by decide +kernel
theorem dX12_lastEnd_10 : decode cX12_lastEnd 10 = .ok (.istore_n 2, 1) := by decide +kernel
theorem dX12_lastEnd_11 : decode cX12_lastEnd 11 = .ok (.iload_n 2, 1) := by decide +kernel
theorem dX12_lastEnd_12 : decode cX12_lastEnd 12 = .ok (.ifCond .ne 7, 3) := by decide +kernel
theorem dX12_lastEnd_15 : decode cX12_lastEnd 15 = .ok (.iconst 0, 1) := by decide +kernel
theorem dX12_lastEnd_16 : decode cX12_lastEnd 16 = .ok (.goto 20, 3) := by decide +kernel
theorem dX12_lastEnd_19 : decode cX12_lastEnd 19 = .ok (.aload_n 0, 1) := by decide +kernel
theorem dX12_lastEnd_20 : decode cX12_lastEnd 20 = .ok (.iload_n 1, 1) := by decide +kernel
theorem dX12_lastEnd_21 : decode cX12_lastEnd 21 = .ok (.aload_n 0, 1) := by decide +kernel
theorem dX12_lastEnd_22 : decode cX12_lastEnd 22 = .ok (.iload_n 2, 1) := by decide +kernel
theorem dX12_lastEnd_23 : decode cX12_lastEnd 23 = .ok (.iconst 1, 1) := by decide +kernel
theorem dX12_lastEnd_24 : decode cX12_lastEnd 24 = .ok (.isub, 1) := by decide +kernel
theorem dX12_lastEnd_25 : decode cX12_lastEnd 25 = .ok (.invokevirtual 157, 3) := by decide +kernel
theorem dX12_lastEnd_28 : decode cX12_lastEnd 28 = .ok (.aload_n 0, 1) := by decide +kernel
theorem dX12_lastEnd_29 : decode cX12_lastEnd 29 = .ok (.iload_n 2, 1) := by decide +kernel
theorem dX12_lastEnd_30 : decode cX12_lastEnd 30 = .ok (.invokevirtual 157, 3) := by decide +kernel
theorem dX12_lastEnd_33 : decode cX12_lastEnd 33 = .ok (.invokevirtual 160, 3) := by decide +kernel
theorem dX12_lastEnd_36 : decode cX12_lastEnd 36 = .ok (.ireturn, 1) := by decide +kernel
def f_X12_lastEnd (N : Nat) (l0 : Nat) (l1 : Int32) (h : zH) : Option Int32 := (zgR h 12 (some l0) 0).bind fun x1 => (zld h 0 x1 ((141 : Int32) + l1)).bind fun x2 => if x2 = 0 then some (0 : Int32) else (zck h 12 (some l0)).bind fun q1 => (f_X12_arrowsOf N q1 (x2 - (1 : Int32)) h).bind fun x3 => (zck h 12 (some l0)).bind fun q2 => (f_X12_arrowsOf N q2 x2 h).bind fun x4 => (zck h 12 (some l0)).bind fun q3 => (f_X12_sum N q3 l1 x3 x4 h).bind fun x5 => some x5
set_option maxHeartbeats 4000000 in
set_option maxRecDepth 100000 in
theorem s_X12_lastEnd {g : zG} (hg : g.2.1.map (fun q => q.2) = zty) {h0 : zH} (N : Nat) (l0 : Nat) (l1 : Int32) (h : zH) (r : Int32) (hf : f_X12_lastEnd N l0 l1 h = some r) : zR g jX12_lastEnd h0 0 [some (zr (some l0)), some (zi l1), none] [] h (some (zi r)) h := by
  unfold f_X12_lastEnd at hf
  refine zr_aload_n (v := .inl (some l0)) dX12_lastEnd_0 rfl rfl ?_
  revert hf; refine zbi (fun x1 e_x1 hf => ?_)
  refine zq_getR kg_490 dX12_lastEnd_1 e_x1 ?_
  refine zr_sipush (v := (141 : Int32)) dX12_lastEnd_4 (by decide) ?_
  refine zr_iload_n (x := l1) dX12_lastEnd_7 rfl rfl ?_
  refine zr_iadd dX12_lastEnd_8 ?_
  revert hf; refine zbi (fun x2 e_x2 hf => ?_)
  refine zq_iald dX12_lastEnd_9 e_x2 ?_
  refine zq_istore_n (x := x2) (L' := [some (zr (some l0)), some (zi l1), some (zi x2)]) dX12_lastEnd_10 rfl (by decide) rfl ?_
  refine zr_iload_n (x := x2) dX12_lastEnd_11 rfl rfl ?_
  by_cases hc1 : x2 = 0
  · rw [if_pos hc1] at hf
    refine zr_ifne_f 19 dX12_lastEnd_12 (by decide) hc1 ?_
    refine zr_iconst (v := (0 : Int32)) dX12_lastEnd_15 (by decide) ?_
    refine zr_goto (tgt := 36) dX12_lastEnd_16 (by decide) ?_
    cases hf
    exact zr_ret _ rfl dX12_lastEnd_36
  · rw [if_neg hc1] at hf
    refine zr_ifne_t (tgt := 19) dX12_lastEnd_12 (by decide) hc1 ?_
    refine zr_aload_n (v := .inl (some l0)) dX12_lastEnd_19 rfl rfl ?_
    refine zr_iload_n (x := l1) dX12_lastEnd_20 rfl rfl ?_
    refine zr_aload_n (v := .inl (some l0)) dX12_lastEnd_21 rfl rfl ?_
    refine zr_iload_n (x := x2) dX12_lastEnd_22 rfl rfl ?_
    refine zr_iconst (v := (1 : Int32)) dX12_lastEnd_23 (by decide) ?_
    refine zr_isub dX12_lastEnd_24 ?_
    revert hf; refine zbi (fun q1 e_q1 hf => ?_)
    revert hf; refine zbi (fun x3 e_x3 hf => ?_)
    refine zq_callV (J' := jX12_arrowsOf) (as := [zi (x2 - (1 : Int32))]) (rest := [zi l1, zr (some l0)]) (r1 := (some (zi x3))) (q := (RX12, TX12, 31)) kw_690 km_X12_arrowsOf kt_594 dX12_lastEnd_25 rfl (Nat.le_of_ble_eq_true rfl) rfl rfl e_q1 rfl (c_X12_arrowsOf hg e_x3) ?_
    refine zr_aload_n (v := .inl (some l0)) dX12_lastEnd_28 rfl rfl ?_
    refine zr_iload_n (x := x2) dX12_lastEnd_29 rfl rfl ?_
    revert hf; refine zbi (fun q2 e_q2 hf => ?_)
    revert hf; refine zbi (fun x4 e_x4 hf => ?_)
    refine zq_callV (J' := jX12_arrowsOf) (as := [zi x2]) (rest := [zi x3, zi l1, zr (some l0)]) (r1 := (some (zi x4))) (q := (RX12, TX12, 31)) kw_690 km_X12_arrowsOf kt_594 dX12_lastEnd_30 rfl (Nat.le_of_ble_eq_true rfl) rfl rfl e_q2 rfl (c_X12_arrowsOf hg e_x4) ?_
    revert hf; refine zbi (fun q3 e_q3 hf => ?_)
    revert hf; refine zbi (fun x5 e_x5 hf => ?_)
    refine zq_callV (J' := jX12_sum) (as := [zi l1, zi x3, zi x4]) (rest := []) (r1 := (some (zi x5))) (q := (RX12, TX12, 31)) kw_694 km_X12_sum kt_596 dX12_lastEnd_33 rfl (Nat.le_of_ble_eq_true rfl) rfl rfl e_q3 rfl (c_X12_sum hg e_x5) ?_
    cases hf
    exact zr_ret _ rfl dX12_lastEnd_36
theorem c_X12_lastEnd {g : zG} (hg : g.2.1.map (fun q => q.2) = zty) {N : Nat} {l0 : Nat} {l1 : Int32} {h : zH} {r : Int32} (hf : f_X12_lastEnd N l0 l1 h = some r) : zCa g jX12_lastEnd [zr (some l0), zi l1] h (some (zi r)) h :=
  zCa.of hg (by decide +kernel) (Nat.le_of_ble_eq_true rfl) (s_X12_lastEnd hg N l0 l1 h r hf)
theorem dX12_total_0 : decode cX12_total 0 = .ok (.aload_n 0, 1) := by decide +kernel
theorem dX12_total_1 : decode cX12_total 1 = .ok (.iload_n 1, 1) := by decide +kernel
theorem dX12_total_2 : decode cX12_total 2 = .ok (.iconst 0, 1) := by decide +kernel
theorem dX12_total_3 : decode cX12_total 3 = .ok (.aload_n 0, 1) := by decide +kernel
theorem dX12_total_4 : decode cX12_total 4 = .ok (.aload_n 0, 1) := by decide +kernel
theorem dX12_total_5 : decode cX12_total 5 = .ok (.getfield 8, 3) := by decide +kernel
theorem dX12_total_8 : decode cX12_total 8 = .ok (.sipush 141, 3) := by decide +kernel
theorem dX12_total_11 : decode cX12_total 11 = .ok (.iload_n 1, 1) := by decide +kernel
theorem dX12_total_12 : decode cX12_total 12 = .ok (.iadd, 1) := by decide +kernel
theorem dX12_total_13 : decode cX12_total 13 = .ok (.iaload, 1) := by decide +kernel
theorem dX12_total_14 : decode cX12_total 14 = .ok (.invokevirtual 157, 3) := by decide +kernel
theorem dX12_total_17 : decode cX12_total 17 = .ok (.invokevirtual 160, 3) := by decide +kernel
theorem dX12_total_20 : decode cX12_total 20 = .ok (.ireturn, 1) := by decide +kernel
def f_X12_total (N : Nat) (l0 : Nat) (l1 : Int32) (h : zH) : Option Int32 := (zgR h 12 (some l0) 0).bind fun x1 => (zld h 0 x1 ((141 : Int32) + l1)).bind fun x2 => (zck h 12 (some l0)).bind fun q1 => (f_X12_arrowsOf N q1 x2 h).bind fun x3 => (zck h 12 (some l0)).bind fun q2 => (f_X12_sum N q2 l1 (0 : Int32) x3 h).bind fun x4 => some x4
set_option maxHeartbeats 4000000 in
set_option maxRecDepth 100000 in
theorem s_X12_total {g : zG} (hg : g.2.1.map (fun q => q.2) = zty) {h0 : zH} (N : Nat) (l0 : Nat) (l1 : Int32) (h : zH) (r : Int32) (hf : f_X12_total N l0 l1 h = some r) : zR g jX12_total h0 0 [some (zr (some l0)), some (zi l1)] [] h (some (zi r)) h := by
  unfold f_X12_total at hf
  refine zr_aload_n (v := .inl (some l0)) dX12_total_0 rfl rfl ?_
  refine zr_iload_n (x := l1) dX12_total_1 rfl rfl ?_
  refine zr_iconst (v := (0 : Int32)) dX12_total_2 (by decide) ?_
  refine zr_aload_n (v := .inl (some l0)) dX12_total_3 rfl rfl ?_
  refine zr_aload_n (v := .inl (some l0)) dX12_total_4 rfl rfl ?_
  revert hf; refine zbi (fun x1 e_x1 hf => ?_)
  refine zq_getR kg_490 dX12_total_5 e_x1 ?_
  refine zr_sipush (v := (141 : Int32)) dX12_total_8 (by decide) ?_
  refine zr_iload_n (x := l1) dX12_total_11 rfl rfl ?_
  refine zr_iadd dX12_total_12 ?_
  revert hf; refine zbi (fun x2 e_x2 hf => ?_)
  refine zq_iald dX12_total_13 e_x2 ?_
  revert hf; refine zbi (fun q1 e_q1 hf => ?_)
  revert hf; refine zbi (fun x3 e_x3 hf => ?_)
  refine zq_callV (J' := jX12_arrowsOf) (as := [zi x2]) (rest := [zi (0 : Int32), zi l1, zr (some l0)]) (r1 := (some (zi x3))) (q := (RX12, TX12, 31)) kw_690 km_X12_arrowsOf kt_597 dX12_total_14 rfl (Nat.le_of_ble_eq_true rfl) rfl rfl e_q1 rfl (c_X12_arrowsOf hg e_x3) ?_
  revert hf; refine zbi (fun q2 e_q2 hf => ?_)
  revert hf; refine zbi (fun x4 e_x4 hf => ?_)
  refine zq_callV (J' := jX12_sum) (as := [zi l1, zi (0 : Int32), zi x3]) (rest := []) (r1 := (some (zi x4))) (q := (RX12, TX12, 31)) kw_694 km_X12_sum kt_598 dX12_total_17 rfl (Nat.le_of_ble_eq_true rfl) rfl rfl e_q2 rfl (c_X12_sum hg e_x4) ?_
  cases hf
  exact zr_ret _ rfl dX12_total_20
theorem c_X12_total {g : zG} (hg : g.2.1.map (fun q => q.2) = zty) {N : Nat} {l0 : Nat} {l1 : Int32} {h : zH} {r : Int32} (hf : f_X12_total N l0 l1 h = some r) : zCa g jX12_total [zr (some l0), zi l1] h (some (zi r)) h :=
  zCa.of hg (by decide +kernel) (Nat.le_of_ble_eq_true rfl) (s_X12_total hg N l0 l1 h r hf)
theorem dX12_told_0 : decode cX12_told 0 = .ok (.aload_n 0, 1) := by decide +kernel
theorem dX12_told_1 : decode cX12_told 1 = .ok (.iload_n 1, 1) := by decide +kernel
theorem dX12_told_2 : decode cX12_told 2 = .ok (.invokevirtual 151, 3) := by decide +kernel
theorem dX12_told_5 : decode cX12_told 5 = .ok (.ifCond .ne 5, 3) := by decide +kernel
theorem dX12_told_8 : decode cX12_told 8 = .ok (.iconst (-1), 1) := by decide +kernel
theorem dX12_told_9 : decode cX12_told 9 = .ok (.ireturn, 1) := by decide +kernel
theorem dX12_told_10 : decode cX12_told 10 = .ok (.iload_n 2, 1) := by decide +kernel
theorem dX12_told_11 : decode cX12_told 11 = .ok (.tableswitch 107 0 6 #[41, 51, 62, 68, 74, 85, 96], 41) := by decide +kernel
theorem dX12_told_52 : decode cX12_told 52 = .ok (.aload_n 0, 1) := by decide +kernel
theorem dX12_told_53 : decode cX12_told 53 = .ok (.getfield 8, 3) := by decide +kernel
theorem dX12_told_56 : decode cX12_told 56 = .ok (.bipush 125, 2) := by decide +kernel
theorem dX12_told_58 : decode cX12_told 58 = .ok (.iload_n 1, 1) := by decide +kernel
theorem dX12_told_59 : decode cX12_told 59 = .ok (.iadd, 1) := by decide +kernel
theorem dX12_told_60 : decode cX12_told 60 = .ok (.iaload, 1) := by decide +kernel
theorem dX12_told_61 : decode cX12_told 61 = .ok (.ireturn, 1) := by decide +kernel
theorem dX12_told_62 : decode cX12_told 62 = .ok (.aload_n 0, 1) := by decide +kernel
theorem dX12_told_63 : decode cX12_told 63 = .ok (.getfield 8, 3) := by decide +kernel
theorem dX12_told_66 : decode cX12_told 66 = .ok (.sipush 141, 3) := by decide +kernel
theorem dX12_told_69 : decode cX12_told 69 = .ok (.iload_n 1, 1) := by decide +kernel
theorem dX12_told_70 : decode cX12_told 70 = .ok (.iadd, 1) := by decide +kernel
theorem dX12_told_71 : decode cX12_told 71 = .ok (.iaload, 1) := by decide +kernel
theorem dX12_told_72 : decode cX12_told 72 = .ok (.ireturn, 1) := by decide +kernel
theorem dX12_told_73 : decode cX12_told 73 = .ok (.aload_n 0, 1) := by decide +kernel
theorem dX12_told_74 : decode cX12_told 74 = .ok (.iload_n 1, 1) := by decide +kernel
theorem dX12_told_75 : decode cX12_told 75 = .ok (.invokevirtual 164, 3) := by decide +kernel
theorem dX12_told_78 : decode cX12_told 78 = .ok (.ireturn, 1) := by decide +kernel
theorem dX12_told_79 : decode cX12_told 79 = .ok (.aload_n 0, 1) := by decide +kernel
theorem dX12_told_80 : decode cX12_told 80 = .ok (.iload_n 1, 1) := by decide +kernel
theorem dX12_told_81 : decode cX12_told 81 = .ok (.invokevirtual 167, 3) := by decide +kernel
theorem dX12_told_84 : decode cX12_told 84 = .ok (.ireturn, 1) := by decide +kernel
theorem dX12_told_85 : decode cX12_told 85 = .ok (.aload_n 0, 1) := by decide +kernel
theorem dX12_told_86 : decode cX12_told 86 = .ok (.getfield 8, 3) := by decide +kernel
theorem dX12_told_89 : decode cX12_told 89 = .ok (.sipush 4765, 3) := by decide +kernel
theorem dX12_told_92 : decode cX12_told 92 = .ok (.iload_n 1, 1) := by decide +kernel
theorem dX12_told_93 : decode cX12_told 93 = .ok (.iadd, 1) := by decide +kernel
theorem dX12_told_94 : decode cX12_told 94 = .ok (.iaload, 1) := by decide +kernel
theorem dX12_told_95 : decode cX12_told 95 = .ok (.ireturn, 1) := by decide +kernel
theorem dX12_told_96 : decode cX12_told 96 = .ok (.aload_n 0, 1) := by decide +kernel
theorem dX12_told_97 : decode cX12_told 97 = .ok (.getfield 8, 3) := by decide +kernel
theorem dX12_told_100 : decode cX12_told 100 = .ok (.sipush 4909, 3) := by decide +kernel
theorem dX12_told_103 : decode cX12_told 103 = .ok (.iload_n 1, 1) := by decide +kernel
theorem dX12_told_104 : decode cX12_told 104 = .ok (.iadd, 1) := by decide +kernel
theorem dX12_told_105 : decode cX12_told 105 = .ok (.iaload, 1) := by decide +kernel
theorem dX12_told_106 : decode cX12_told 106 = .ok (.ireturn, 1) := by decide +kernel
theorem dX12_told_107 : decode cX12_told 107 = .ok (.aload_n 0, 1) := by decide +kernel
theorem dX12_told_108 : decode cX12_told 108 = .ok (.getfield 8, 3) := by decide +kernel
theorem dX12_told_111 : decode cX12_told 111 = .ok (.sipush 6881, 3) := by decide +kernel
theorem dX12_told_114 : decode cX12_told 114 = .ok (.iload_n 1, 1) := by decide +kernel
theorem dX12_told_115 : decode cX12_told 115 = .ok (.iadd, 1) := by decide +kernel
theorem dX12_told_116 : decode cX12_told 116 = .ok (.iaload, 1) := by decide +kernel
theorem dX12_told_117 : decode cX12_told 117 = .ok (.ireturn, 1) := by decide +kernel
theorem dX12_told_118 : decode cX12_told 118 = .ok (.iconst (-1), 1) := by decide +kernel
theorem dX12_told_119 : decode cX12_told 119 = .ok (.ireturn, 1) := by decide +kernel
def f_X12_told (N : Nat) (l0 : Nat) (l1 : Int32) (l2 : Int32) (h : zH) : Option Int32 := (zck h 12 (some l0)).bind fun q1 => (f_X12_isArcher N q1 l1 h).bind fun x1 => if x1 = 0 then some ((-1) : Int32) else if l2 = (0 : Int32) then (zgR h 12 (some l0) 0).bind fun x2 => (zld h 0 x2 ((125 : Int32) + l1)).bind fun x3 => some x3 else if l2 = (1 : Int32) then (zgR h 12 (some l0) 0).bind fun x4 => (zld h 0 x4 ((141 : Int32) + l1)).bind fun x5 => some x5 else if l2 = (2 : Int32) then (zck h 12 (some l0)).bind fun q2 => (f_X12_total N q2 l1 h).bind fun x6 => some x6 else if l2 = (3 : Int32) then (zck h 12 (some l0)).bind fun q3 => (f_X12_lastEnd N q3 l1 h).bind fun x7 => some x7 else if l2 = (4 : Int32) then (zgR h 12 (some l0) 0).bind fun x8 => (zld h 0 x8 ((4765 : Int32) + l1)).bind fun x9 => some x9 else if l2 = (5 : Int32) then (zgR h 12 (some l0) 0).bind fun x10 => (zld h 0 x10 ((4909 : Int32) + l1)).bind fun x11 => some x11 else if l2 = (6 : Int32) then (zgR h 12 (some l0) 0).bind fun x12 => (zld h 0 x12 ((6881 : Int32) + l1)).bind fun x13 => some x13 else some ((-1) : Int32)
set_option maxHeartbeats 4000000 in
set_option maxRecDepth 100000 in
theorem s_X12_told {g : zG} (hg : g.2.1.map (fun q => q.2) = zty) {h0 : zH} (N : Nat) (l0 : Nat) (l1 : Int32) (l2 : Int32) (h : zH) (r : Int32) (hf : f_X12_told N l0 l1 l2 h = some r) : zR g jX12_told h0 0 [some (zr (some l0)), some (zi l1), some (zi l2)] [] h (some (zi r)) h := by
  unfold f_X12_told at hf
  refine zr_aload_n (v := .inl (some l0)) dX12_told_0 rfl rfl ?_
  refine zr_iload_n (x := l1) dX12_told_1 rfl rfl ?_
  revert hf; refine zbi (fun q1 e_q1 hf => ?_)
  revert hf; refine zbi (fun x1 e_x1 hf => ?_)
  refine zq_callV (J' := jX12_isArcher) (as := [zi l1]) (rest := []) (r1 := (some (zi x1))) (q := (RX12, TX12, 31)) kw_682 km_X12_isArcher kt_599 dX12_told_2 rfl (Nat.le_of_ble_eq_true rfl) rfl rfl e_q1 rfl (c_X12_isArcher hg e_x1) ?_
  by_cases hc1 : x1 = 0
  · rw [if_pos hc1] at hf
    refine zr_ifne_f 10 dX12_told_5 (by decide) hc1 ?_
    refine zr_iconst (v := ((-1) : Int32)) dX12_told_8 (by decide) ?_
    cases hf
    exact zr_ret _ rfl dX12_told_9
  · rw [if_neg hc1] at hf
    refine zr_ifne_t (tgt := 10) dX12_told_5 (by decide) hc1 ?_
    refine zr_iload_n (x := l2) dX12_told_10 rfl rfl ?_
    by_cases hc2 : l2 = (0 : Int32)
    · rw [if_pos hc2] at hf
      refine zr_tabIn (off := 41) (tgt := 52) dX12_told_11 (by rw [hc2]; decide) (by rw [hc2]; rfl) (by decide) ?_
      refine zr_aload_n (v := .inl (some l0)) dX12_told_52 rfl rfl ?_
      revert hf; refine zbi (fun x2 e_x2 hf => ?_)
      refine zq_getR kg_490 dX12_told_53 e_x2 ?_
      refine zr_bipush (v := (125 : Int32)) dX12_told_56 (by decide) ?_
      refine zr_iload_n (x := l1) dX12_told_58 rfl rfl ?_
      refine zr_iadd dX12_told_59 ?_
      revert hf; refine zbi (fun x3 e_x3 hf => ?_)
      refine zq_iald dX12_told_60 e_x3 ?_
      cases hf
      exact zr_ret _ rfl dX12_told_61
    · rw [if_neg hc2] at hf
      by_cases hc3 : l2 = (1 : Int32)
      · rw [if_pos hc3] at hf
        refine zr_tabIn (off := 51) (tgt := 62) dX12_told_11 (by rw [hc3]; decide) (by rw [hc3]; rfl) (by decide) ?_
        refine zr_aload_n (v := .inl (some l0)) dX12_told_62 rfl rfl ?_
        revert hf; refine zbi (fun x4 e_x4 hf => ?_)
        refine zq_getR kg_490 dX12_told_63 e_x4 ?_
        refine zr_sipush (v := (141 : Int32)) dX12_told_66 (by decide) ?_
        refine zr_iload_n (x := l1) dX12_told_69 rfl rfl ?_
        refine zr_iadd dX12_told_70 ?_
        revert hf; refine zbi (fun x5 e_x5 hf => ?_)
        refine zq_iald dX12_told_71 e_x5 ?_
        cases hf
        exact zr_ret _ rfl dX12_told_72
      · rw [if_neg hc3] at hf
        by_cases hc4 : l2 = (2 : Int32)
        · rw [if_pos hc4] at hf
          refine zr_tabIn (off := 62) (tgt := 73) dX12_told_11 (by rw [hc4]; decide) (by rw [hc4]; rfl) (by decide) ?_
          refine zr_aload_n (v := .inl (some l0)) dX12_told_73 rfl rfl ?_
          refine zr_iload_n (x := l1) dX12_told_74 rfl rfl ?_
          revert hf; refine zbi (fun q2 e_q2 hf => ?_)
          revert hf; refine zbi (fun x6 e_x6 hf => ?_)
          refine zq_callV (J' := jX12_total) (as := [zi l1]) (rest := []) (r1 := (some (zi x6))) (q := (RX12, TX12, 31)) kw_698 km_X12_total kt_601 dX12_told_75 rfl (Nat.le_of_ble_eq_true rfl) rfl rfl e_q2 rfl (c_X12_total hg e_x6) ?_
          cases hf
          exact zr_ret _ rfl dX12_told_78
        · rw [if_neg hc4] at hf
          by_cases hc5 : l2 = (3 : Int32)
          · rw [if_pos hc5] at hf
            refine zr_tabIn (off := 68) (tgt := 79) dX12_told_11 (by rw [hc5]; decide) (by rw [hc5]; rfl) (by decide) ?_
            refine zr_aload_n (v := .inl (some l0)) dX12_told_79 rfl rfl ?_
            refine zr_iload_n (x := l1) dX12_told_80 rfl rfl ?_
            revert hf; refine zbi (fun q3 e_q3 hf => ?_)
            revert hf; refine zbi (fun x7 e_x7 hf => ?_)
            refine zq_callV (J' := jX12_lastEnd) (as := [zi l1]) (rest := []) (r1 := (some (zi x7))) (q := (RX12, TX12, 31)) kw_702 km_X12_lastEnd kt_603 dX12_told_81 rfl (Nat.le_of_ble_eq_true rfl) rfl rfl e_q3 rfl (c_X12_lastEnd hg e_x7) ?_
            cases hf
            exact zr_ret _ rfl dX12_told_84
          · rw [if_neg hc5] at hf
            by_cases hc6 : l2 = (4 : Int32)
            · rw [if_pos hc6] at hf
              refine zr_tabIn (off := 74) (tgt := 85) dX12_told_11 (by rw [hc6]; decide) (by rw [hc6]; rfl) (by decide) ?_
              refine zr_aload_n (v := .inl (some l0)) dX12_told_85 rfl rfl ?_
              revert hf; refine zbi (fun x8 e_x8 hf => ?_)
              refine zq_getR kg_490 dX12_told_86 e_x8 ?_
              refine zr_sipush (v := (4765 : Int32)) dX12_told_89 (by decide) ?_
              refine zr_iload_n (x := l1) dX12_told_92 rfl rfl ?_
              refine zr_iadd dX12_told_93 ?_
              revert hf; refine zbi (fun x9 e_x9 hf => ?_)
              refine zq_iald dX12_told_94 e_x9 ?_
              cases hf
              exact zr_ret _ rfl dX12_told_95
            · rw [if_neg hc6] at hf
              by_cases hc7 : l2 = (5 : Int32)
              · rw [if_pos hc7] at hf
                refine zr_tabIn (off := 85) (tgt := 96) dX12_told_11 (by rw [hc7]; decide) (by rw [hc7]; rfl) (by decide) ?_
                refine zr_aload_n (v := .inl (some l0)) dX12_told_96 rfl rfl ?_
                revert hf; refine zbi (fun x10 e_x10 hf => ?_)
                refine zq_getR kg_490 dX12_told_97 e_x10 ?_
                refine zr_sipush (v := (4909 : Int32)) dX12_told_100 (by decide) ?_
                refine zr_iload_n (x := l1) dX12_told_103 rfl rfl ?_
                refine zr_iadd dX12_told_104 ?_
                revert hf; refine zbi (fun x11 e_x11 hf => ?_)
                refine zq_iald dX12_told_105 e_x11 ?_
                cases hf
                exact zr_ret _ rfl dX12_told_106
              · rw [if_neg hc7] at hf
                by_cases hc8 : l2 = (6 : Int32)
                · rw [if_pos hc8] at hf
                  refine zr_tabIn (off := 96) (tgt := 107) dX12_told_11 (by rw [hc8]; decide) (by rw [hc8]; rfl) (by decide) ?_
                  refine zr_aload_n (v := .inl (some l0)) dX12_told_107 rfl rfl ?_
                  revert hf; refine zbi (fun x12 e_x12 hf => ?_)
                  refine zq_getR kg_490 dX12_told_108 e_x12 ?_
                  refine zr_sipush (v := (6881 : Int32)) dX12_told_111 (by decide) ?_
                  refine zr_iload_n (x := l1) dX12_told_114 rfl rfl ?_
                  refine zr_iadd dX12_told_115 ?_
                  revert hf; refine zbi (fun x13 e_x13 hf => ?_)
                  refine zq_iald dX12_told_116 e_x13 ?_
                  cases hf
                  exact zr_ret _ rfl dX12_told_117
                · rw [if_neg hc8] at hf
                  refine zr_tabOut (tgt := 118) dX12_told_11 (fun q => by have n0 := zne (n := 0) hc2 (by decide); have n1 := zne (n := 1) hc3 (by decide); have n2 := zne (n := 2) hc4 (by decide); have n3 := zne (n := 3) hc5 (by decide); have n4 := zne (n := 4) hc6 (by decide); have n5 := zne (n := 5) hc7 (by decide); have n6 := zne (n := 6) hc8 (by decide); omega) (by decide) ?_
                  refine zr_iconst (v := ((-1) : Int32)) dX12_told_118 (by decide) ?_
                  cases hf
                  exact zr_ret _ rfl dX12_told_119
theorem c_X12_told {g : zG} (hg : g.2.1.map (fun q => q.2) = zty) {N : Nat} {l0 : Nat} {l1 : Int32} {l2 : Int32} {h : zH} {r : Int32} (hf : f_X12_told N l0 l1 l2 h = some r) : zCa g jX12_told [zr (some l0), zi l1, zi l2] h (some (zi r)) h :=
  zCa.of hg (by decide +kernel) (Nat.le_of_ble_eq_true rfl) (s_X12_told hg N l0 l1 l2 h r hf)
theorem dX12_isFar_0 : decode cX12_isFar 0 = .ok (.iload_n 0, 1) := by decide +kernel
theorem dX12_isFar_1 : decode cX12_isFar 1 = .ok (.sipush (-20000), 3) := by decide +kernel
theorem dX12_isFar_4 : decode cX12_isFar 4 = .ok (.if_icmp .lt 10, 3) := by decide +kernel
theorem dX12_isFar_7 : decode cX12_isFar 7 = .ok (.iload_n 0, 1) := by decide +kernel
theorem dX12_isFar_8 : decode cX12_isFar 8 = .ok (.sipush 20000, 3) := by decide +kernel
theorem dX12_isFar_11 : decode cX12_isFar 11 = .ok (.if_icmp .le 7, 3) := by decide +kernel
theorem dX12_isFar_14 : decode cX12_isFar 14 = .ok (.iconst 1, 1) := by decide +kernel
theorem dX12_isFar_15 : decode cX12_isFar 15 = .ok (.goto 4, 3) := by decide +kernel
theorem dX12_isFar_18 : decode cX12_isFar 18 = .ok (.iconst 0, 1) := by decide +kernel
theorem dX12_isFar_19 : decode cX12_isFar 19 = .ok (.ireturn, 1) := by decide +kernel
def f_X12_isFar (N : Nat) (l0 : Int32) (h : zH) : Option Int32 := if l0 < ((-20000) : Int32) then some (1 : Int32) else if l0 ≤ (20000 : Int32) then some (0 : Int32) else some (1 : Int32)
set_option maxHeartbeats 4000000 in
set_option maxRecDepth 100000 in
theorem s_X12_isFar {g : zG} (hg : g.2.1.map (fun q => q.2) = zty) {h0 : zH} (N : Nat) (l0 : Int32) (h : zH) (r : Int32) (hf : f_X12_isFar N l0 h = some r) : zR g jX12_isFar h0 0 [some (zi l0)] [] h (some (zi r)) h := by
  unfold f_X12_isFar at hf
  refine zr_iload_n (x := l0) dX12_isFar_0 rfl rfl ?_
  refine zr_sipush (v := ((-20000) : Int32)) dX12_isFar_1 (by decide) ?_
  by_cases hc1 : l0 < ((-20000) : Int32)
  · rw [if_pos hc1] at hf
    refine zr_iclt_t (tgt := 14) dX12_isFar_4 (by decide) hc1 ?_
    refine zr_iconst (v := (1 : Int32)) dX12_isFar_14 (by decide) ?_
    refine zr_goto (tgt := 19) dX12_isFar_15 (by decide) ?_
    cases hf
    exact zr_ret _ rfl dX12_isFar_19
  · rw [if_neg hc1] at hf
    refine zr_iclt_f 14 dX12_isFar_4 (by decide) hc1 ?_
    refine zr_iload_n (x := l0) dX12_isFar_7 rfl rfl ?_
    refine zr_sipush (v := (20000 : Int32)) dX12_isFar_8 (by decide) ?_
    by_cases hc2 : l0 ≤ (20000 : Int32)
    · rw [if_pos hc2] at hf
      refine zr_icle_t (tgt := 18) dX12_isFar_11 (by decide) hc2 ?_
      refine zr_iconst (v := (0 : Int32)) dX12_isFar_18 (by decide) ?_
      cases hf
      exact zr_ret _ rfl dX12_isFar_19
    · rw [if_neg hc2] at hf
      refine zr_icle_f 18 dX12_isFar_11 (by decide) hc2 ?_
      refine zr_iconst (v := (1 : Int32)) dX12_isFar_14 (by decide) ?_
      refine zr_goto (tgt := 19) dX12_isFar_15 (by decide) ?_
      cases hf
      exact zr_ret _ rfl dX12_isFar_19
theorem c_X12_isFar {g : zG} (hg : g.2.1.map (fun q => q.2) = zty) {N : Nat} {l0 : Int32} {h : zH} {r : Int32} (hf : f_X12_isFar N l0 h = some r) : zCa g jX12_isFar [zi l0] h (some (zi r)) h :=
  zCa.of hg (by decide +kernel) (Nat.le_of_ble_eq_true rfl) (s_X12_isFar hg N l0 h r hf)
