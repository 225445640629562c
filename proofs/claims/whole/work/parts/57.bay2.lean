theorem op_bay {h : zH} {N : Nat} (hN : 21000 ≤ N) (H : INX h) (x : Int32) : OPo (f_X11_bay N 0 x) (f_X12_bay N 27 x) h := by
  obtain ⟨KI, KR, KA, KP, I, A, c, q, H⟩ := H
  obtain ⟨hl, hC, hM, i1, i2, i3, i4, i5, i6, i7, i8, i9⟩ := id H
  obtain ⟨rq, aq, lq, nq, AR, s0, s1, s2, s3, s4, ⟨b1, b2, b3, n, f1, f2, f3, w0, w1, w2, w3, z1, z2, z3, z4, z5, z6⟩, s6⟩ := id i5
  have hq5 : zgR (cp h KI KR KA KP) 11 (some 0) 5 = some (some q) := (cg0_5 hl).trans (congrArg some i4)
  have hn : A 0 6864 = nI n := (seg_lo _ (j := 6864) (by omega)).symm.trans z1
  have z1' : ∀ {h1 : zH}, 46 ≤ h1.length → zld (mp h1 I A) 0 (some 28) 6864 = some (nI n) := fun hl1 => by rw [ml0L hl1 6864 (by decide)]; exact congrArg some hn
  have cx : ∀ {v}, f_X2_canAdd N nq x (cp h KI KR KA KP) = some v → v = 0 → f_X11_bay N 0 x (cp h KI KR KA KP) = some (-1, cp h KI KR KA KP) := fun hr h0 => bS hq5 (bS (fgR s0.c rfl) (bS (fk w0.c) (bS hr (iT h0 rfl))))
  by_cases h1 : x < 1
  · exact OPo.same H (r := -1) (cx (iT h1 rfl) rfl) (iT h1 rfl)
  by_cases h2 : 4 < x
  · exact OPo.same H (r := -1) (cx (iF h1 (iT h2 rfl)) rfl) (iF h1 (iT h2 rfl))
  obtain ⟨m, m1, rfl⟩ := nI_of2 (M := 4) (n := 4) (by decide) (fun z => h1 (Int32.lt_trans z (by decide))) (Int32.not_lt.mp h2)
  have m0 : 1 ≤ m := by
    rcases (show m = 0 ∨ 1 ≤ m by omega) with rfl | q
    · exact absurd (show nI 0 < (1 : Int32) by decide) h1
    · exact q
  by_cases h3 : n + m ≤ 8
  · have g0 : ∀ {ns : List zE} {KI : Nat → Int32} {KR : Nat → Option Nat} {KA : Nat → Nat → Int32} {KP : Nat → Option Nat}, (cp (h ++ ns) KI KR KA KP)[nq]? = some (.inr (2, [zr (some b1), zr (some b2), zr (some b3)])) := n_old (fz_19 w0.1) w0.2
    have g1 : ∀ {ns : List zE} {KI : Nat → Int32} {KR : Nat → Option Nat} {KA : Nat → Nat → Int32} {KP : Nat → Option Nat}, (cp (h ++ ns) KI KR KA KP)[b1]? = some (.inl (0, n, .inl f1)) := n_old (fz_19 w1.1) w1.2
    have g2 : ∀ {ns : List zE} {KI : Nat → Int32} {KR : Nat → Option Nat} {KA : Nat → Nat → Int32} {KP : Nat → Option Nat}, (cp (h ++ ns) KI KR KA KP)[b2]? = some (.inl (0, n, .inl f2)) := n_old (fz_19 w2.1) w2.2
    have ca : ∀ {hh : zH}, hh[nq]? = some (.inr (2, [zr (some b1), zr (some b2), zr (some b3)])) → hh[b2]? = some (.inl (0, n, .inl f2)) → f_X2_canAdd N nq (nI m) hh = some 1 := fun y1 y2 => iF h1 (iF h2 (bS (fk y1) (bS (bS (fgR y1 rfl) (bS (flen y2 (by omega)) rfl)) (iF (by rw [nI_add]; exact nI_nlt (a := 8) h3 (by omega)) rfl))))
    obtain ⟨bv, hbv, hcb, hmb⟩ : ∃ bv : Nat, (n = 0 ∧ bv = 0 ∨ n ≠ 0 ∧ f1 (n - 1) + 1 = nI bv) ∧ bv ≤ n ∧ True := by
      by_cases h0 : n = 0
      · exact ⟨0, Or.inl ⟨h0, rfl⟩, by omega, trivial⟩
      · obtain ⟨u1, u2, ⟨b, u3, u4⟩, -⟩ := z3 (n - 1) (by omega)
        exact ⟨b + 1, Or.inr ⟨h0, by rw [u1, u3, nI_1]⟩, by omega, trivial⟩
    have kk := kept.cp (h := h) (ns := [.inr (9, [zr rq, zr (some (h.length + 1)), zr (some lq), zr (some (h.length + 5)), zi (seg (A 0) 0 6897)]), .inl (4, 16, .inr AR), .inl (0, n + m, .inl (fillF (cpy f1 (min n (n + m))) n m (nI bv))), .inl (0, n + m, .inl (fillF (cpy f2 (min n (n + m))) n m 0)), .inl (0, (n + m) * 2, .inl (fillF (fun _ => 0) 0 ((n + m) * 2) (-1))), .inr (2, [zr (some (h.length + 2)), zr (some (h.length + 3)), zr (some (h.length + 4))])]) (KI := upd KI 0 (nI (kpC c))) (KR := va_up KR 0 (some (h.length + 0))) (KA := KA) (KP := kpP KP c q)
    refine OPo.chg H (r := nI (n + m)) (d' := fillF (bayF (kpD (A 0) c) n m (nI bv)) 6881 16 (-1)) (ns := [.inr (9, [zr rq, zr (some (h.length + 1)), zr (some lq), zr (some (h.length + 5)), zi (seg (A 0) 0 6897)]), .inl (4, 16, .inr AR), .inl (0, n + m, .inl (fillF (cpy f1 (min n (n + m))) n m (nI bv))), .inl (0, n + m, .inl (fillF (cpy f2 (min n (n + m))) n m 0)), .inl (0, (n + m) * 2, .inl (fillF (fun _ => 0) 0 ((n + m) * 2) (-1))), .inr (2, [zr (some (h.length + 2)), zr (some (h.length + 3)), zr (some (h.length + 4))])]) ?_ (fun h1' hl1 => ?_) ?_ ?_ (by simp) (by simp [zsl, zsz]; omega)
    · refine bS hq5 (bS (fgR s0.c rfl) (bS (fk w0.c) (bS (ca w0.c w2.c) (iF (by decide) (bS (ck0 hl) (zS (c_chg H (by omega) s0 s1) (bS (n_R hl (i := 0) rfl rfl) (bS (fk g0) ?_))))))))
      have body : ∀ {bw : Int32}, bw = nI bv → f_X2_withBay_33 N nq (nI m) (nI n) bw (cp (h ++ [.inr (9, [zr rq, zr (some (h.length + 1)), zr (some lq), zr (some nq), zi (seg (A 0) 0 6897)]), .inl (4, 16, .inr AR)]) (upd KI 0 (nI (kpC c))) (va_up KR 0 (some (h.length + 0))) KA (kpP KP c q)) = some (some (h.length + 5), cp (h ++ [.inr (9, [zr rq, zr (some (h.length + 1)), zr (some lq), zr (some nq), zi (seg (A 0) 0 6897)]), .inl (4, 16, .inr AR), .inl (0, n + m, .inl (fillF (cpy f1 (min n (n + m))) n m (nI bv))), .inl (0, n + m, .inl (fillF (cpy f2 (min n (n + m))) n m 0)), .inl (0, (n + m) * 2, .inl (fillF (fun _ => 0) 0 ((n + m) * 2) (-1))), .inr (2, [zr (some (h.length + 2)), zr (some (h.length + 3)), zr (some (h.length + 4))])]) (upd KI 0 (nI (kpC c))) (va_up KR 0 (some (h.length + 0))) KA (kpP KP c q)) := by
        intro bw hbw
        subst hbw
        have lp := g_wb61 (N := N) (h := h) (KI := upd KI 0 (nI (kpC c))) (KR := va_up KR 0 (some (h.length + 0))) (KA := KA) (KP := kpP KP c q) (bv := nI bv) (f1 := cpy f1 (min n (n + m))) (f2 := cpy f2 (min n (n + m))) (S := .inr (9, [zr rq, zr (some (h.length + 1)), zr (some lq), zr (some nq), zi (seg (A 0) 0 6897)])) (R := .inl (4, 16, .inr AR)) hl (by omega) h3 m 0 N (by omega) (by omega)
        rw [ff_0, ff_0] at lp
        exact bS (fgR g0 rfl) (zS (n_cpi hl 2 rfl g1 (nI_add _ _) (by omega) (by omega) (by omega)) (bS (fgR g0 rfl) (zS (n_cpi hl 3 rfl g2 (nI_add _ _) (by omega) (by omega) (by omega)) lp)))
      have wb : ∀ {ns : List zE} {KI : Nat → Int32} {KR : Nat → Option Nat} {KA : Nat → Nat → Int32} {KP : Nat → Option Nat}, f_X2_withBay N nq (nI m) (cp (h ++ ns) KI KR KA KP) = f_X2_withBay_33 N nq (nI m) (nI n) (nI bv) (cp (h ++ ns) KI KR KA KP) := by
        intro ns KI KR KA KP
        refine bS (fk g0) (bS (ca g0 g2) (iF (by decide) (bS (fk g0) (bS (bS (fgR g0 rfl) (bS (flen g2 (by omega)) rfl)) ?_))))
        rcases hbv with ⟨u1, u2⟩ | ⟨u1, u2⟩
        · exact iT (by rw [u1]; rfl) (by rw [u2]; rfl)
        · exact iF (fun z => u1 ((nI_eq (b := 0) (by omega) (by omega)).mp z)) (bS (fgR g0 rfl) (bS (fldx (j := n - 1) (pk_sub (b := 1) (by omega)) g1 (by omega) (by omega)) (by rw [u2])))
      refine zS (wb.trans (body rfl)) ?_
      exact bS (n_u hl (i := 0) rfl (Nat.le_of_ble_eq_true rfl)) (bS (n_R hl (i := 0) rfl rfl) (bS (n_k hl (i := 5) rfl) (bS (bS (n_R hl (i := 5) rfl rfl) (bS (n_ln hl (i := 3) rfl (by omega)) rfl)) rfl)))
    · have lp := m_bay_70 (h := h1') (N := N) (I := upd I 1 (nI (kpC c))) (A := A) (D := kpD (A 0) c) (bv := nI bv) hl1 (by omega) h3 m 0 N (by omega) (by omega)
      have hk : kpD (A 0) c 6864 = nI n := by rw [kp_lo _ _ (by omega), hn]
      rw [bayF_0 hk] at lp
      refine iF h1 (iF h2 (bS (mg0 hl1) (bS (z1' hl1) (iT (by rw [nI_add]; exact (nI_leI (b := 8) (by omega) (by omega)).mpr h3) (bS (mck hl1) (bS (m_keeps hl1 hN i3 i2) (bS (mg0 hl1) (bS (ml0L hl1 6864 (by decide)) ?_))))))))
      have hk' : va_up A 0 (kpD (A 0) c) 0 (OfNat.ofNat 6864) = nI n := hk
      rcases hbv with ⟨u1, u2⟩ | ⟨u1, u2⟩
      · exact iT (by rw [hk', u1]; rfl) (by rw [u2] at lp ⊢; exact lp)
      · refine iF (by rw [hk']; exact fun z => u1 ((nI_eq (b := 0) (by omega) (by omega)).mp z)) (bS (mg0 hl1) (bS (mg0 hl1) (bS (ml0L hl1 6864 (by decide)) ?_)))
        rw [hk', la_l, show nI (6865 + n) - (1 : Int32) = nI (6865 + n - 1) from pk_sub (b := 1) (by omega), ml0 hl1 (by omega), Option.bind_some, vu_at, kp_lo _ _ (by omega)]
        have u3 : A 0 (6865 + n - 1) + 1 = nI bv := by
          rw [← u2, (z3 (n - 1) (by omega)).1, seg_lo _ (by omega), show 6865 + (n - 1) = 6865 + n - 1 by omega]
        rw [u3]
        exact lp
    · intro i hi
      rw [seg_ffi _ _ (by omega) hi]
      unfold bayF
      rw [seg_upi _ (by omega) hi, seg_ffi _ _ (by omega) hi, seg_ffi _ _ (by omega) hi]
    · rw [seg_ff0 _ _ (by omega)]
      unfold bayF
      rw [seg_up0 _ (by omega), seg_ff0 _ _ (by omega), seg_ff0 _ _ (by omega), seg_kp0]
      refine SR.putL (F := seg (A 0) 0) hl s2 s3 s4 s6 rfl rfl (fun p hp => ?_) ?_
      · rw [ff_out _ _ (by omega), up_ne _ _ (by omega), ff_out _ _ (by omega), ff_out _ _ (by omega)]
      · have em : min n (n + m) = n := Nat.min_eq_left (by omega)
        refine ⟨h.length + 2, h.length + 3, h.length + 4, n + m, fillF (cpy f1 (min n (n + m))) n m (nI bv), fillF (cpy f2 (min n (n + m))) n m 0, fillF (fun _ => 0) 0 ((n + m) * 2) (-1), ⟨fz_new hl 5, (n_get hl).trans rfl⟩, ⟨fz_new hl 2, (n_get hl).trans rfl⟩, ⟨fz_new hl 3, (n_get hl).trans rfl⟩, ⟨fz_new hl 4, (n_get hl).trans rfl⟩, ?_, h3, fun k hk => ?_, fun p hp => Or.inl (ff_in _ _ (by omega)), fun a ha => Or.inl (ff_in _ _ (by omega)), fun a ha p hp => ?_⟩
        · rw [ff_out _ _ (by omega), up_at]
        · by_cases hkn : k < n
          · rw [ff_out (cpy f1 _) _ (by omega), ff_out (cpy f2 _) _ (by omega), ff_out _ _ (by omega), up_ne _ _ (by omega), ff_out _ _ (by omega), ff_out _ _ (by omega), ff_out _ _ (by omega), up_ne _ _ (by omega), ff_out _ _ (by omega), ff_out _ _ (by omega), em, cpy, if_pos hkn, cpy, if_pos hkn]
            exact z3 k hkn
          · rw [ff_in (cpy f1 _) _ (by omega), ff_in (cpy f2 _) _ (by omega), ff_out _ _ (by omega), up_ne _ _ (by omega), ff_out _ _ (by omega), ff_in _ _ (by omega), ff_out _ _ (by omega), up_ne _ _ (by omega), ff_in _ _ (by omega)]
            exact ⟨rfl, rfl, ⟨bv, rfl, by omega⟩, 0, rfl, by omega⟩
        · rw [ff_in _ _ (by omega), ff_in _ _ (by omega)]
          exact ⟨fun z => absurd z.symm (nI_nm (by omega)), fun z => absurd z.symm (nI_nm (by omega))⟩
  · refine OPo.same H (r := -1) (cx (iF h1 (iF h2 (bS (fk w0.c) (bS (bS (fgR w0.c rfl) (bS (flen w2.c (by omega)) rfl)) (iT (by rw [nI_add]; exact nI_lt (a := 8) (by omega) (by omega)) rfl))))) rfl) (iF h1 (iF h2 (bS (mg0 hl) (bS (z1' hl) (iF (by rw [nI_add]; exact nI_ge (a := 8) (by omega) (by omega)) rfl)))))
