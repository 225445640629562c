theorem op_layout {h : zH} {N : Nat} (hN : 1000000 ≤ N) (H : INX h) : OPq (f_X11_layout N 0) (f_X12_layout N 27) h := by
  obtain ⟨KI, KR, KA, KP, I, A, c, q, H⟩ := H
  obtain ⟨hl, hC, hM, i1, i2, i3, i4, i5, i6, i7, i8, i9⟩ := id H
  obtain ⟨rq, aq, lq, nq, AR, s0, s1, s2, s3, s4, ⟨b1, b2, b3, n, f1, f2, f3, w0, w1, w2, w3, z1, z2, z3, z4, z5, z6⟩, s6⟩ := id i5
  have hq5 : zgR (cp h KI KR KA KP) 11 (some 0) 5 = some (some q) := (cg0_5 hl).trans (congrArg some i4)
  have hn : A 0 6864 = nI n := (seg_lo _ (j := 6864) (by omega)).symm.trans z1
  have z1' : ∀ {h1 : zH}, 46 ≤ h1.length → zld (mp h1 I A) 0 (some 28) 6864 = some (nI n) := fun hl1 => by rw [ml0L hl1 6864 (by decide)]; exact congrArg some hn
  have cnt : f_X2_countPlaces N nq (cp h KI KR KA KP) = some (nI (n * 2)) := bS (fgR w0.c rfl) (bS (flen w3.c (by omega)) rfl)
  by_cases h0 : n = 0
  · refine (OPo.same H (r := -1) (bS hq5 (bS (fgR s0.c rfl) (bS (fk w0.c) (bS cnt (iT (by rw [h0]; rfl) rfl))))) (bS (mg0 hl) (bS (z1' hl) (iT (by rw [h0]; rfl) rfl)))).q
  have hcA := cA_le (A 0) 16
  obtain ⟨r, V, sq⟩ := SQ_tot (P := n * 2) (A := cA (A 0) 16) (cb := cbF (fun _ => 0) (A 0) 16) (by omega) 800020 0 0 (fun _ => 0) 0 ⟨by omega, by omega, fun k hk => by omega, fun k k' u1 u2 => by omega, by omega⟩ (by rw [smW]; omega)
  have w : sI (n * 2) (cA (A 0) 16) 0 0 (fun _ => 0) 0 := ⟨by omega, by omega, fun k hk => by omega, fun k k' u1 u2 => by omega, by omega⟩
  have hnu : ∀ k, k < cA (A 0) 16 → nuA (A 0) 16 k < 16 ∧ A 0 (125 + nuA (A 0) 16 k) ≠ -1 := nuA_1 (A 0) 16
  have hcb : ∀ k, k < cA (A 0) 16 → cbF (fun _ => 0) (A 0) 16 k ≠ -1 := fun k hk => by
    rw [cbF_nu _ _ 16 k hk]; exact (hnu k hk).2
  have hnb : ∀ k, k < cA (A 0) 16 → whoF (fun _ => 0) (A 0) 16 k ≠ -1 := fun k hk => by
    have := (hnu k hk).1
    rw [whoF_nu _ _ 16 k hk]; exact nI_nm (by omega)
  obtain ⟨t', pl', st', sc', sx, sx2⟩ := c_search (h := h) (KI := KI) (KR := KR) (KA := KA) (KP := KP) (N := N) (nb := whoF (fun _ => 0) (A 0) 16) (pl := fun _ => 0) hl (by omega) (by omega) hcA hcb hnb (by omega) sq (st := fillF (fun _ => 0) 0 (n * 2) (-1)) (sc := fillF (fun _ => 0) 0 (n * 2) (-1)) (fun p hp => ff_in _ _ (by omega)) (fun p hp => ff_in _ _ (by omega))
  have pre : ∀ {X}, (if 0 ≤ r then (zck (cp (h ++ plC h (n * 2) (cA (A 0) 16) t' (whoF (fun _ => 0) (A 0) 16) (cbF (fun _ => 0) (A 0) 16) pl' st' sc') KI KR KA KP) 11 (some 0)).bind fun q3 => zb2 (f_X11_change N q3 (cp (h ++ plC h (n * 2) (cA (A 0) 16) t' (whoF (fun _ => 0) (A 0) 16) (cbF (fun _ => 0) (A 0) 16) pl' st' sc') KI KR KA KP)) fun x6 h4 => (zgR h4 9 x6 3).bind fun x7 => (zgR h4 3 (some (h.length + 0)) 4).bind fun x8 => (zck h4 2 x7).bind fun q4 => zb2 (f_X2_withSeats N q4 x8 h4) fun x9 h5 => (zpu h5 9 x6 3 (zr x9)).bind fun h6 => some (r, h6) else some (r, (cp (h ++ plC h (n * 2) (cA (A 0) 16) t' (whoF (fun _ => 0) (A 0) 16) (cbF (fun _ => 0) (A 0) 16) pl' st' sc') KI KR KA KP))) = X → f_X11_layout N 0 (cp h KI KR KA KP) = X := by
    intro X hX
    refine bS hq5 (bS (fgR s0.c rfl) (bS (fk w0.c) (bS cnt (iF (nI_ne0 (by omega) (by omega)) ?_))))
    have e0 : cp h KI KR KA KP = cp (h ++ []) KI KR KA KP := by rw [List.append_nil]
    rw [e0]
    have hl1 : ∀ {ns : List zE}, 46 ≤ (h ++ ns).length := by intro ns; rw [List.length_append]; omega
    refine nS hl 0 rfl (bS ((cg0_5 hl1).trans (congrArg some i4)) (bS (c_plan hl (by omega) (by omega) s0 s1 s3) (bS (n_k hl (i := 0) rfl) (zS sx hX))))
  have mpre : ∃ wh', (r = nI (cA (A 0) 16) → ∀ k, k < cA (A 0) 16 → wh' k = nI (V k)) ∧ ∀ h1 : zH, 46 ≤ h1.length → f_X12_layout N 27 (mp h1 I A) = if r = nI (cA (A 0) 16) then f_X12_layout_180 N 27 (nI (cA (A 0) 16)) (mp h1 (upd I 28 (nI (cA (A 0) 16))) (va_up (va_up A 29 (whoF (A 29) (A 0) 16)) 30 wh')) else some (r, mp h1 (upd I 28 (nI (cA (A 0) 16))) (va_up (va_up A 29 (whoF (A 29) (A 0) 16)) 30 wh')) := by
    obtain ⟨wh', x1, x2⟩ := m_sim (I := upd I 28 (nI (cA (A 0) 16))) (M := va_up A 29 (whoF (A 29) (A 0) 16)) (N := N) (P := n * 2) (ln := n) (nm := nuA (A 0) 16) (by omega) ((congrFun (vu_ne _ _ (by decide)) _).trans hn) (by omega) hcA (up_at _ _ _) (fun k hk => ⟨by rw [vu_at, whoF_nu _ _ 16 k hk], (hnu k hk).1, by rw [vu_ne _ _ (by decide), cbF_nu _ _ 16 k hk]⟩) (by omega) 800020 0 0 (fun _ => 0) 0 r V sq w (fillF (A 30) 0 16 (-1)) N (by omega) (fun k hk => by omega) (fun _ => by rw [ff_in _ _ (by omega)]; rfl) (fun k _ hk => ff_in _ _ (by omega))
    refine ⟨wh', x1, fun h1 hl1 => ?_⟩
    refine bS (mg0 hl1) (bS (z1' hl1) (iF (nI_ne0 (by omega) (by omega)) (bS (mu28 hl1 0) ?_)))
    have a1 := m_l20 (N := N) (h := h1) (I := I) (M := A) hl1 (by omega) 16 0 N (by omega) (by omega)
    rw [whoF, va_id] at a1
    refine a1.trans ?_
    have a2 := m_l69 (N := N) (h := h1) (I := upd I 28 (nI (cA (A 0) 16))) (M := va_up A 29 (whoF (A 29) (A 0) 16)) (f := A 30) (l1 := 0) (l2 := 0) hl1 16 0 N (by omega) (by omega)
    rw [ff_0, show va_up (va_up A 29 (whoF (A 29) (A 0) 16)) 30 (A 30) = va_up A 29 (whoF (A 29) (A 0) 16) from by
      have := va_id (va_up A 29 (whoF (A 29) (A 0) 16)) 30
      rw [vu_ne _ _ (show 30 ≠ 29 by decide)] at this
      exact this] at a2
    exact a2.trans (x2 h1 hl1)
  obtain ⟨wh', m1, m2⟩ := mpre
  by_cases hr : r = nI (cA (A 0) 16)
  · rcases SQ_fin hcA _ _ _ _ _ _ _ sq w with q1 | q1 | ⟨-, v1, v2⟩
    · exact absurd (q1.symm.trans hr).symm (nI_nm (by omega))
    · exfalso
      have z2 := congrArg Int32.toInt (q1.symm.trans hr)
      rw [nI_toInt (by omega)] at z2
      have z3 : (-2 : Int32).toInt = -2 := by decide
      omega
    subst hr
    have sv1 := sx2 rfl
    have wv := m1 rfl
    have H' := H.grow (ns := plC h (n * 2) (cA (A 0) 16) t' (whoF (fun _ => 0) (A 0) 16) (cbF (fun _ => 0) (A 0) 16) pl' st' sc')
    have k0 : kept h (cp (h ++ plC h (n * 2) (cA (A 0) 16) t' (whoF (fun _ => 0) (A 0) 16) (cbF (fun _ => 0) (A 0) 16) pl' st' sc') KI KR KA KP) := kept.cp
    have hlen : (cp (h ++ plC h (n * 2) (cA (A 0) 16) t' (whoF (fun _ => 0) (A 0) 16) (cbF (fun _ => 0) (A 0) 16) pl' st' sc') KI KR KA KP).length = h.length + 6 := n_len
    have hzs : zsl (cp (h ++ plC h (n * 2) (cA (A 0) 16) t' (whoF (fun _ => 0) (A 0) 16) (cbF (fun _ => 0) (A 0) 16) pl' st' sc') KI KR KA KP) ≤ zsl h + 3000 := by
      rw [zsl_cp hC]
      simp [plC, zsl, zsz]
      omega
    have p0 : (cp (h ++ plC h (n * 2) (cA (A 0) 16) t' (whoF (fun _ => 0) (A 0) 16) (cbF (fun _ => 0) (A 0) 16) pl' st' sc') KI KR KA KP)[h.length + 0]? = some (.inr (3, [zr (some (h.length + 1)), zr (some (h.length + 2)), zr (some (h.length + 3)), zi (nI (cA (A 0) 16)), zr (some (h.length + 4)), zr (some (h.length + 5)), zi (nI t')])) := n_get hl
    have p4 : (cp (h ++ plC h (n * 2) (cA (A 0) 16) t' (whoF (fun _ => 0) (A 0) 16) (cbF (fun _ => 0) (A 0) 16) pl' st' sc') KI KR KA KP)[h.length + 4]? = some (.inl (0, n * 2, .inl st')) := n_get hl
    have CE : CH (cp (h ++ plC h (n * 2) (cA (A 0) 16) t' (whoF (fun _ => 0) (A 0) 16) (cbF (fun _ => 0) (A 0) 16) pl' st' sc') KI KR KA KP) KI KR KA KP := H'.2.1
    have CEq := CE.eq
    generalize cp (h ++ plC h (n * 2) (cA (A 0) 16) t' (whoF (fun _ => 0) (A 0) 16) (cbF (fun _ => 0) (A 0) 16) pl' st' sc') KI KR KA KP = g at *
    have hlg : 46 ≤ g.length := by omega
    have s0' := s0.mono k0
    have s1' : fz aq ∧ g[aq]? = some (.inl (4, 16, .inr AR)) := ⟨s1.1, k0 _ s1.1 _ s1.2⟩
    have w0' := w0.mono k0
    have g0 : ∀ {ns : List zE} {KI : Nat → Int32} {KR : Nat → Option Nat} {KA : Nat → Nat → Int32} {KP : Nat → Option Nat}, (cp (g ++ ns) KI KR KA KP)[nq]? = some (.inr (2, [zr (some b1), zr (some b2), zr (some b3)])) := n_old (fz_19 w0'.1) w0'.2
    have gp : ∀ {ns : List zE} {KI : Nat → Int32} {KR : Nat → Option Nat} {KA : Nat → Nat → Int32} {KP : Nat → Option Nat}, (cp (g ++ ns) KI KR KA KP)[h.length + 0]? = _ := n_old (by omega) p0
    have kk := kept.cp (h := g) (ns := [.inr (9, [zr rq, zr (some (g.length + 1)), zr (some lq), zr (some (g.length + 2)), zi (seg (A 0) 0 6897)]), .inl (4, 16, .inr AR), .inr (2, [zr (some b1), zr (some b2), zr (some (h.length + 4))])]) (KI := upd KI 0 (nI (kpC c))) (KR := va_up KR 0 (some (g.length + 0))) (KA := KA) (KP := kpP KP c q)
    have m29 : va_up (va_up A 29 (whoF (A 29) (A 0) 16)) 30 wh' 0 = A 0 := by rw [vu_ne _ _ (by decide), vu_ne _ _ (by decide)]
    have main : OPo (fun _ => f_X11_layout N 0 (cp h KI KR KA KP)) (f_X12_layout N 27) g := by
      refine OPo.chgX H' (r := nI (cA (A 0) 16)) (ns := [.inr (9, [zr rq, zr (some (g.length + 1)), zr (some lq), zr (some (g.length + 2)), zi (seg (A 0) 0 6897)]), .inl (4, 16, .inr AR), .inr (2, [zr (some b1), zr (some b2), zr (some (h.length + 4))])]) (KI' := upd KI 0 (nI (kpC c))) (KA' := KA) (I' := upd (upd I 28 (nI (cA (A 0) 16))) 1 (nI (kpC c))) (A' := va_up (va_up (va_up A 29 (whoF (A 29) (A 0) 16)) 30 wh') 0 (plF (fillF (kpD (A 0) c) 6881 16 (-1)) (nuA (A 0) 16) V (cA (A 0) 16))) ?_ (fun h1 hl1 => ?_) (up_at _ _ _) (up_at _ _ _) ?_ ?_ (i7.cg (up_ne _ _ (by decide)) ?_ rfl ?_) ?_ (i9.cg (up_ne _ _ (by decide)) ?_ rfl rfl rfl ?_ ?_ ?_) (by simp) (by simp [zsl, zsz])
      · refine pre (iT (nI_pos' (by omega)) ?_)
        rw [← CEq]
        refine bS (ck0 hlg) (zS (c_chg H' (by omega) s0' s1') (bS (n_R hlg (i := 0) rfl rfl) (bS (fgR gp rfl) (bS (fk g0) ?_))))
        refine zS (show f_X2_withSeats N nq (some (h.length + 4)) _ = some _ from nS hlg 2 rfl (bS (fgR g0 rfl) (bS (fgR g0 rfl) (bS (bS (n_u hlg (i := 2) rfl (Nat.le_of_ble_eq_true rfl)) (bS (n_u hlg (i := 2) rfl (Nat.le_of_ble_eq_true rfl)) (bS (n_u hlg (i := 2) rfl (Nat.le_of_ble_eq_true rfl)) rfl))) rfl)))) ?_
        refine bS (n_u hlg (i := 0) rfl (Nat.le_of_ble_eq_true rfl)) ?_
        rw [CEq]
        rfl
      · rw [m2 h1 hl1, if_pos rfl]
        have e := m_l180 (N := N) (h := h1) (I := upd I 28 (nI (cA (A 0) 16))) (M := va_up (va_up A 29 (whoF (A 29) (A 0) 16)) 30 wh') (A := cA (A 0) 16) (c := c) (nm := nuA (A 0) 16) (V := V) hl1 (by omega) i3 ((up_ne _ _ (by decide)).trans i2) hcA (up_at _ _ _) (fun k hk => ⟨by rw [vu_ne _ _ (by decide), vu_at, whoF_nu _ _ 16 k hk], (hnu k hk).1⟩) (fun k hk => by rw [vu_at]; exact wv k hk)
        rw [m29] at e
        exact e
      · intro i hi
        rw [vu_at, plF_segi _ _ _ hi _ (fun k hk => (hnu k hk).1), seg_ffi _ _ (by omega) hi]
      · rw [vu_at, plF_seg0 _ _ _ _ (fun k hk => (hnu k hk).1), seg_ff0 _ _ (by omega), seg_kp0]
        have pIn := plF_in (fillF (seg (A 0) 0) 6881 16 (-1)) (nuA (A 0) 16) V (cA (A 0) 16) (nuA_2 (A 0) 16)
        have pOut : ∀ p, ¬ (6881 ≤ p ∧ p < 6897) → plF (fillF (seg (A 0) 0) 6881 16 (-1)) (nuA (A 0) 16) V (cA (A 0) 16) p = seg (A 0) 0 p := by
          intro p hp
          rw [plF_out _ _ _ _ (fun k hk => by have := (hnu k hk).1; omega), ff_out _ _ (by omega)]
        have pNone : ∀ a, a < 16 → (∀ k, k < cA (A 0) 16 → nuA (A 0) 16 k ≠ a) → plF (fillF (seg (A 0) 0) 6881 16 (-1)) (nuA (A 0) 16) V (cA (A 0) 16) (6881 + a) = -1 := by
          intro a ha hk
          rw [plF_out _ _ _ _ (fun k h1 => by have := hk k h1; omega), ff_in _ _ (by omega)]
        refine SR.putL (F := seg (A 0) 0) hlg (s2.mono k0) (fun b hb => (s3 b hb).mono k0) (s4.mono k0) s6 rfl rfl (fun p hp => pOut p (by omega)) ?_
        refine ⟨b1, b2, h.length + 4, n, f1, f2, st', ⟨fz_new hlg 2, (n_get hlg).trans rfl⟩, (w1.mono k0).mono kk, (w2.mono k0).mono kk, ⟨Or.inl (by omega), kk _ (Or.inl (by omega)) _ p4⟩, by rw [pOut _ (by omega)]; exact z1, z2, fun k hk => ?_, fun p hp => ?_, fun a ha => ?_, fun a ha p hp => ?_⟩
        · rw [pOut _ (by omega), pOut _ (by omega)]
          exact z3 k hk
        · by_cases hf : fre (cA (A 0) 16) p V
          · exact Or.inl (sv1.2 p hp hf)
          · obtain ⟨k, hk⟩ := Classical.not_forall.mp hf
            obtain ⟨hk1, hk2⟩ := Classical.not_imp.mp hk
            have hk3 : V k = p := Classical.not_not.mp hk2
            obtain ⟨u1, u2⟩ := hnu k hk1
            refine Or.inr ⟨nuA (A 0) 16 k, u1, ?_, ?_⟩
            · rw [← hk3, sv1.1 k hk1, whoF_nu _ _ 16 k hk1]
            · rw [pOut _ (by omega), seg_lo _ (by omega)]
              exact u2
        · by_cases ex : ∃ k, k < cA (A 0) 16 ∧ nuA (A 0) 16 k = a
          · obtain ⟨k, hk1, hk2⟩ := ex
            exact Or.inr ⟨V k, v1 k hk1, by rw [← hk2]; exact pIn k hk1⟩
          · exact Or.inl (pNone a ha (fun k hk z => ex ⟨k, hk, z⟩))
        · constructor
          · intro hs
            by_cases hf : fre (cA (A 0) 16) p V
            · rw [sv1.2 p hp hf] at hs
              exact absurd hs.symm (nI_nm (by omega))
            · obtain ⟨k, hk⟩ := Classical.not_forall.mp hf
              obtain ⟨hk1, hk2⟩ := Classical.not_imp.mp hk
              have hk3 : V k = p := Classical.not_not.mp hk2
              have u1 := (hnu k hk1).1
              rw [← hk3, sv1.1 k hk1, whoF_nu _ _ 16 k hk1] at hs
              have hka := (nI_eq (by omega) (by omega)).mp hs
              rw [← hka, pIn k hk1, hk3]
          · intro hs
            by_cases ex : ∃ k, k < cA (A 0) 16 ∧ nuA (A 0) 16 k = a
            · obtain ⟨k, hk1, hk2⟩ := ex
              rw [← hk2, pIn k hk1] at hs
              have hv := v1 k hk1
              have hkp := (nI_eq (by omega) (by omega)).mp hs
              rw [← hkp, sv1.1 k hk1, whoF_nu _ _ 16 k hk1, hk2]
            · rw [pNone a ha (fun k hk z => ex ⟨k, hk, z⟩)] at hs
              exact absurd hs.symm (nI_nm (by omega))
      · rw [up_ne _ _ (by decide), up_ne _ _ (by decide)]
      · rw [vu_ne _ _ (by decide), vu_ne _ _ (by decide), vu_ne _ _ (by decide)]
      · rw [up_ne _ _ (by decide), up_ne _ _ (by decide), up_ne _ _ (by decide), up_ne _ _ (by decide), up_ne _ _ (by decide), up_ne _ _ (by decide)]
        exact i8
      · rw [up_ne _ _ (by decide), up_ne _ _ (by decide)]
      · rw [vu_ne _ _ (by decide), vu_ne _ _ (by decide), vu_ne _ _ (by decide)]
      · rw [vu_ne _ _ (by decide), vu_ne _ _ (by decide), vu_ne _ _ (by decide)]
      · rw [vu_ne _ _ (by decide), vu_ne _ _ (by decide), vu_ne _ _ (by decide)]
    obtain ⟨r1, x1, x2, y1, y2, y3, y4, y5, y6⟩ := main
    rw [hC.eq] at y1
    exact ⟨r1, x1, x2, y1, y2, y3, by omega, by omega, y6⟩
  · have hneg : ¬ 0 ≤ r := by
      rcases SQ_fin hcA _ _ _ _ _ _ _ sq w with q1 | q1 | ⟨q1, -⟩
      · rw [q1]; decide
      · rw [q1]; decide
      · exact absurd q1 hr
    refine (OPo.mut H (r := r) (ns := plC h (n * 2) (cA (A 0) 16) t' (whoF (fun _ => 0) (A 0) 16) (cbF (fun _ => 0) (A 0) 16) pl' st' sc') (KI' := KI) (KR' := KR) (KA' := KA) (I' := upd I 28 (nI (cA (A 0) 16))) (A' := va_up (va_up A 29 (whoF (A 29) (A 0) 16)) 30 wh') (pre (iF hneg rfl)) (fun h1 hl1 => (m2 h1 hl1).trans (if_neg hr)) rfl (up_ne _ _ (by decide)) ?_ rfl (i7.cg rfl (up_ne _ _ (by decide)) rfl ?_) ?_ (i9.cg rfl (up_ne _ _ (by decide)) rfl rfl rfl ?_ ?_ ?_) ?_ ?_).q
    · rw [vu_ne _ _ (by decide), vu_ne _ _ (by decide)]
    · rw [vu_ne _ _ (by decide), vu_ne _ _ (by decide)]
    · rw [up_ne _ _ (by decide), up_ne _ _ (by decide)]
      exact i8
    · rw [vu_ne _ _ (by decide), vu_ne _ _ (by decide)]
    · rw [vu_ne _ _ (by decide), vu_ne _ _ (by decide)]
    · rw [vu_ne _ _ (by decide), vu_ne _ _ (by decide)]
    · show 6 ≤ 100; omega
    · simp [plC, zsl, zsz]
      omega
