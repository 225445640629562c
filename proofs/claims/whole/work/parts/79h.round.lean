/-! ===== round ===== -/
theorem IN.growR {h : zH} {ns : List zE} {KI : Nat → Int32} {KR KR' : Nat → Option Nat} {KA : Nat → Nat → Int32} {KP : Nat → Option Nat} {I : Nat → Int32} {A : Nat → Nat → Int32} {c q : Nat} (H : IN h KI KR KA KP I A c q) (hR : KR' 0 = KR 0) : IN (cp (h ++ ns) KI KR' KA KP) KI KR' KA KP I A c q := by
  obtain ⟨hl, hC, hM, i1, i2, i3, i4, i5, i6, i7, i8, i9⟩ := H
  refine ⟨by rw [n_len]; omega, CH.of (by rw [List.length_append]; omega), hM.cp, i1, i2, i3, hR.trans i4, i5.mono kept.cp, fun i hi => ?_, i7, i8, i9⟩
  obtain ⟨p, e1, e2⟩ := i6 i hi
  exact ⟨p, e1, e2.mono kept.cp⟩
section rfin
variable {R f8 hd G : Nat → Int32} {fc : Nat}
theorem DI.wf (di : DI R fc f8 hd) (h1 : R 1 ≠ 0) (hG0 : G 0 = 1) (hG : ∀ j, 1 ≤ j → j < 125 → G j = R j) : wfR G := by
  obtain ⟨L, ts, d1, d2, d3, d4, d5, d6, d7, d8, d9, d10, d11, d12⟩ := di
  have hL : 1 ≤ L := by
    apply Nat.pos_of_ne_zero
    intro z
    apply h1
    rw [d3, z]; rfl
  have gL' : gL G = L := by unfold gL; rw [hG 1 (by omega) (by omega), d3, nI_clamp (by omega)]
  refine ⟨hG0, ⟨L, by rw [hG 1 (by omega) (by omega)]; exact d3, hL, d4⟩, ⟨fc, by rw [hG 14 (by omega) (by omega)]; exact d1, d2, fun l hl => ?_, fun f hf => ?_⟩, ⟨ts, by rw [hG 115 (by omega) (by omega)]; exact d5, d6, fun t ht => ?_⟩, fun i hi => ?_⟩
  · rw [gL'] at hl
    rw [hG _ (by omega) (by omega), hG _ (by omega) (by omega), hG _ (by omega) (by omega)]
    exact d7 l hl
  · obtain ⟨ln, u1, u2, u3, u4⟩ := d8 f hf
    refine ⟨ln, by rw [hG _ (by omega) (by omega)]; exact u1, u2, u3, fun k hk => ?_⟩
    rw [hG _ (by omega) (by omega), hG _ (by omega) (by omega)]
    exact u4 k hk
  · rw [hG _ (by omega) (by omega)]; exact d10 t ht
  · rw [hG _ (by omega) (by omega)]; exact d11 i hi
theorem DI.rR {H h : zH} (di : DI R fc f8 hd) (hl : 46 ≤ h.length) (h1 : R 1 ≠ 0) (hG0 : G 0 = 1) (hG : ∀ j, 1 ≤ j → j < 125 → G j = R j) (hc : ∀ i, i < 9 → H[h.length + i]? = (dR h R (nI fc) f8)[i]?) : rR H (some (h.length + 0)) G := by
  have w := di.wf h1 hG0 hG
  obtain ⟨L, ts, d1, d2, d3, d4, d5, d6, d7, d8, d9, d10, d11, d12⟩ := id di
  have gL' : gL G = L := by unfold gL; rw [hG 1 (by omega) (by omega), d3, nI_clamp (by omega)]
  refine ⟨w, h.length + 1, h.length + 2, h.length + 3, h.length + 4, h.length + 5, h.length + 6, h.length + 7, h.length + 8, vw R 15 4, vw R 19 48, vw R 67 48, vw3 R 2, vw3 R 3, vw3 R 4, vw R 116 6, f8, ⟨fz_new hl 0, ?_⟩, ⟨fz_new hl 1, hc 1 (by omega)⟩, ⟨fz_new hl 2, hc 2 (by omega)⟩, ⟨fz_new hl 3, hc 3 (by omega)⟩, ⟨fz_new hl 4, hc 4 (by omega)⟩, ⟨fz_new hl 5, hc 5 (by omega)⟩, ⟨fz_new hl 6, hc 6 (by omega)⟩, ⟨fz_new hl 7, hc 7 (by omega)⟩, ⟨fz_new hl 8, hc 8 (by omega)⟩, fun f hf => ?_, fun l hl => ?_, fun t ht => ?_, fun i hi => ?_⟩
  · rw [hG 14 (by omega) (by omega), hG 1 (by omega) (by omega), hG 115 (by omega) (by omega), d1]
    exact hc 0 (by omega)
  · rw [hG 14 (by omega) (by omega), d1, nI_clamp (by omega)] at hf
    obtain ⟨ln, u1, u2, u3, u4⟩ := d8 f hf
    refine ⟨by rw [hG _ (by omega) (by omega)]; exact if_pos (by omega), fun k hk => ?_⟩
    rw [hG _ (by omega) (by omega), u1, nI_clamp (by omega)] at hk
    rw [hG _ (by omega) (by omega), hG _ (by omega) (by omega)]
    refine ⟨(if_pos (by omega)).trans ?_, (if_pos (by omega)).trans ?_⟩
    · rw [show 19 + (f * 12 + k) = 19 + 12 * f + k by omega]
    · rw [show 67 + (f * 12 + k) = 67 + 12 * f + k by omega]
  · rw [gL'] at hl
    rw [hG _ (by omega) (by omega), hG _ (by omega) (by omega), hG _ (by omega) (by omega)]
    exact ⟨if_pos (by omega), if_pos (by omega), if_pos (by omega)⟩
  · rw [hG 115 (by omega) (by omega), d5, nI_clamp (by omega)] at ht
    rw [hG _ (by omega) (by omega)]
    exact if_pos (by omega)
  · rw [hG _ (by omega) (by omega)]
    rcases d12 i hi with ⟨u1, -, u3⟩ | ⟨u1, -⟩
    · exact Or.inl ⟨u1, u3⟩
    · exact Or.inr u1
end rfin
theorem op_round {h : zH} {N : Nat} (hN : 21000 ≤ N) (H : INX h) : OPq (f_X11_round N 0) (f_X12_round N 27) h := by
  obtain ⟨KI, KR, KA, KP, I, A, c, q, H⟩ := H
  obtain ⟨hl, hC, hM, i1, i2, i3, i4, i5, i6, ⟨t, t1, t2, t3, t4⟩, i8, i9⟩ := id H
  obtain ⟨rq, aq, lq, nq, AR, s0, s1, s2, s3, s4, s5, s6⟩ := id i5
  have hlD : ∀ {D : List zE}, 46 ≤ (h ++ D).length := by intro D; rw [List.length_append]; omega
  have eT : ∀ j, j < t → A 2 j = nI ((A 2 j).toNatClampNeg) ∧ (A 2 j).toNatClampNeg < 256 := fun j hj => by
    obtain ⟨-, v, v1, v2⟩ := t4 j hj
    rw [v1, nI_clamp (by omega)]
    exact ⟨rfl, v2⟩
  have wc : tpC KI KA (fun j => (A 2 j).toNatClampNeg) t := ⟨t1, t3, fun j hj => ⟨(t4 j hj).1.trans (eT j hj).1, (eT j hj).2⟩⟩
  have wm : tpM (I0 I t) A (fun j => (A 2 j).toNatClampNeg) t := ⟨by unfold I0; rw [up_ne _ _ (by decide), up_at], t3, eT⟩
  obtain ⟨q0, rb⟩ := run_ex isB (fun j => (A 2 j).toNatClampNeg) (t := t) (p := 0) (by omega)
  have rb2 := rb.2.1
  obtain ⟨a, k, n, tk, mb⟩ := m_rbeg (N := N) (by omega) t2 wm rb
  have hR0 : ∀ j, j < 125 → fillF (A 21) 0 125 0 j = 0 := fun j hj => ff_in _ _ (by omega)
  have di0 : DI (fillF (A 21) 0 125 0) 0 f8m (fillF (A 22) 0 3 0) := by
    refine ⟨0, 0, by rw [hR0 _ (by omega)]; rfl, by omega, by rw [hR0 _ (by omega)]; rfl, by omega, by rw [hR0 _ (by omega)]; rfl, by omega, fun l hl => by omega, fun f hf => by omega, fun f _ hf => hR0 _ (by omega), fun t ht => by omega, fun i hi => ⟨0, hR0 _ (by omega), by omega⟩, fun i hi => Or.inl ⟨?_, ff_in _ _ (by omega), hR0 _ (by omega)⟩⟩
    rcases (show i = 0 ∨ i = 1 ∨ i = 2 by omega) with rfl | rfl | rfl <;> rfl
  have crd := c_rd (N := N) (h := h) (KI := KI) (KR := KR) (KA := KA) (KP := KP) hl (by omega) hR0 wc rb
  rcases b_read (N := N) (K := KI) (KR := va_up KR 1 (some (h.length + 0))) (KP := KP) (I := I0 I t) hl (by omega) wc wm (vu_at _ _ _) (t - q0) 0 q0 (fillF (A 21) 0 125 0) f8m (fillF (A 22) 0 3 0) 0 (KI 13) (KI 14) a k n N N rb2 (by omega) (by omega) (by omega) (by omega) di0 tk with ⟨ft, P, D, a0, n0, s0', w1, w2, w3, a', k', g', m', R', hd', w4⟩ | ⟨R', fc', f8', hd', a0, n0, s0', a', k', g', m', di, hL, w3, w4⟩
  · obtain ⟨y1, y2, y3, f1, f2, f3, f4, f5, f6, f7, f8, rfl⟩ := w2
    refine (OPo.mut H (r := -1) (ns := dC h y1 y2 y3 f1 f2 f3 f4 f5 f6 f7 f8) (KI' := upd (rK KI a0 n0 s0' ft P) 1 0) (KR' := va_up KR 1 (some (h.length + 0))) (KA' := KA) (I' := upd (upd (mK (I0 I t) a' k' g' m' ft P) 11 ft) 12 P) (A' := va_up (va_up A 21 R') 22 hd') (bS (cg0_0 hl) (bS (ck1 hl) (zS (crd.trans w3) (bS (cg0_1 hlD) (bS (cu2_1 hlD 0) (iT rfl rfl)))))) (fun h1 hl1 => ((mb h1 hl1).trans (w4 h1 hl1)).trans ?_) ?_ ?_ ?_ (vu_ne _ _ (by decide)) ⟨0, up_at _ _ _, ?_, by omega, fun j hj => by omega⟩ ⟨?_, ?_⟩ (i9.cg ?_ ?_ rfl rfl rfl ?_ ?_ ?_) (by simp [dC]) (by simp [dC, zsl, zsz])).q
    · exact bS (x9 hl1) (bS (mu11 hl1 ft) (bS ((mg10 hl1).trans (congrArg some (up_ne _ _ (by decide)))) (bS (mu12 hl1 P) (bS (a := ft) ((mg9 hl1).trans (by rw [up_ne _ _ (by decide), up_ne _ _ (by decide)]; rfl)) (iF w1 rfl)))))
    · rw [up_ne _ _ (by decide), rk_lo (by omega)]
    · rw [up_ne _ _ (by decide), up_ne _ _ (by decide), mk_o (by omega)]; unfold I0; rw [up_ne _ _ (by decide), up_ne _ _ (by decide)]
    · rw [vu_ne _ _ (by decide), vu_ne _ _ (by decide)]
    · rw [up_ne _ _ (by decide), up_ne _ _ (by decide), mk_o (by omega)]; unfold I0; rw [up_at]; rfl
    · rw [up_ne _ _ (by decide), up_ne _ _ (by decide), up_at]; rfl
    · rw [up_ne _ _ (by decide), up_at]; rfl
    · rw [up_ne _ _ (by decide), rk_lo (by omega)]
    · rw [up_ne _ _ (by decide), up_ne _ _ (by decide), mk_o (by omega)]; unfold I0; rw [up_ne _ _ (by decide), up_ne _ _ (by decide)]
    · rw [vu_ne _ _ (by decide), vu_ne _ _ (by decide)]
    · rw [vu_ne _ _ (by decide), vu_ne _ _ (by decide)]
    · rw [vu_ne _ _ (by decide), vu_ne _ _ (by decide)]
  · have H' := H.growR (ns := dR h R' (nI fc') f8') (KR' := va_up KR 1 (some (h.length + 0))) (vu_ne _ _ (by decide))
    have k0 : kept h (cp (h ++ dR h R' (nI fc') f8') KI (va_up KR 1 (some (h.length + 0))) KA KP) := kept.cp
    have hlen : (cp (h ++ dR h R' (nI fc') f8') KI (va_up KR 1 (some (h.length + 0))) KA KP).length = h.length + 9 := n_len
    have hzs : zsl (cp (h ++ dR h R' (nI fc') f8') KI (va_up KR 1 (some (h.length + 0))) KA KP) ≤ zsl h + 3000 := by
      rw [zsl_cp hC]
      simp [dR, dC, zsl, zsz]
    have hcell : ∀ i, i < 9 → (cp (h ++ dR h R' (nI fc') f8') KI (va_up KR 1 (some (h.length + 0))) KA KP)[h.length + i]? = (dR h R' (nI fc') f8')[i]? := fun i _ => n_get hl
    have hX : cp (h ++ dR h R' (nI fc') f8') (upd (rK KI a0 n0 s0' 0 (-1)) 1 0) (va_up KR 1 (some (h.length + 0))) KA KP = cp (cp (h ++ dR h R' (nI fc') f8') KI (va_up KR 1 (some (h.length + 0))) KA KP) (upd (rK KI a0 n0 s0' 0 (-1)) 1 0) (va_up KR 1 (some (h.length + 0))) KA KP := cp_cp.symm
    have pre : ∀ {X}, (((zck (cp (h ++ dR h R' (nI fc') f8') (upd (rK KI a0 n0 s0' 0 (-1)) 1 0) (va_up KR 1 (some (h.length + 0))) KA KP) 11 (some 0)).bind fun q2 => zb2 (f_X11_change N q2 (cp (h ++ dR h R' (nI fc') f8') (upd (rK KI a0 n0 s0' 0 (-1)) 1 0) (va_up KR 1 (some (h.length + 0))) KA KP)) fun x4 h3 => (zpu h3 9 x4 0 (zr (some (h.length + 0)))).bind fun h4 => (zck h4 9 x4).bind fun q3 => (f_X9_forgetShots N q3 h4).bind fun h5 => (zck h5 6 (some (h.length + 0))).bind fun q4 => (f_X6_countEnds N q4 h5).bind fun x5 => some (x5, h5))) = X → f_X11_round N 0 (cp h KI KR KA KP) = X := fun hX' => bS (cg0_0 hl) (bS (ck1 hl) (zS (crd.trans w3) (bS (cg0_1 hlD) (bS (cu2_1 hlD 0) (iF (by simp) hX')))))
    rw [hX] at pre
    clear hX
    generalize cp (h ++ dR h R' (nI fc') f8') KI (va_up KR 1 (some (h.length + 0))) KA KP = g at *
    have hlg : 46 ≤ g.length := by omega
    have s0g := s0.mono k0
    have s1g : fz aq ∧ g[aq]? = some (.inl (4, 16, .inr AR)) := ⟨s1.1, k0 _ s1.1 _ s1.2⟩
    -- d behind it
    have G0 : zF (catF (seg (A 0) 0) 0 125 (upd R' 0 1)) 16 0 = 1 := by
      unfold zF
      rw [ff_out _ _ (by omega), ff_out _ _ (by omega), cf_in _ _ (by omega)]
      exact up_at _ _ _
    have G1 : ∀ j, 1 ≤ j → j < 125 → zF (catF (seg (A 0) 0) 0 125 (upd R' 0 1)) 16 j = R' j := fun j h1 h2 => by
      unfold zF
      rw [ff_out _ _ (by omega), ff_out _ _ (by omega), cf_in _ _ (by omega), Nat.sub_zero, up_ne _ _ (by omega)]
    have GO : ∀ j, ¬ j < 125 → ¬ (141 ≤ j ∧ j < 157) → ¬ (4765 ≤ j ∧ j < 4781) → zF (catF (seg (A 0) 0) 0 125 (upd R' 0 1)) 16 j = seg (A 0) 0 j := fun j h1 h2 h3 => by
      unfold zF
      rw [ff_out _ _ (by omega), ff_out _ _ (by omega), cf_out _ _ (by omega)]
    have GS : ∀ a, a < 16 → zF (catF (seg (A 0) 0) 0 125 (upd R' 0 1)) 16 (141 + a) = 0 := fun a ha => by
      unfold zF
      rw [ff_out _ _ (by omega), ff_in _ _ (by omega)]
    have GF : ∀ a, a < 16 → zF (catF (seg (A 0) 0) 0 125 (upd R' 0 1)) 16 (4765 + a) = 0 := fun a ha => by
      unfold zF
      rw [ff_in _ _ (by omega)]
    have sg : seg (zF (catF (kpD (A 0) c) 0 125 (upd R' 0 1)) 16) 0 = zF (catF (seg (A 0) 0) 0 125 (upd R' 0 1)) 16 := by
      unfold zF
      rw [seg_ff0 _ _ (by omega), seg_ff0 _ _ (by omega), seg_cf0 _ _ (by omega), seg_kp0]
    have wG := di.wf hL G0 G1
    have wd : wfR (zF (catF (kpD (A 0) c) 0 125 (upd R' 0 1)) 16) := by
      refine wfR.cg (F := zF (catF (seg (A 0) 0) 0 125 (upd R' 0 1)) 16) (fun j hj => ?_) wG
      rw [← sg, seg_lo _ (by omega)]
    have eE : tE (zF (catF (kpD (A 0) c) 0 125 (upd R' 0 1)) 16) = tE (zF (catF (seg (A 0) 0) 0 125 (upd R' 0 1)) 16) := by
      refine tE.cg (fun j hj => ?_)
      rw [← sg, seg_lo _ (by omega)]
    -- the class
    have s3g : ∀ a, a < 16 → arR g (AR a) (seg (A 0) 0) a := fun a ha => (s3 a ha).mono k0
    obtain ⟨AB, more, fs, ⟨-, b2, b3, b4, b5⟩⟩ := c_fs10 (N := N) (h := g) (KI := upd (upd (rK KI a0 n0 s0' 0 (-1)) 1 0) 0 (nI (kpC c))) (KR := va_up (va_up KR 1 (some (h.length + 0))) 0 (some (g.length + 0))) (KA := KA) (KP := kpP KP c q) (S := .inr (9, [zr (some (h.length + 0)), zr (some (g.length + 1)), zr (some lq), zr (some nq), zi (seg (A 0) 0 6897)])) (e2 := .inr (8, [zr (some (g.length + 3)), zr (some (g.length + 4)), zr (some (g.length + 5))])) (e3 := .inl (0, 0, .inl (fun _ => 0))) (e4 := .inl (0, 0, .inl (fun _ => 0))) (e5 := .inl (0, 0, .inl (fun _ => 0))) hlg rfl s3g 16 0 N AR [] (by omega) (by omega) ⟨fun a _ => rfl, fun a ha => by omega, fun a ha => by omega, by simp, by simp [zsl]⟩
    have kk := kept.cp (h := g) (ns := .inr (9, [zr (some (h.length + 0)), zr (some (g.length + 1)), zr (some lq), zr (some nq), zi (seg (A 0) 0 6897)]) :: .inl (4, 16, .inr AB) :: .inr (8, [zr (some (g.length + 3)), zr (some (g.length + 4)), zr (some (g.length + 5))]) :: .inl (0, 0, .inl (fun _ => 0)) :: .inl (0, 0, .inl (fun _ => 0)) :: .inl (0, 0, .inl (fun _ => 0)) :: more) (KI := upd (upd (rK KI a0 n0 s0' 0 (-1)) 1 0) 0 (nI (kpC c))) (KR := va_up (va_up KR 1 (some (h.length + 0))) 0 (some (g.length + 0))) (KA := KA) (KP := kpP KP c q)
    have rG : rR g (some (h.length + 0)) (zF (catF (seg (A 0) 0) 0 125 (upd R' 0 1)) 16) := di.rR hl hL G0 G1 hcell
    have rX := rG.mono kk
    have rk : zck (cp (g ++ (.inr (9, [zr (some (h.length + 0)), zr (some (g.length + 1)), zr (some lq), zr (some nq), zi (seg (A 0) 0 6897)]) :: .inl (4, 16, .inr AB) :: .inr (8, [zr (some (g.length + 3)), zr (some (g.length + 4)), zr (some (g.length + 5))]) :: .inl (0, 0, .inl (fun _ => 0)) :: .inl (0, 0, .inl (fun _ => 0)) :: .inl (0, 0, .inl (fun _ => 0)) :: more)) (upd (upd (rK KI a0 n0 s0' 0 (-1)) 1 0) 0 (nI (kpC c))) (va_up (va_up KR 1 (some (h.length + 0))) 0 (some (g.length + 0))) KA (kpP KP c q)) 6 (some (h.length + 0)) = some (h.length + 0) := by obtain ⟨w, a1, a2, a3, a4, a5, a6, a7, a8, f1, f2, f3, f4, f5, f6, f7, f8, q0, -⟩ := rX; exact fk q0.2
    have main : OPo (fun _ => f_X11_round N 0 (cp h KI KR KA KP)) (f_X12_round N 27) g := by
      refine OPo.chgX H' (r := nI (tE (zF (catF (kpD (A 0) c) 0 125 (upd R' 0 1)) 16))) (ns := .inr (9, [zr (some (h.length + 0)), zr (some (g.length + 1)), zr (some lq), zr (some nq), zi (seg (A 0) 0 6897)]) :: .inl (4, 16, .inr AB) :: .inr (8, [zr (some (g.length + 3)), zr (some (g.length + 4)), zr (some (g.length + 5))]) :: .inl (0, 0, .inl (fun _ => 0)) :: .inl (0, 0, .inl (fun _ => 0)) :: .inl (0, 0, .inl (fun _ => 0)) :: more) (KI' := upd (upd (rK KI a0 n0 s0' 0 (-1)) 1 0) 0 (nI (kpC c))) (KA' := KA) (I' := upd (upd (upd (mK (I0 I t) a' k' g' m' 0 (-1)) 11 0) 12 (-1)) 1 (nI (kpC c))) (A' := va_up (va_up (va_up A 21 (upd R' 0 1)) 22 hd') 0 (zF (catF (kpD (A 0) c) 0 125 (upd R' 0 1)) 16)) ?_ (fun h1 hl1 => ((mb h1 hl1).trans (w4 h1 hl1)).trans (m_rend hl1 hN i3 ?_ wd)) (up_at _ _ _) (up_at _ _ _) ?_ ?_ ⟨0, ?_, ?_, by omega, fun j hj => by omega⟩ ⟨?_, ?_⟩ (i9.cg ?_ ?_ rfl rfl rfl ?_ ?_ ?_) ?_ ?_
      · refine pre (bS (ck0 hlg) (zS (c_chgX H' (by omega) s0g s1g ?_) (bS (n_u hlg (i := 0) rfl (Nat.le_of_ble_eq_true rfl)) (bS (n_k hlg (i := 0) rfl) ?_))))
        · rw [up_ne _ _ (by decide), rk_lo (by omega)]
        · refine bS (a := cp (g ++ (.inr (9, [zr (some (h.length + 0)), zr (some (g.length + 1)), zr (some lq), zr (some nq), zi (seg (A 0) 0 6897)]) :: .inl (4, 16, .inr AB) :: .inr (8, [zr (some (g.length + 3)), zr (some (g.length + 4)), zr (some (g.length + 5))]) :: .inl (0, 0, .inl (fun _ => 0)) :: .inl (0, 0, .inl (fun _ => 0)) :: .inl (0, 0, .inl (fun _ => 0)) :: more)) (upd (upd (rK KI a0 n0 s0' 0 (-1)) 1 0) 0 (nI (kpC c))) (va_up (va_up KR 1 (some (h.length + 0))) 0 (some (g.length + 0))) KA (kpP KP c q)) ?_ (bS rk (bS (g_countEnds rX (by omega)) (by rw [eE])))
          exact nS hlg 2 rfl (bS (n_na hlg (k := 0) (by omega) 3 rfl (n_na hlg (k := 0) (by omega) 4 rfl (n_na hlg (k := 0) (by omega) 5 rfl (bS (bS (n_u hlg (i := 2) rfl (Nat.le_of_ble_eq_true rfl)) (bS (n_u hlg (i := 2) rfl (Nat.le_of_ble_eq_true rfl)) (bS (n_u hlg (i := 2) rfl (Nat.le_of_ble_eq_true rfl)) rfl))) rfl)))) fs)
      · unfold I0; rw [up_ne _ _ (by decide), up_ne _ _ (by decide)]; exact i2
      · intro i hi
        rw [vu_at]
        unfold zF
        rw [seg_ffi _ _ (by omega) hi, seg_ffi _ _ (by omega) hi, seg_cfi _ _ (by omega) hi]
      · rw [vu_at, sg]
        have l6 : zF (catF (seg (A 0) 0) 0 125 (upd R' 0 1)) 16 6897 = seg (A 0) 0 6897 := GO _ (by omega) (by omega) (by omega)
        refine ⟨some (h.length + 0), g.length + 1, lq, nq, AB, ⟨fz_new hlg 0, by rw [l6]; exact (n_get hlg).trans rfl⟩, ⟨fz_new hlg 1, (n_get hlg).trans rfl⟩, rX, fun a ha => ?_, ((s4.mono k0).mono kk).cg (fun j h5 h6 => GO j (by omega) (by omega) (by omega)), ((s5.mono k0).mono kk).cg (fun j h5 h6 => GO j (by omega) (by omega) (by omega)) (fun b hb h5 => by rw [GO _ (by omega) (by omega) (by omega)]; exact h5), by rw [l6]; exact s6⟩
        have ec := GO (125 + a) (by omega) (by omega) (by omega)
        have wa := s3g a ha
        cases hA : AR a with
        | none =>
          rw [hA] at wa
          rw [b2 a ha hA]
          show _ = _
          rw [ec]
          exact wa
        | some y =>
          rw [hA] at wa
          obtain ⟨⟨cl, c1, c2⟩, -⟩ := wa
          obtain ⟨i, sc, u1, u2, u3⟩ := b3 a ha y hA
          rw [u1]
          refine ⟨⟨cl, ec.trans c1, c2⟩, g.length + 2, sc, ⟨fz_new hlg _, ?_⟩, ?_, (u3.mono kk).cs (fun p hp => GO p (by omega) (by omega) (by omega))⟩
          · rw [ec]
            exact (n_get hlg).trans u2
          · refine ⟨g.length + 3, g.length + 4, g.length + 5, 0, 0, fun _ => 0, fun _ => 0, fun _ => 0, ⟨fz_new hlg 2, (n_get hlg).trans rfl⟩, ⟨fz_new hlg 3, (n_get hlg).trans rfl⟩, ⟨fz_new hlg 4, (n_get hlg).trans rfl⟩, ⟨fz_new hlg 5, (n_get hlg).trans rfl⟩, GS a ha, ⟨by omega, by rw [aT]; omega⟩, fun _ => ⟨rfl, rfl⟩, fun _ => by omega, fun k hk => by rw [aT] at hk; omega, fun e he => by omega, GF a ha, by omega, fun k hk => by omega⟩
      · rw [up_ne _ _ (by decide), up_at]; rfl
      · rw [up_ne _ _ (by decide), up_ne _ _ (by decide), up_ne _ _ (by decide), mk_o (by omega)]; unfold I0; rw [up_at]; rfl
      · rw [up_ne _ _ (by decide), up_ne _ _ (by decide), up_ne _ _ (by decide), up_ne _ _ (by decide), up_at]; rfl
      · rw [up_ne _ _ (by decide), up_ne _ _ (by decide), up_ne _ _ (by decide), up_at]; rfl
      · rw [up_ne _ _ (by decide), up_ne _ _ (by decide), rk_lo (by omega)]
      · rw [up_ne _ _ (by decide), up_ne _ _ (by decide), up_ne _ _ (by decide), mk_o (by omega)]; unfold I0; rw [up_ne _ _ (by decide), up_ne _ _ (by decide)]
      · rw [vu_ne _ _ (by decide), vu_ne _ _ (by decide), vu_ne _ _ (by decide)]
      · rw [vu_ne _ _ (by decide), vu_ne _ _ (by decide), vu_ne _ _ (by decide)]
      · rw [vu_ne _ _ (by decide), vu_ne _ _ (by decide), vu_ne _ _ (by decide)]
      · simp; omega
      · simp [zsl, zsz]; omega
    obtain ⟨r1, x1, x2, y1, y2, y3, y4, y5, y6⟩ := main
    rw [hC.eq] at y1
    exact ⟨r1, x1, x2, y1, y2, y3, by omega, by omega, y6⟩
