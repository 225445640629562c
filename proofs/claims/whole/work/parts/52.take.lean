/-! ===== take ===== -/
theorem max0 {k : Nat} (hk : k < 2 ^ 31) : (if (0 : Int32) < nI k then nI k else 0) = nI k := by
  by_cases h : k = 0
  · subst h; rfl
  · exact if_pos (nI_lt (a := 0) (by omega) hk)
theorem nI_subl {a b : Nat} (h : b ≤ a) : nI a - nI b = nI (a - b) := pk_sub h
theorem op_take {h : zH} {N : Nat} (hN : 21000 ≤ N) (H : INX h) (x : Int32) : OPo (f_X11_take N 0 x) (f_X12_take N 27 x) h := by
  obtain ⟨KI, KR, KA, KP, I, A, c, q, H⟩ := H
  obtain ⟨hl, hC, hM, i1, i2, i3, i4, i5, i6, i7, i8, i9⟩ := id H
  obtain ⟨rq, aq, lq, nq, AR, s0, s1, s2, s3, s4, s5, s6⟩ := id i5
  have hq5 : zgR (cp h KI KR KA KP) 11 (some 0) 5 = some (some q) := (cg0_5 hl).trans (congrArg some i4)
  have hf := c_find (N := N) (KI := KI) (KR := KR) (KA := KA) (KP := KP) s0 s1 s3 x
  have ez : (1 : Int32) ≠ 0 := by decide
  cases hp : pA (A 0) x with
  | none =>
    refine OPo.same H (r := -1) ?_ ?_
    · exact bS hq5 (bS (fk s0.c) (bS (hf.1 (by rw [pA_seg]; exact hp)) (iT rfl rfl)))
    · exact bS (mck hl) (bS (m_isA0 hl hp) (iT rfl rfl))
  | some j =>
    obtain ⟨y, e1, e2⟩ := hf.2 j (by rw [pA_seg]; exact hp)
    obtain ⟨hj, rfl, hcl⟩ := pA_some hp
    have w := s3 j hj
    rw [e1] at w
    obtain ⟨⟨cl, c1, c2⟩, sh, sc, y0, ws, wc⟩ := w
    obtain ⟨n, n1, n2, n3, n4, n5⟩ := ws.okE s2
    have ws' : shR (cp h KI KR KA KP) sh (seg (A 0) 0) j := ws.mono cp0k
    have ys : zck (cp h KI KR KA KP) 8 (some sh) = some sh := by obtain ⟨b1, b2, b3, n, m, f1, f2, f3, q0, -⟩ := ws'; exact fk q0.2
    have n1' : A 0 (141 + j) = nI n := by rw [← n1, seg_lo _ (by omega)]
    by_cases h0 : n = 0
    · refine OPo.same H (r := -1) ?_ (bS (mck hl) (bS (m_isA hl hp) (iF ez (bS (mg0 hl) (bS (ld141 hl hj n1') (iT (by rw [h0]; rfl) rfl))))))
      refine bS hq5 (bS (fk s0.c) (bS e2 (iF (by simp) (bS hq5 (bS (fgR s0.c rfl) ?_)))))
      cases rq with
      | none => exact iT rfl rfl
      | some r => exact iF (by simp) (bS (fgR y0.c rfl) (bS ys (bS (g_cEnds ws' n1 n2) (iT (by rw [h0]; rfl) rfl))))
    obtain ⟨r, rfl⟩ := n5 h0
    obtain ⟨e, rfl⟩ : ∃ x, n = x + 1 := ⟨n - 1, by omega⟩
    have wF := s2.1
    have hE : e + 1 ≤ tE (seg (A 0) 0) := by
      rcases n4 with n4 | ⟨-, n4⟩
      · exact absurd n4 h0
      · exact n4
    have hw := wf_w wF (lg_lt wF (e := e) (by omega))
    have s2' : rR (cp h KI KR KA KP) (some r) (seg (A 0) 0) := s2.mono cp0k
    have rk : zck (cp h KI KR KA KP) 6 (some r) = some r := by obtain ⟨w, a1, a2, a3, a4, a5, a6, a7, a8, f1, f2, f3, f4, f5, f6, f7, f8, q0, -⟩ := s2'; exact fk q0.2
    obtain ⟨b1, b2, b3, n', m, t1, t2, t3, q0, q1, q2, q3, z1, z2, z3, z4, z5, z6, z7, z8, z9⟩ := ws
    have hnn : n' = e + 1 := (nI_eq (by omega) (by omega)).mp (z1.symm.trans n1)
    subst hnn
    have g0 : ∀ {ns : List zE} {KI : Nat → Int32} {KR : Nat → Option Nat} {KA : Nat → Nat → Int32} {KP : Nat → Option Nat}, (cp (h ++ ns) KI KR KA KP)[sh]? = some (.inr (8, [zr (some b1), zr (some b2), zr (some b3)])) := n_old (fz_19 q0.1) q0.2
    have g1 : ∀ {ns : List zE} {KI : Nat → Int32} {KR : Nat → Option Nat} {KA : Nat → Nat → Int32} {KP : Nat → Option Nat}, (cp (h ++ ns) KI KR KA KP)[b1]? = some (.inl (0, e + 1, .inl t1)) := n_old (fz_19 q1.1) q1.2
    have g2 : ∀ {ns : List zE} {KI : Nat → Int32} {KR : Nat → Option Nat} {KA : Nat → Nat → Int32} {KP : Nat → Option Nat}, (cp (h ++ ns) KI KR KA KP)[b2]? = some (.inl (0, aT (seg (A 0) 0) (e + 1), .inl t2)) := n_old (fz_19 q2.1) q2.2
    have gy : ∀ {ns : List zE} {KI : Nat → Int32} {KR : Nat → Option Nat} {KA : Nat → Nat → Int32} {KP : Nat → Option Nat}, (cp (h ++ ns) KI KR KA KP)[y]? = some (.inr (0, [zi (seg (A 0) 0 (125 + j)), zr (some sh), zr (some sc)])) := n_old (fz_19 y0.1) y0.2
    have eT : aT (seg (A 0) 0) (e + 1) - wN (seg (A 0) 0) (lgOf (seg (A 0) 0) e) = aT (seg (A 0) 0) e := by rw [aT]; omega
    have eT2 : aT (seg (A 0) 0) (e + 1) = aT (seg (A 0) 0) e + wN (seg (A 0) 0) (lgOf (seg (A 0) 0) e) := rfl
    have x1 : (if (0 : Int32) < nI (e + 1) - 1 then nI (e + 1) - 1 else 0) = nI e := by rw [nI_pred, max0 (by omega)]
    have x2 : (if (0 : Int32) < nI (aT (seg (A 0) 0) (e + 1)) - (if (0 : Int32) < nI (wN (seg (A 0) 0) (lgOf (seg (A 0) 0) e)) then nI (wN (seg (A 0) 0) (lgOf (seg (A 0) 0) e)) else 0) then nI (aT (seg (A 0) 0) (e + 1)) - (if (0 : Int32) < nI (wN (seg (A 0) 0) (lgOf (seg (A 0) 0) e)) then nI (wN (seg (A 0) 0) (lgOf (seg (A 0) 0) e)) else 0) else 0) = nI (aT (seg (A 0) 0) e) := by
      rw [max0 (by omega), pk_sub (by omega), max0 (by omega), eT]
    have kk := kept.cp (h := h) (ns := [.inr (9, [zr (some r), zr (some (h.length + 1)), zr (some lq), zr (some nq), zi (seg (A 0) 0 6897)]), .inl (4, 16, .inr (va_up AR j (some (h.length + 5)))), .inr (8, [zr (some (h.length + 3)), zr (some (h.length + 4)), zr (some b3)]), .inl (0, e, .inl (cpy t1 (min (e + 1) e))), .inl (0, aT (seg (A 0) 0) e, .inl (cpy t2 (min (aT (seg (A 0) 0) (e + 1)) (aT (seg (A 0) 0) e)))), .inr (0, [zi (seg (A 0) 0 (125 + j)), zr (some (h.length + 2)), zr (some sc)])]) (KI := upd KI 0 (nI (kpC c))) (KR := va_up KR 0 (some (h.length + 0))) (KA := KA) (KP := kpP KP c q)
    refine OPo.chg H (r := nI e) (d' := upd (kpD (A 0) c) (141 + j) (nI e)) (ns := [.inr (9, [zr (some r), zr (some (h.length + 1)), zr (some lq), zr (some nq), zi (seg (A 0) 0 6897)]), .inl (4, 16, .inr (va_up AR j (some (h.length + 5)))), .inr (8, [zr (some (h.length + 3)), zr (some (h.length + 4)), zr (some b3)]), .inl (0, e, .inl (cpy t1 (min (e + 1) e))), .inl (0, aT (seg (A 0) 0) e, .inl (cpy t2 (min (aT (seg (A 0) 0) (e + 1)) (aT (seg (A 0) 0) e)))), .inr (0, [zi (seg (A 0) 0 (125 + j)), zr (some (h.length + 2)), zr (some sc)])]) ?_ (fun h1' hl1 => ?_) ?_ ?_ (by simp) (by simp [zsl, zsz]; omega)
    · refine bS hq5 (bS (fk s0.c) (bS e2 (iF (by simp) (bS hq5 (bS (fgR s0.c rfl) (iF (by simp) (bS (fgR y0.c rfl) (bS ys (bS (g_cEnds ws' n1 n2) (iF (fun z => h0 ((nI_eq (b := 0) (by omega) (by omega)).mp z)) (bS (fgR y0.c rfl) (bS ys (bS (g_cEnds ws' n1 n2) (bS hq5 (bS (fgR s0.c rfl) (bS hq5 (bS (fgR s0.c rfl) (bS rk ?_))))))))))))))))))
      rw [nI_pred]
      refine bS ((g_legOf s2' (by omega) (by omega)).trans (congrArg some (if_pos (by omega)))) (bS rk (bS (g_arrowsOf s2' (lg_lt wF (by omega))) (bS (ck0 hl) (zS (c_chg H (by omega) s0 s1) (bS (fgR gy rfl) (bS (fk g0) ?_))))))
      refine zS (show f_X8_withoutLast N sh _ _ = some _ from bS (fgR g0 rfl) (bS (flen g1 (by omega)) (bS (fgR g0 rfl) (bS (flen g2 (by omega)) (nS hl 2 rfl (bS (fgR g0 rfl) (zS (n_cpi hl 3 rfl g1 x1 (by omega) (by omega) (by omega)) (bS (fgR g0 rfl) (zS (n_cpi hl 4 rfl g2 x2 (by omega) (by omega) (by omega)) (bS (fgR g0 rfl) (bS (bS (n_u hl (i := 2) rfl (Nat.le_of_ble_eq_true rfl)) (bS (n_u hl (i := 2) rfl (Nat.le_of_ble_eq_true rfl)) (bS (n_u hl (i := 2) rfl (Nat.le_of_ble_eq_true rfl)) rfl))) rfl))))))))))) ?_
      refine bS (fk gy) (zS (show f_X0_with N y (some (h.length + 2)) _ = some _ from nS hl 5 rfl (bS (fgI gy rfl) (bS (fgR gy rfl) (bS (bS (n_u hl (i := 5) rfl (Nat.le_of_ble_eq_true rfl)) (bS (n_u hl (i := 5) rfl (Nat.le_of_ble_eq_true rfl)) (bS (n_u hl (i := 5) rfl (Nat.le_of_ble_eq_true rfl)) rfl))) rfl)))) ?_)
      exact bS (n_k hl (i := 0) rfl) (bS (c_put hl rfl rfl hj (Or.inr ⟨_, n_k hl (i := 5) rfl⟩)) rfl)
    · rw [m_take1 hl1 hN i3 i2 hp (by rw [n1']; exact fun z => h0 ((nI_eq (b := 0) (by omega) (by omega)).mp z)), kp_lo _ _ (by omega), n1', nI_pred]
    · intro i hi
      rw [seg_upi _ (by omega) hi]
    · rw [seg_up0 _ (by omega), seg_kp0]
      have nu : ∀ p, p ≠ 141 + j → upd (seg (A 0) 0) (141 + j) (nI e) p = seg (A 0) 0 p := fun p hp => up_ne _ _ hp
      have qr : ∀ p, p < 125 → upd (seg (A 0) 0) (141 + j) (nI e) p = seg (A 0) 0 p := fun p hp => nu p (by omega)
      have em : min (aT (seg (A 0) 0) (e + 1)) (aT (seg (A 0) 0) e) = aT (seg (A 0) 0) e := Nat.min_eq_right (by omega)
      have ee : min (e + 1) e = e := Nat.min_eq_right (by omega)
      refine SR.putA (F := seg (A 0) 0) hl hj s2 s3 s4 s6 rfl rfl (fun p hp => ?_) ?_ ?_
      · unfold ownA at hp
        exact nu p (by omega)
      · have cc := nu (125 + j) (by omega)
        refine ⟨⟨cl, cc.trans c1, c2⟩, h.length + 2, sc, ⟨fz_new hl 5, by rw [cc]; exact (n_get hl).trans rfl⟩, ?_, (wc.mono kk).cs (fun p hp => nu p (by omega))⟩
        refine ⟨h.length + 3, h.length + 4, b3, e, m, cpy t1 (min (e + 1) e), cpy t2 (min (aT (seg (A 0) 0) (e + 1)) (aT (seg (A 0) 0) e)), t3, ⟨fz_new hl 2, (n_get hl).trans rfl⟩, ⟨fz_new hl 3, (n_get hl).trans rfl⟩, ⟨fz_new hl 4, by rw [aT.cg qr]; exact (n_get hl).trans rfl⟩, q3.mono kk, up_at _ _ _, ⟨by omega, by rw [aT.cg qr]; omega⟩, ?_, ?_, ?_, ?_, ?_, z8, ?_⟩
        · intro hz
          rw [nu _ (by omega), wF.1] at hz
          exact absurd hz (by decide)
        · intro _
          rw [tE.cg qr]; omega
        · intro k hk
          rw [aT.cg qr] at hk
          rw [nu _ (by omega), em, cpy, if_pos hk]
          exact z5 k (by omega)
        · intro k hk
          rw [aT.cg qr, aT.cg qr, ee, cpy, if_pos hk, z6 k (by omega)]
          have m1 := aT_mono (seg (A 0) 0) (n := k) (m := k + 1) (by omega)
          have m2 := aT_mono (seg (A 0) 0) (n := k + 1) (m := e) (by omega)
          refine sN_cg (fun i v1 v2 => ?_)
          rw [em, cpy, if_pos (by omega)]
        · rw [nu _ (by omega)]; exact z7
        · intro k hk
          rw [nu _ (by omega)]; exact z9 k hk
      · refine (s5.mono kk).cg (fun p h5 h6 => nu p (by omega)) (fun b hb h5 => ?_)
        rw [nu _ (by omega)]; exact h5
