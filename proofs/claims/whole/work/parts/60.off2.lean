section moff
variable {h : zH} {I : Nat → Int32} {A : Nat → Nat → Int32} {N a m c : Nat} {k x y : Int32}
/-- may a shoot-off arrow be told so -/
def okO (k x y : Int32) : Prop := k = 1 ∨ (k = 0 ∧ ¬ ((x < -20000 ∨ 20000 < x) ∨ (y < -20000 ∨ 20000 < y)))
theorem m_off_80 (hl : 46 ≤ h.length) (hN : 21000 ≤ N) (hc : c ≤ 4) (hI : I 1 = nI c) (ha : a < 16) (hm : A 0 (4765 + a) = nI m) (h8 : m < 8) : f_X12_off_80 N 27 (nI a) k x y (mp h I A) = some (nI (m + 1), mp h (upd I 1 (nI (kpC c))) (va_up A 0 (upd (upd (kpD (A 0) c) (4781 + 8 * a + m) (if k = 1 then 2147483647 else x * x + y * y)) (4765 + a) (nI (m + 1))))) := by
  have fin : ∀ v : Int32, f_X12_off_126 N 27 (nI a) v (nI (4781 + 8 * a + m)) (some 28) (mp h (upd I 1 (nI (kpC c))) (va_up A 0 (kpD (A 0) c))) = some (nI (m + 1), mp h (upd I 1 (nI (kpC c))) (va_up A 0 (upd (upd (kpD (A 0) c) (4781 + 8 * a + m) v) (4765 + a) (nI (m + 1))))) := by
    intro v
    unfold f_X12_off_126
    simp (disch := omega) only [mg0 hl, ml0 hl, ms0 hl, la_l, la_r, Option.bind_some, bx_uu, vu_at, up_at, up_ne, kp_lo, hm]
  unfold f_X12_off_80
  rw [mck hl, Option.bind_some, m_keeps hl hN hc hI, Option.bind_some]
  simp (disch := omega) only [mg0 hl, ml0 hl, la_l, lm_l, nI_add, Option.bind_some, vu_at, kp_lo, hm]
  by_cases h1 : k = 1
  · rw [if_pos h1, if_pos h1]; exact fin _
  · rw [if_neg h1, if_neg h1]; exact fin _
theorem m_off_59 (w : okO k x y) : f_X12_off_59 N 27 (nI a) k x y (mp h I A) = f_X12_off_80 N 27 (nI a) k x y (mp h I A) := by
  unfold f_X12_off_59
  rcases w with rfl | ⟨rfl, w⟩
  · exact iF (by decide) rfl
  · exact iT rfl (bS (fz_far (fun z => w (Or.inl (Or.inl z))) (fun z => w (Or.inl (Or.inr z)))) (iT rfl (bS (fz_far (fun z => w (Or.inr (Or.inl z))) (fun z => w (Or.inr (Or.inr z)))) (iT rfl rfl))))
theorem m_off_no {X : zH} (w : ¬ okO k x y) : (if k = 0 then f_X12_off_59 N 27 (nI a) k x y X else if k = 1 then f_X12_off_59 N 27 (nI a) k x y X else some (-1, X)) = some (-1, X) := by
  by_cases k0 : k = 0
  · refine iT k0 (iT k0 ?_)
    have h : (x < -20000 ∨ 20000 < x) ∨ (y < -20000 ∨ 20000 < y) := Classical.byContradiction (fun z => w (Or.inr ⟨k0, z⟩))
    by_cases hx : x < -20000 ∨ 20000 < x
    · exact bS (m_far1 hx) (iF (by decide) rfl)
    · exact bS (fz_far (fun z => hx (Or.inl z)) (fun z => hx (Or.inr z))) (iT rfl (bS (m_far1 (h.resolve_left hx)) (iF (by decide) rfl)))
  · exact iF k0 (iF (fun z => w (Or.inl z)) rfl)
end moff
theorem op_off {h : zH} {N : Nat} (hN : 21000 ≤ N) (H : INX h) (a k x y : Int32) : OPo (f_X11_off N 0 a k x y) (f_X12_off N 27 a k x y) h := by
  obtain ⟨KI, KR, KA, KP, I, A, c, q, H⟩ := H
  obtain ⟨hl, hC, hM, i1, i2, i3, i4, i5, i6, i7, i8, i9⟩ := id H
  obtain ⟨rq, aq, lq, nq, AR, s0, s1, s2, s3, s4, s5, s6⟩ := id i5
  have hq5 : zgR (cp h KI KR KA KP) 11 (some 0) 5 = some (some q) := (cg0_5 hl).trans (congrArg some i4)
  have hf := c_find (N := N) (KI := KI) (KR := KR) (KA := KA) (KP := KP) s0 s1 s3 a
  have ez : (1 : Int32) ≠ 0 := by decide
  cases hp : pA (A 0) a with
  | none =>
    refine OPo.same H (r := -1) ?_ ?_
    · exact bS hq5 (bS (fk s0.c) (bS (hf.1 (by rw [pA_seg]; exact hp)) (iT rfl rfl)))
    · exact bS (mck hl) (bS (m_isA0 hl hp) (iT rfl rfl))
  | some j =>
    obtain ⟨yy, e1, e2⟩ := hf.2 j (by rw [pA_seg]; exact hp)
    obtain ⟨hj, rfl, hcl⟩ := pA_some hp
    have w := s3 j hj
    rw [e1] at w
    obtain ⟨⟨cl, c1, c2⟩, sh, sc, y0, ws, wc⟩ := w
    cases rq with
    | none =>
      refine OPo.same H (r := -1) (bS hq5 (bS (fk s0.c) (bS e2 (iF (by simp) (bS hq5 (bS (fgR s0.c rfl) (iT rfl rfl))))))) (bS (mck hl) (bS (m_isA hl hp) (iF ez (bS (mg0 hl) (bS (ml0 hl (j := 0) (by omega)) (iT ?_ rfl))))))
      exact (seg_lo _ (j := 0) (by omega)).symm.trans s2
    | some r =>
    obtain ⟨n, n1, n2, n3, n4, n5⟩ := ws.okE s2
    have ws' : shR (cp h KI KR KA KP) sh (seg (A 0) 0) j := ws.mono cp0k
    have s2' : rR (cp h KI KR KA KP) (some r) (seg (A 0) 0) := s2.mono cp0k
    have ys : zck (cp h KI KR KA KP) 8 (some sh) = some sh := by obtain ⟨b1, b2, b3, n, m, f1, f2, f3, q0, -⟩ := ws'; exact fk q0.2
    have rk : zck (cp h KI KR KA KP) 6 (some r) = some r := by obtain ⟨w, a1, a2, a3, a4, a5, a6, a7, a8, f1, f2, f3, f4, f5, f6, f7, f8, q0, -⟩ := s2'; exact fk q0.2
    have n1' : A 0 (141 + j) = nI n := by rw [← n1, seg_lo _ (by omega)]
    have wF := s2.1
    have wd : wfR (A 0) := wfR.cg (sg125 _) wF
    have d0 : ¬ A 0 0 = 0 := by rw [wd.1]; decide
    have hT : tE (A 0) = tE (seg (A 0) 0) := tE.cg (sg125 _)
    have hT48 := tE_le wF
    have hnT : n ≤ tE (seg (A 0) 0) := by
      rcases n4 with n4 | ⟨-, n4⟩
      · omega
      · exact n4
    have cx : ∀ {v}, (if nI n < nI (tE (seg (A 0) 0)) then some (((-1) : Int32), (cp h KI KR KA KP)) else (zck (cp h KI KR KA KP) 8 (some sh)).bind fun q4 => (f_X8_countOffs N q4 (cp h KI KR KA KP)).bind fun x10 => if x10 < (8 : Int32) then if k = (1 : Int32) then f_X11_off_84 N 0 (nI j) k x y (some yy) (some sh) (cp h KI KR KA KP) else if k = 0 then (f_X11_isOnField N x y (cp h KI KR KA KP)).bind fun x11 => if x11 = 0 then some (((-1) : Int32), (cp h KI KR KA KP)) else f_X11_off_84 N 0 (nI j) k x y (some yy) (some sh) (cp h KI KR KA KP) else some (((-1) : Int32), (cp h KI KR KA KP)) else some (((-1) : Int32), (cp h KI KR KA KP))) = v → f_X11_off N 0 (nI j) k x y (cp h KI KR KA KP) = v := fun hv => bS hq5 (bS (fk s0.c) (bS e2 (iF (by simp) (bS hq5 (bS (fgR s0.c rfl) (iF (by simp) (bS (fgR y0.c rfl) (bS ys (bS (g_cEnds ws' n1 n2) (bS hq5 (bS (fgR s0.c rfl) (bS rk (bS (g_countEnds s2' (by omega)) hv)))))))))))))
    have mx : ∀ {h1 : zH} {v}, 46 ≤ h1.length → (if nI n = nI (tE (A 0)) then (zgR (mp h1 I A) 12 (some 27) 0).bind fun x7 => (zld (mp h1 I A) 0 x7 ((4765 : Int32) + nI j)).bind fun x8 => if x8 = (8 : Int32) then some (((-1) : Int32), (mp h1 I A)) else if k = 0 then f_X12_off_59 N 27 (nI j) k x y (mp h1 I A) else if k = (1 : Int32) then f_X12_off_59 N 27 (nI j) k x y (mp h1 I A) else some (((-1) : Int32), (mp h1 I A)) else some (((-1) : Int32), (mp h1 I A))) = v → f_X12_off N 27 (nI j) k x y (mp h1 I A) = v := fun hl1 hv => bS (mck hl1) (bS (m_isA hl1 hp) (iF ez (bS (mg0 hl1) (bS (ml0 hl1 (j := 0) (by omega)) (iF d0 (bS (mg0 hl1) (bS (ld141 hl1 hj n1') (bS (mck hl1) (bS (m_of1 hl1 (by omega) wd) hv)))))))))
    by_cases hE : n < tE (seg (A 0) 0)
    · exact OPo.same H (r := -1) (cx (iT (nI_lt hE (by omega)) rfl)) (mx hl (iF (by rw [hT]; exact fun z => absurd ((nI_eq (by omega) (by omega)).mp z) (by omega)) rfl))
    have hE' : nI n = nI (tE (A 0)) := by rw [hT, show n = tE (seg (A 0) 0) by omega]
    obtain ⟨m, m1, m2, m3⟩ := g_countOffs (N := N) ws'
    have m1' : A 0 (4765 + j) = nI m := by rw [← m1, seg_lo _ (by omega)]
    have lm : ∀ {h1 : zH}, 46 ≤ h1.length → zld (mp h1 I A) 0 (some 28) ((4765 : Int32) + nI j) = some (nI m) := fun hl1 => by rw [la_l, ml0 hl1 (by omega), m1']
    by_cases h8 : 8 ≤ m
    · exact OPo.same H (r := -1) (cx (iF (nI_nlt (by omega) (by omega)) (bS ys (bS m3 (iF (nI_nlt (b := 8) (by omega) (by omega)) rfl))))) (mx hl (iT hE' (bS (mg0 hl) (bS (lm hl) (iT (by rw [show m = 8 by omega]; rfl) rfl)))))
    replace h8 : m < 8 := by omega
    have g8 : ¬ nI m = 8 := fun z => absurd ((nI_eq (b := 8) (by omega) (by omega)).mp z) (by omega)
    by_cases ok : ¬ okO k x y
    · refine OPo.same H (r := -1) (cx (iF (nI_nlt (by omega) (by omega)) (bS ys (bS m3 (iT (nI_lt (b := 8) h8 (by omega)) (iF (fun z => ok (Or.inl z)) ?_)))))) (mx hl (iT hE' (bS (mg0 hl) (bS (lm hl) (iF g8 (m_off_no ok))))))
      by_cases k0 : k = 0
      · exact iT k0 (bS (c_onF0 (Classical.byContradiction (fun z => ok (Or.inr ⟨k0, z⟩)))) (iT rfl rfl))
      · exact iF k0 rfl
    replace ok : okO k x y := Classical.not_not.mp ok
    obtain ⟨b1, b2, b3, n', m', t1, t2, t3, q0, q1, q2, q3, z1, z2, z3, z4, z5, z6, z7, z8, z9⟩ := ws
    have hnn : n' = n := (nI_eq (by omega) (by omega)).mp (z1.symm.trans n1)
    subst hnn
    have hmm : m' = m := (nI_eq (by omega) (by omega)).mp (z7.symm.trans m1)
    subst hmm
    have g0 : ∀ {ns : List zE} {KI : Nat → Int32} {KR : Nat → Option Nat} {KA : Nat → Nat → Int32} {KP : Nat → Option Nat}, (cp (h ++ ns) KI KR KA KP)[sh]? = some (.inr (8, [zr (some b1), zr (some b2), zr (some b3)])) := n_old (fz_19 q0.1) q0.2
    have g3 : ∀ {ns : List zE} {KI : Nat → Int32} {KR : Nat → Option Nat} {KA : Nat → Nat → Int32} {KP : Nat → Option Nat}, (cp (h ++ ns) KI KR KA KP)[b3]? = some (.inl (0, m', .inl t3)) := n_old (fz_19 q3.1) q3.2
    have gy : ∀ {ns : List zE} {KI : Nat → Int32} {KR : Nat → Option Nat} {KA : Nat → Nat → Int32} {KP : Nat → Option Nat}, (cp (h ++ ns) KI KR KA KP)[yy]? = some (.inr (0, [zi (seg (A 0) 0 (125 + j)), zr (some sh), zr (some sc)])) := n_old (fz_19 y0.1) y0.2
    obtain ⟨cv, mv, hcv, hmv, hsq⟩ : ∃ cv mv : Int32, (∀ X, f_X11_off_84 N 0 (nI j) k x y (some yy) (some sh) X = f_X11_off_102 N 0 (nI j) (some yy) (some sh) cv X) ∧ (if k = 1 then (2147483647 : Int32) else x * x + y * y) = mv ∧ sqR cv mv := by
      rcases id ok with rfl | ⟨rfl, w⟩
      · exact ⟨1000000000, 2147483647, fun X => iF (by decide) rfl, if_pos rfl, Or.inl ⟨rfl, rfl⟩⟩
      · obtain ⟨p1, p2, p3⟩ := sq_nI (fun z => w (Or.inl (Or.inl z))) (fun z => w (Or.inl (Or.inr z)))
        obtain ⟨p4, p5, p6⟩ := sq_nI (fun z => w (Or.inr (Or.inl z))) (fun z => w (Or.inr (Or.inr z)))
        exact ⟨x * x + y * y, x * x + y * y, fun X => iT rfl rfl, if_neg (by decide), Or.inr ⟨rfl, p1 + p4, by rw [p2, p5, nI_add], by omega⟩⟩
    have kk := kept.cp (h := h) (ns := [.inr (9, [zr (some r), zr (some (h.length + 1)), zr (some lq), zr (some nq), zi (seg (A 0) 0 6897)]), .inl (4, 16, .inr (va_up AR j (some (h.length + 4)))), .inr (8, [zr (some b1), zr (some b2), zr (some (h.length + 3))]), .inl (0, m' + 1, .inl (upd (cpy t3 (min m' (m' + 1))) m' cv)), .inr (0, [zi (seg (A 0) 0 (125 + j)), zr (some (h.length + 2)), zr (some sc)])]) (KI := upd KI 0 (nI (kpC c))) (KR := va_up KR 0 (some (h.length + 0))) (KA := KA) (KP := kpP KP c q)
    refine OPo.chg H (r := nI (m' + 1)) (d' := upd (upd (kpD (A 0) c) (4781 + 8 * j + m') mv) (4765 + j) (nI (m' + 1))) (ns := [.inr (9, [zr (some r), zr (some (h.length + 1)), zr (some lq), zr (some nq), zi (seg (A 0) 0 6897)]), .inl (4, 16, .inr (va_up AR j (some (h.length + 4)))), .inr (8, [zr (some b1), zr (some b2), zr (some (h.length + 3))]), .inl (0, m' + 1, .inl (upd (cpy t3 (min m' (m' + 1))) m' cv)), .inr (0, [zi (seg (A 0) 0 (125 + j)), zr (some (h.length + 2)), zr (some sc)])]) ?_ (fun h1' hl1 => ?_) ?_ ?_ (by simp) (by simp [zsl, zsz]; omega)
    · have body : f_X11_off_102 N 0 (nI j) (some yy) (some sh) cv (cp h KI KR KA KP) = some (nI (m' + 1), cp (h ++ [.inr (9, [zr (some r), zr (some (h.length + 1)), zr (some lq), zr (some nq), zi (seg (A 0) 0 6897)]), .inl (4, 16, .inr (va_up AR j (some (h.length + 4)))), .inr (8, [zr (some b1), zr (some b2), zr (some (h.length + 3))]), .inl (0, m' + 1, .inl (upd (cpy t3 (min m' (m' + 1))) m' cv)), .inr (0, [zi (seg (A 0) 0 (125 + j)), zr (some (h.length + 2)), zr (some sc)])]) (upd KI 0 (nI (kpC c))) (va_up KR 0 (some (h.length + 0))) KA (kpP KP c q)) := by
        refine bS (ck0 hl) (zS (c_chg H (by omega) s0 s1) (bS (fk g0) ?_))
        refine zS (show f_X8_withOff N sh cv _ = some _ from nS hl 2 rfl (bS (fgR g0 rfl) (bS (fgR g0 rfl) (bS (fgR g0 rfl) (zS (show f_X8_joined N (some b3) cv _ = some _ from bS (flen g3 (by omega)) (zS (n_cpi hl 3 rfl g3 (la_r _ _) (by omega) (by omega) (by omega)) (bS (flen g3 (by omega)) (bS (n_st hl (i := 3) rfl (by omega) (by omega)) rfl)))) (bS (bS (n_u hl (i := 2) rfl (Nat.le_of_ble_eq_true rfl)) (bS (n_u hl (i := 2) rfl (Nat.le_of_ble_eq_true rfl)) (bS (n_u hl (i := 2) rfl (Nat.le_of_ble_eq_true rfl)) rfl))) rfl)))))) ?_
        refine bS (fk gy) (zS (show f_X0_with N yy (some (h.length + 2)) _ = some _ from nS hl 4 rfl (bS (fgI gy rfl) (bS (fgR gy rfl) (bS (bS (n_u hl (i := 4) rfl (Nat.le_of_ble_eq_true rfl)) (bS (n_u hl (i := 4) rfl (Nat.le_of_ble_eq_true rfl)) (bS (n_u hl (i := 4) rfl (Nat.le_of_ble_eq_true rfl)) rfl))) rfl)))) ?_)
        exact bS (n_k hl (i := 0) rfl) (bS (c_put hl rfl rfl hj (Or.inr ⟨_, n_k hl (i := 4) rfl⟩)) (bS (fk g0) (bS (bS (fgR g0 rfl) (bS (flen g3 (by omega)) rfl)) (by rw [la_r]; rfl))))
      refine cx (iF (nI_nlt (by omega) (by omega)) (bS ys (bS m3 (iT (nI_lt (b := 8) h8 (by omega)) ?_))))
      rcases id ok with h1 | ⟨h1, w⟩
      · exact iT h1 ((hcv _).trans body)
      · exact iF (by rw [h1]; decide) (iT h1 (bS (c_onF1 (fun z => w (Or.inl (Or.inl z))) (fun z => w (Or.inl (Or.inr z))) (fun z => w (Or.inr (Or.inl z))) (fun z => w (Or.inr (Or.inr z)))) (iF ez ((hcv _).trans body))))
    · refine mx hl1 (iT hE' (bS (mg0 hl1) (bS (lm hl1) (iF g8 ?_))))
      have fin := m_off_80 (k := k) (x := x) (y := y) hl1 hN i3 i2 hj m1' h8
      rw [← m_off_59 ok, hmv] at fin
      rcases id ok with h1 | ⟨h1, w⟩
      · exact iF (by rw [h1]; decide) (iT h1 fin)
      · exact iT h1 fin
    · intro i hi
      rw [seg_upi _ (by omega) hi, seg_upi _ (by omega) hi]
    · rw [seg_up0 _ (by omega), seg_up0 _ (by omega), seg_kp0]
      have nu : ∀ p, p ≠ 4765 + j → p ≠ 4781 + 8 * j + m' → upd (upd (seg (A 0) 0) (4781 + 8 * j + m') mv) (4765 + j) (nI (m' + 1)) p = seg (A 0) 0 p := fun p u1 u2 => by rw [up_ne _ _ u1, up_ne _ _ u2]
      have qr : ∀ p, p < 125 → upd (upd (seg (A 0) 0) (4781 + 8 * j + m') mv) (4765 + j) (nI (m' + 1)) p = seg (A 0) 0 p := fun p hp => nu p (by omega) (by omega)
      have em : min m' (m' + 1) = m' := Nat.min_eq_left (by omega)
      refine SR.putA (F := seg (A 0) 0) hl hj s2 s3 s4 s6 rfl rfl (fun p hp => ?_) ?_ ?_
      · unfold ownA at hp
        exact nu p (by omega) (by omega)
      · have cc := nu (125 + j) (by omega) (by omega)
        refine ⟨⟨cl, cc.trans c1, c2⟩, h.length + 2, sc, ⟨fz_new hl 4, by rw [cc]; exact (n_get hl).trans rfl⟩, ?_, (wc.mono kk).cs (fun p hp => nu p (by omega) (by omega))⟩
        refine ⟨b1, b2, h.length + 3, n', m' + 1, t1, t2, upd (cpy t3 (min m' (m' + 1))) m' cv, ⟨fz_new hl 2, (n_get hl).trans rfl⟩, q1.mono kk, by rw [aT.cg qr]; exact q2.mono kk, ⟨fz_new hl 3, (n_get hl).trans rfl⟩, by rw [nu _ (by omega) (by omega)]; exact n1, ⟨by omega, by rw [aT.cg qr]; omega⟩, ?_, ?_, ?_, ?_, up_at _ _ _, by omega, ?_⟩
        · intro hz
          rw [nu _ (by omega) (by omega), wF.1] at hz
          exact absurd hz (by decide)
        · intro _
          rw [tE.cg qr]; omega
        · intro k hk
          rw [aT.cg qr] at hk
          rw [nu _ (by omega) (by omega)]
          exact z5 k hk
        · intro k hk
          rw [aT.cg qr, aT.cg qr]
          exact z6 k hk
        · intro k hk
          by_cases hkm : k = m'
          · subst hkm
            rw [up_at, up_ne _ _ (by omega), up_at]
            exact hsq
          · rw [up_ne _ _ hkm, em, cpy, if_pos (by omega), nu _ (by omega) (by omega)]
            exact z9 k (by omega)
      · refine (s5.mono kk).cg (fun p h5 h6 => nu p (by omega) (by omega)) (fun b hb h5 => ?_)
        rw [nu _ (by omega) (by omega)]; exact h5
