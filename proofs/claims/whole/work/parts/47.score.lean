/-! ===== score, strike ===== -/
section newx
variable {h : zH} {ns : List zE} {KI : Nat → Int32} {KR : Nat → Option Nat} {KA : Nat → Nat → Int32} {KP : Nat → Option Nat} {i j m n t : Nat} {f : Nat → Int32} {x y : Int32}
theorem n_stx (hl : 46 ≤ h.length) (hx : y = nI j) (hi : ns[i]? = some (.inl (t, m, .inl f))) (hj : j < m) (hm : m < 2 ^ 31) : zst (cp (h ++ ns) KI KR KA KP) t (some (h.length + i)) y x = some (cp (h ++ ns.set i (.inl (t, m, .inl (upd f j x)))) KI KR KA KP) := by
  rw [hx, n_st hl hi hj hm]
theorem n_cpi (hl : 46 ≤ h.length) {a N : Nat} (i : Nat) (hi : ns.length = i) (he : (cp (h ++ ns) KI KR KA KP)[a]? = some (.inl (0, n, .inl f))) (hx : x = nI m) (hne : m ≠ n) (hn : n < 2 ^ 31) (hm : m ≤ 16777216) : f_J7_copyOf_59c91 N (some a) x (cp (h ++ ns) KI KR KA KP) = some (some (h.length + i), cp (h ++ (ns ++ [.inl (0, m, .inl (cpy f (min n m)))])) KI KR KA KP) := by
  subst hi
  rw [hx, c_copy he hne hn hm, n_len, n_app hl]
theorem n_q5 (hl : 46 ≤ h.length) {v : Option Nat} : zgR (cp (h ++ ns) KI (va_up KR 0 v) KA KP) 11 (some 0) 5 = some v := by
  rw [cg0_5 (by rw [List.length_append]; omega), vu_at]
end newx
theorem fldx {h : zH} {a n t j : Nat} {f : Nat → Int32} {x : Int32} (hx : x = nI j) (ha : h[a]? = some (.inl (t, n, .inl f))) (hj : j < n) (hn : n < 2 ^ 31) : zld h t (some a) x = some (f j) := by
  rw [hx, fld_ ha hj hn]
section cs
variable {h : zH} {F F' : Nat → Int32} {a sh sc : Nat}
def regS (a j : Nat) : Prop := j < 125 ∨ j = 141 + a ∨ (157 + 288 * a ≤ j ∧ j < 157 + 288 * a + 288) ∨ j = 4765 + a ∨ (4781 + 8 * a ≤ j ∧ j < 4781 + 8 * a + 8)
theorem shR.cs (q : ∀ j, regS a j → F' j = F j) (w : shR h sh F a) : shR h sh F' a := by
  obtain ⟨b1, b2, b3, n, m, s1, s2, s3, q0, q1, q2, q3, z1, z2, z3, z4, z5, z6, z7, z8, z9⟩ := w
  have qr : ∀ j, j < 125 → F' j = F j := fun j hj => q j (Or.inl hj)
  have eT := aT.cg qr
  refine ⟨b1, b2, b3, n, m, s1, s2, s3, q0, q1, by rw [eT]; exact q2, q3, by rw [q _ (by unfold regS; omega)]; exact z1, by rw [eT]; exact z2, by rw [qr _ (by omega)]; exact z3, ?_, ?_, ?_, by rw [q _ (by unfold regS; omega)]; exact z7, z8, fun k hk => by rw [q _ (by unfold regS; omega)]; exact z9 k hk⟩
  · intro h1
    rw [qr _ (by omega)] at h1
    have h2 := z4 h1
    unfold tE at h2 ⊢
    rw [gL.cg qr]
    rw [endsTo.cg qr (by omega)]
    exact h2
  · intro k hk
    rw [eT] at hk
    rw [q _ (by unfold regS; omega)]
    exact z5 k hk
  · intro e he
    rw [eT, eT]
    exact z6 e he
theorem scR.cs (q : ∀ j, (j = 4909 + a ∨ (4925 + 120 * a ≤ j ∧ j < 4925 + 120 * a + 120)) → F' j = F j) (w : scR h sc F a) : scR h sc F' a := by
  obtain ⟨b, n, f, q0, q1, z1, z2, z3⟩ := w
  refine ⟨b, n, f, q0, q1, by rw [q _ (by omega)]; exact z1, z2, fun k hk i hi => ?_⟩
  rw [q _ (by omega)]
  exact z3 k hk i hi
end cs
theorem g_scount {H : zH} {sc b n N : Nat} {f : Nat → Int32} (w0 : H[sc]? = some (.inr (7, [zr (some b)]))) (w1 : H[b]? = some (.inl (0, n * 4, .inl f))) (hn : n ≤ 30) : f_X7_count N sc H = some (nI n) := by
  unfold f_X7_count
  refine bS (fgR w0 rfl) (bS (flen w1 (by omega)) ?_)
  rw [show (4 : Int32) = nI 4 from rfl, pk_div (by omega) (by omega) (by omega), Nat.mul_div_cancel _ (by omega)]
theorem m_isA {h : zH} {I : Nat → Int32} {A : Nat → Nat → Int32} {N j : Nat} {x : Int32} (hl : 46 ≤ h.length) (hp : pA (A 0) x = some j) : f_X12_isArcher N 27 x (mp h I A) = some 1 := by
  rw [m_isArcher hl, hp]; rfl
theorem m_isA0 {h : zH} {I : Nat → Int32} {A : Nat → Nat → Int32} {N : Nat} {x : Int32} (hl : 46 ≤ h.length) (hp : pA (A 0) x = none) : f_X12_isArcher N 27 x (mp h I A) = some 0 := by
  rw [m_isArcher hl, hp]; rfl
theorem m_score1 {h : zH} {I : Nat → Int32} {A : Nat → Nat → Int32} {N c n a : Nat} (hl : 46 ≤ h.length) (hN : 21000 ≤ N) (hc : c ≤ 4) (hI : I 1 = nI c) (hp : pA (A 0) (nI a) = some a) (ha : a < 16) {d s : Int32} (h1 : ¬ d < 0) (h2 : ¬ 36500 < d) (h3 : ¬ s < 0) (h4 : ¬ 2000 < s) (hn : A 0 (4909 + a) = nI n) (hn6 : n < 30) :
    f_X12_score N 27 (nI a) d s (mp h I A) = some (nI n, mp h (upd I 1 (nI (kpC c))) (va_up A 0 (upd (upd (upd (upd (upd (kpD (A 0) c) (4925 + 4 * (30 * a + n)) d) (4925 + 4 * (30 * a + n) + 1) s) (4925 + 4 * (30 * a + n) + 2) (A 0 6897)) (4925 + 4 * (30 * a + n) + 3) (-1)) (4909 + a) (nI (n + 1))))) := by
  unfold f_X12_score f_X12_isDay
  rw [mck hl, Option.bind_some, m_isA hl hp, Option.bind_some, if_neg (by decide), if_neg h1, if_neg h2, Option.bind_some, if_neg (by decide), if_neg h3, if_neg h4]
  simp (disch := omega) only [mg0 hl, ml0 hl, la_l, Option.bind_some, hn]
  rw [if_neg (show ¬ nI n = (30 : Int32) from fun z => absurd ((nI_eq (a := n) (b := 30) (by omega) (by omega)).mp z) (by omega)), m_keeps hl hN hc hI, Option.bind_some]
  simp (disch := omega) only [mg0 hl, ml0 hl, ml0L hl, ms0L hl, ms0 hl, la_l, lm_l, la_r, nI_add, Option.bind_some, bx_uu, vu_at, up_at, up_ne, kp_lo, hn]
  rw [nI_pred]
theorem op_score {h : zH} {N : Nat} (hN : 21000 ≤ N) (H : INX h) (x d s : Int32) : OPo (f_X11_score N 0 x d s) (f_X12_score N 27 x d s) h := by
  obtain ⟨KI, KR, KA, KP, I, A, c, q, H⟩ := H
  obtain ⟨hl, hC, hM, i1, i2, i3, i4, i5, i6, i7, i8, i9⟩ := id H
  obtain ⟨rq, aq, lq, nq, AR, s0, s1, s2, s3, s4, s5, s6⟩ := id i5
  have hq5 : zgR (cp h KI KR KA KP) 11 (some 0) 5 = some (some q) := (cg0_5 hl).trans (congrArg some i4)
  have hf := c_find (N := N) (KI := KI) (KR := KR) (KA := KA) (KP := KP) s0 s1 s3 x
  cases hp : pA (A 0) x with
  | none =>
    refine OPo.same H (r := -1) ?_ ?_
    · unfold f_X11_score
      exact bS hq5 (bS (fk s0.c) (bS (hf.1 (by rw [pA_seg]; exact hp)) (iT rfl rfl)))
    · unfold f_X12_score
      rw [mck hl, Option.bind_some, m_isArcher hl, hp]
      rfl
  | some j =>
    obtain ⟨y, e1, e2⟩ := hf.2 j (by rw [pA_seg]; exact hp)
    obtain ⟨hj, rfl, hcl⟩ := pA_some hp
    have w := s3 j hj
    rw [e1] at w
    obtain ⟨⟨cl, c1, c2⟩, sh, sc, y0, ws, b, n, f, w0, w1, z1, z2, z3⟩ := w
    rw [seg_lo _ (by omega)] at z1
    have mx : f_X12_isArcher N 27 (nI j) (mp h I A) = some 1 := by rw [m_isArcher hl, hp]; rfl
    have ez : (1 : Int32) ≠ 0 := by decide
    have md : ∀ r, f_X12_isDay N d (mp h I A) = some r → f_X11_isDay N d (cp h KI KR KA KP) = some r := fun r hr => hr
    by_cases h1 : d < 0
    · refine OPo.same H (r := -1) ?_ ?_
      · unfold f_X11_score f_X11_isDay
        exact bS hq5 (bS (fk s0.c) (bS e2 (iF (by simp) (bS (iT h1 rfl) (iT rfl rfl)))))
      · unfold f_X12_score f_X12_isDay
        exact bS (mck hl) (bS mx (iF ez (bS (iT h1 rfl) (iT rfl rfl))))
    by_cases h2 : 36500 < d
    · refine OPo.same H (r := -1) ?_ ?_
      · unfold f_X11_score f_X11_isDay
        exact bS hq5 (bS (fk s0.c) (bS e2 (iF (by simp) (bS (iF h1 (iT h2 rfl)) (iT rfl rfl)))))
      · unfold f_X12_score f_X12_isDay
        exact bS (mck hl) (bS mx (iF ez (bS (iF h1 (iT h2 rfl)) (iT rfl rfl))))
    by_cases h3 : s < 0
    · refine OPo.same H (r := -1) ?_ ?_
      · unfold f_X11_score f_X11_isDay f_X11_isScore
        exact bS hq5 (bS (fk s0.c) (bS e2 (iF (by simp) (bS (iF h1 (iF h2 rfl)) (iF ez (bS (iT h3 rfl) (iT rfl rfl)))))))
      · unfold f_X12_score f_X12_isDay
        exact bS (mck hl) (bS mx (iF ez (bS (iF h1 (iF h2 rfl)) (iF ez (iT h3 rfl)))))
    by_cases h4 : 2000 < s
    · refine OPo.same H (r := -1) ?_ ?_
      · unfold f_X11_score f_X11_isDay f_X11_isScore
        exact bS hq5 (bS (fk s0.c) (bS e2 (iF (by simp) (bS (iF h1 (iF h2 rfl)) (iF ez (bS (iF h3 (iT h4 rfl)) (iT rfl rfl)))))))
      · unfold f_X12_score f_X12_isDay
        exact bS (mck hl) (bS mx (iF ez (bS (iF h1 (iF h2 rfl)) (iF ez (iF h3 (iT h4 rfl))))))
    have ct : f_X7_count N sc (cp h KI KR KA KP) = some (nI n) := g_scount w0.c w1.c z2
    by_cases h5 : n < 30
    · have g0 : ∀ {ns : List zE} {KI : Nat → Int32} {KR : Nat → Option Nat} {KA : Nat → Nat → Int32} {KP : Nat → Option Nat}, (cp (h ++ ns) KI KR KA KP)[sc]? = some (.inr (7, [zr (some b)])) := n_old (fz_19 w0.1) w0.2
      have g1 : ∀ {ns : List zE} {KI : Nat → Int32} {KR : Nat → Option Nat} {KA : Nat → Nat → Int32} {KP : Nat → Option Nat}, (cp (h ++ ns) KI KR KA KP)[b]? = some (.inl (0, n * 4, .inl f)) := n_old (fz_19 w1.1) w1.2
      have gy : ∀ {ns : List zE} {KI : Nat → Int32} {KR : Nat → Option Nat} {KA : Nat → Nat → Int32} {KP : Nat → Option Nat}, (cp (h ++ ns) KI KR KA KP)[y]? = some (.inr (0, [zi (seg (A 0) 0 (125 + j)), zr (some sh), zr (some sc)])) := n_old (fz_19 y0.1) y0.2
      have kk := kept.cp (h := h) (ns := [.inr (9, [zr rq, zr (some (h.length + 1)), zr (some lq), zr (some nq), zi (seg (A 0) 0 6897)]), .inl (4, 16, .inr (va_up AR j (some (h.length + 4)))), .inl (0, n * 4 + 4, .inl (upd (upd (upd (upd (cpy f (min (n * 4) (n * 4 + 4))) (n * 4 + 0) d) (n * 4 + 1) s) (n * 4 + 2) (seg (A 0) 0 6897)) (n * 4 + 3) (-1))), .inr (7, [zr (some (h.length + 2))]), .inr (0, [zi (seg (A 0) 0 (125 + j)), zr (some sh), zr (some (h.length + 3))])]) (KI := upd KI 0 (nI (kpC c))) (KR := va_up KR 0 (some (h.length + 0))) (KA := KA) (KP := kpP KP c q)
      refine OPo.chg H (r := nI n) (d' := upd (upd (upd (upd (upd (kpD (A 0) c) (4925 + 4 * (30 * j + n)) d) (4925 + 4 * (30 * j + n) + 1) s) (4925 + 4 * (30 * j + n) + 2) (A 0 6897)) (4925 + 4 * (30 * j + n) + 3) (-1)) (4909 + j) (nI (n + 1))) (ns := [.inr (9, [zr rq, zr (some (h.length + 1)), zr (some lq), zr (some nq), zi (seg (A 0) 0 6897)]), .inl (4, 16, .inr (va_up AR j (some (h.length + 4)))), .inl (0, n * 4 + 4, .inl (upd (upd (upd (upd (cpy f (min (n * 4) (n * 4 + 4))) (n * 4 + 0) d) (n * 4 + 1) s) (n * 4 + 2) (seg (A 0) 0 6897)) (n * 4 + 3) (-1))), .inr (7, [zr (some (h.length + 2))]), .inr (0, [zi (seg (A 0) 0 (125 + j)), zr (some sh), zr (some (h.length + 3))])]) ?_ (fun h1' hl1 => m_score1 hl1 hN i3 i2 hp hj h1 h2 h3 h4 z1 h5) ?_ ?_ (by simp) (by simp [zsl, zsz]; omega)
      · unfold f_X11_score f_X11_isDay f_X11_isScore
        refine bS hq5 (bS (fk s0.c) (bS e2 (iF (by simp) (bS (iF h1 (iF h2 rfl)) (iF ez (bS (iF h3 (iF h4 rfl)) (iF ez (bS (fgR y0.c rfl) (bS (fk w0.c) (bS ct (iT (nI_lt (b := 30) h5 (by omega)) (bS (ck0 hl) (zS (c_chg H (by omega) s0 s1) ?_)))))))))))))
        refine bS (fgR gy rfl) (bS (n_q5 hl) (bS (n_I hl (i := 0) rfl rfl) (bS (fk g0) ?_)))
        refine zS (show f_X7_with N sc d s (seg (A 0) 0 6897) _ = some _ from bS (fgR g0 rfl) (bS (fgR g0 rfl) (bS (flen g1 (by omega)) (zS (n_cpi hl 2 rfl g1 (la_r _ _) (by omega) (by omega) (by omega)) (bS (fgR g0 rfl) (bS (flen g1 (by omega)) (bS (n_stx hl (i := 2) (la_r _ _) rfl (by omega) (by omega)) (bS (fgR g0 rfl) (bS (flen g1 (by omega)) (bS (n_stx hl (i := 2) (la_r _ _) rfl (by omega) (by omega)) (bS (fgR g0 rfl) (bS (flen g1 (by omega)) (bS (n_stx hl (i := 2) (la_r _ _) rfl (by omega) (by omega)) (bS (fgR g0 rfl) (bS (flen g1 (by omega)) (bS (n_stx hl (i := 2) (la_r _ _) rfl (by omega) (by omega)) (nS hl 3 rfl (bS (bS (n_u hl (i := 3) rfl (Nat.le_of_ble_eq_true rfl)) rfl) rfl)))))))))))))))))) ?_
        refine bS (fk gy) (zS (show f_X0_with_ N y (some (h.length + 3)) _ = some _ from nS hl 4 rfl (bS (fgI gy rfl) (bS (fgR gy rfl) (bS (bS (n_u hl (i := 4) rfl (Nat.le_of_ble_eq_true rfl)) (bS (n_u hl (i := 4) rfl (Nat.le_of_ble_eq_true rfl)) (bS (n_u hl (i := 4) rfl (Nat.le_of_ble_eq_true rfl)) rfl))) rfl)))) ?_)
        refine bS (n_k hl (i := 0) rfl) (bS (c_put hl rfl rfl hj (Or.inr ⟨_, n_k hl (i := 4) rfl⟩)) (bS (fgR gy rfl) (bS (fk g0) (bS (g_scount g0 g1 z2) rfl))))
      · intro i hi
        rw [seg_upi _ (by omega) hi, seg_upi _ (by omega) hi, seg_upi _ (by omega) hi, seg_upi _ (by omega) hi, seg_upi _ (by omega) hi]
      · rw [seg_up0 _ (by omega), seg_up0 _ (by omega), seg_up0 _ (by omega), seg_up0 _ (by omega), seg_up0 _ (by omega), seg_kp0]
        have nu : ∀ k, k ≠ 4909 + j → (k < 4925 + 4 * (30 * j + n) ∨ 4925 + 4 * (30 * j + n) + 4 ≤ k) → upd (upd (upd (upd (upd (seg (A 0) 0) (4925 + 4 * (30 * j + n)) d) (4925 + 4 * (30 * j + n) + 1) s) (4925 + 4 * (30 * j + n) + 2) (A 0 6897)) (4925 + 4 * (30 * j + n) + 3) (-1)) (4909 + j) (nI (n + 1)) k = seg (A 0) 0 k := by
          intro k q1 q2
          rw [up_ne _ _ q1, up_ne _ _ (by omega), up_ne _ _ (by omega), up_ne _ _ (by omega), up_ne _ _ (by omega)]
        refine SR.putA (F := seg (A 0) 0) hl hj s2 s3 s4 s6 rfl rfl (fun k hk => ?_) ?_ ?_
        · unfold ownA at hk
          exact nu k (by omega) (by omega)
        · have cc := nu (125 + j) (by omega) (by omega)
          refine ⟨⟨cl, cc.trans c1, c2⟩, sh, h.length + 3, ⟨fz_new hl 4, by rw [cc]; exact (n_get hl).trans rfl⟩, (ws.mono kk).cs (fun k hk => ?_), h.length + 2, n + 1, upd (upd (upd (upd (cpy f (min (n * 4) (n * 4 + 4))) (n * 4 + 0) d) (n * 4 + 1) s) (n * 4 + 2) (seg (A 0) 0 6897)) (n * 4 + 3) (-1), ⟨fz_new hl 3, (n_get hl).trans rfl⟩, ⟨fz_new hl 2, ?_⟩, up_at _ _ _, by omega, fun k hk i hi => ?_⟩
          · unfold regS at hk
            exact nu k (by omega) (by omega)
          · rw [n_get hl, Nat.add_mul]; rfl
          · by_cases hk2 : k < n
            · rw [nu _ (by omega) (by omega), up_ne _ _ (by omega), up_ne _ _ (by omega), up_ne _ _ (by omega), up_ne _ _ (by omega), cpy, if_pos (by omega)]
              exact z3 k hk2 i hi
            · have hkn : k = n := by omega
              subst hkn
              rcases (show i = 0 ∨ i = 1 ∨ i = 2 ∨ i = 3 by omega) with rfl | rfl | rfl | rfl
              · rw [up_ne _ _ (by omega), up_ne _ _ (by omega), up_ne _ _ (by omega), up_at, up_ne _ _ (by omega), up_ne _ _ (by omega), up_ne _ _ (by omega), up_ne _ _ (by omega), Nat.add_zero, up_at]
              · rw [up_ne _ _ (by omega), up_ne _ _ (by omega), up_at, up_ne _ _ (by omega), up_ne _ _ (by omega), up_ne _ _ (by omega), up_at]
              · rw [up_ne _ _ (by omega), up_at, up_ne _ _ (by omega), up_ne _ _ (by omega), up_at, seg_lo _ (by omega)]
              · rw [up_at, up_ne _ _ (by omega), up_at]
        · refine (s5.mono kk).cg (fun k h5 h6 => nu k (by omega) (by omega)) (fun b hb h5 => ?_)
          rw [nu _ (by omega) (by omega)]; exact h5
    · have hn30 : n = 30 := by omega
      refine OPo.same H (r := -1) ?_ ?_
      · unfold f_X11_score f_X11_isDay f_X11_isScore
        exact bS hq5 (bS (fk s0.c) (bS e2 (iF (by simp) (bS (iF h1 (iF h2 rfl)) (iF ez (bS (iF h3 (iF h4 rfl)) (iF ez (bS (fgR y0.c rfl) (bS (fk w0.c) (bS ct (iF (nI_nlt (b := 30) (by omega) (by omega)) rfl)))))))))))
      · unfold f_X12_score f_X12_isDay
        refine bS (mck hl) (bS mx (iF ez (bS (iF h1 (iF h2 rfl)) (iF ez (iF h3 (iF h4 (bS (mg0 hl) ?_)))))))
        rw [la_l, ml0 hl (by omega), Option.bind_some, z1, hn30]
        exact iT rfl rfl
