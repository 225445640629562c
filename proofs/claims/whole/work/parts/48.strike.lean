/-! ===== strike ===== -/
theorem g_canStrike {H : zH} {sc b n N : Nat} {f : Nat → Int32} (w0 : H[sc]? = some (.inr (7, [zr (some b)]))) (w1 : H[b]? = some (.inl (0, n * 4, .inl f))) (hn : n ≤ 30) (x : Int32) :
    f_X7_canStrike N sc x H = if x < 0 then some 0 else if nI n ≤ x then some 0 else (zld H 0 (some b) (x * 4 + 3)).bind fun x3 => if x3 = -1 then some 1 else some 0 := by
  unfold f_X7_canStrike
  by_cases h1 : x < 0
  · rw [if_pos h1, if_pos h1]
  · rw [if_neg h1, if_neg h1, fk w0, Option.bind_some, g_scount w0 w1 hn, Option.bind_some, fgR w0 rfl, Option.bind_some]
theorem op_strike {h : zH} {N : Nat} (hN : 21000 ≤ N) (H : INX h) (x s : Int32) : OPo (f_X11_strike N 0 x s) (f_X12_strike N 27 x s) h := by
  obtain ⟨KI, KR, KA, KP, I, A, c, q, H⟩ := H
  obtain ⟨hl, hC, hM, i1, i2, i3, i4, i5, i6, i7, i8, i9⟩ := id H
  obtain ⟨rq, aq, lq, nq, AR, s0, s1, s2, s3, s4, s5, s6⟩ := id i5
  have hq5 : zgR (cp h KI KR KA KP) 11 (some 0) 5 = some (some q) := (cg0_5 hl).trans (congrArg some i4)
  have hf := c_find (N := N) (KI := KI) (KR := KR) (KA := KA) (KP := KP) s0 s1 s3 x
  cases hp : pA (A 0) x with
  | none =>
    refine OPo.same H (r := 0) ?_ ?_
    · unfold f_X11_strike
      exact bS hq5 (bS (fk s0.c) (bS (hf.1 (by rw [pA_seg]; exact hp)) (iT rfl rfl)))
    · unfold f_X12_strike
      exact bS (mck hl) (bS (m_isA0 hl hp) (iT rfl rfl))
  | some j =>
    obtain ⟨y, e1, e2⟩ := hf.2 j (by rw [pA_seg]; exact hp)
    obtain ⟨hj, rfl, hcl⟩ := pA_some hp
    have w := s3 j hj
    rw [e1] at w
    obtain ⟨⟨cl, c1, c2⟩, sh, sc, y0, ws, b, n, f, w0, w1, z1, z2, z3⟩ := w
    rw [seg_lo _ (by omega)] at z1
    have ez : (1 : Int32) ≠ 0 := by decide
    have hc := g_canStrike (N := N) (w0.c (KI := KI) (KR := KR) (KA := KA) (KP := KP)) (w1.c (KI := KI) (KR := KR) (KA := KA) (KP := KP)) z2 s
    have cx : ∀ {v : Int32}, f_X7_canStrike N sc s (cp h KI KR KA KP) = some v → v = 0 → f_X11_strike N 0 (nI j) s (cp h KI KR KA KP) = some (0, cp h KI KR KA KP) := by
      intro v hv h0
      unfold f_X11_strike
      exact bS hq5 (bS (fk s0.c) (bS e2 (iF (by simp) (bS (fgR y0.c rfl) (bS (fk w0.c) (bS hv (iT h0 rfl)))))))
    have n4 : zld (mp h I A) 0 (some 28) ((4909 : Int32) + nI j) = some (nI n) := by rw [la_l, ml0 hl (by omega), z1]
    by_cases h1 : s < 0
    · refine OPo.same H (r := 0) (cx (by rw [hc, if_pos h1]) rfl) ?_
      unfold f_X12_strike
      exact bS (mck hl) (bS (m_isA hl hp) (iF ez (iT h1 rfl)))
    by_cases h2 : nI n ≤ s
    · refine OPo.same H (r := 0) (cx (by rw [hc, if_neg h1, if_pos h2]) rfl) ?_
      unfold f_X12_strike
      exact bS (mck hl) (bS (m_isA hl hp) (iF ez (iF h1 (bS (mg0 hl) (bS n4 (iT h2 rfl))))))
    rcases pk_ix s (n := n) (by omega) with h3 | h3 | ⟨k, hk, rfl⟩
    · exact absurd h3 h1
    · exact absurd h3 h2
    have hfk : f (k * 4 + 3) = A 0 (4925 + 4 * (30 * j + k) + 3) := by rw [z3 k hk 3 (by omega), seg_lo _ (by omega)]
    have hlk : zld (cp h KI KR KA KP) 0 (some b) (nI k * 4 + 3) = some (A 0 (4925 + 4 * (30 * j + k) + 3)) := by
      rw [lm_r, la_r, fld_ w1.c (by omega) (by omega), hfk]
    rw [if_neg h1, if_neg h2, hlk, Option.bind_some] at hc
    have m5 : zld (mp h I A) 0 (some 28) (((4925 : Int32) + ((4 : Int32) * (((30 : Int32) * nI j) + nI k))) + (3 : Int32)) = some (A 0 (4925 + 4 * (30 * j + k) + 3)) := by
      rw [lm_l, nI_add, lm_l, la_l, la_r, ml0 hl (by omega)]
    by_cases h4 : A 0 (4925 + 4 * (30 * j + k) + 3) = -1
    · have g0 : ∀ {ns : List zE} {KI : Nat → Int32} {KR : Nat → Option Nat} {KA : Nat → Nat → Int32} {KP : Nat → Option Nat}, (cp (h ++ ns) KI KR KA KP)[sc]? = some (.inr (7, [zr (some b)])) := n_old (fz_19 w0.1) w0.2
      have g1 : ∀ {ns : List zE} {KI : Nat → Int32} {KR : Nat → Option Nat} {KA : Nat → Nat → Int32} {KP : Nat → Option Nat}, (cp (h ++ ns) KI KR KA KP)[b]? = some (.inl (0, n * 4, .inl f)) := n_old (fz_19 w1.1) w1.2
      have gy : ∀ {ns : List zE} {KI : Nat → Int32} {KR : Nat → Option Nat} {KA : Nat → Nat → Int32} {KP : Nat → Option Nat}, (cp (h ++ ns) KI KR KA KP)[y]? = some (.inr (0, [zi (seg (A 0) 0 (125 + j)), zr (some sh), zr (some sc)])) := n_old (fz_19 y0.1) y0.2
      have kk := kept.cp (h := h) (ns := [.inr (9, [zr rq, zr (some (h.length + 1)), zr (some lq), zr (some nq), zi (seg (A 0) 0 6897)]), .inl (4, 16, .inr (va_up AR j (some (h.length + 4)))), .inl (0, n * 4, .inl (upd f (k * 4 + 3) (seg (A 0) 0 6897))), .inr (7, [zr (some (h.length + 2))]), .inr (0, [zi (seg (A 0) 0 (125 + j)), zr (some sh), zr (some (h.length + 3))])]) (KI := upd KI 0 (nI (kpC c))) (KR := va_up KR 0 (some (h.length + 0))) (KA := KA) (KP := kpP KP c q)
      refine OPo.chg H (r := 1) (d' := upd (kpD (A 0) c) (4925 + 4 * (30 * j + k) + 3) (A 0 6897)) (ns := [.inr (9, [zr rq, zr (some (h.length + 1)), zr (some lq), zr (some nq), zi (seg (A 0) 0 6897)]), .inl (4, 16, .inr (va_up AR j (some (h.length + 4)))), .inl (0, n * 4, .inl (upd f (k * 4 + 3) (seg (A 0) 0 6897))), .inr (7, [zr (some (h.length + 2))]), .inr (0, [zi (seg (A 0) 0 (125 + j)), zr (some sh), zr (some (h.length + 3))])]) ?_ (fun h1' hl1 => ?_) ?_ ?_ (by simp) (by simp [zsl, zsz]; omega)
      · unfold f_X11_strike
        refine bS hq5 (bS (fk s0.c) (bS e2 (iF (by simp) (bS (fgR y0.c rfl) (bS (fk w0.c) (bS (hc.trans (if_pos h4)) (iF ez (bS (ck0 hl) (zS (c_chg H (by omega) s0 s1) ?_)))))))))
        refine bS (fgR gy rfl) (bS (n_q5 hl) (bS (n_I hl (i := 0) rfl rfl) (bS (fk g0) ?_)))
        refine zS (show f_X7_withStruck N sc (nI k) (seg (A 0) 0 6897) _ = some _ from bS (fgR g0 rfl) (n_cl hl g1 2 rfl (iF h1 (bS (fk g0) (bS (g_scount g0 g1 z2) (iF h2 (bS (n_stx hl (i := 2) (j := k * 4 + 3) (by rw [lm_r, la_r]) rfl (by omega) (by omega)) (nS hl 3 rfl (bS (bS (n_u hl (i := 3) rfl (Nat.le_of_ble_eq_true rfl)) rfl) rfl)))))))) ) ?_
        refine bS (fk gy) (zS (show f_X0_with_ N y (some (h.length + 3)) _ = some _ from nS hl 4 rfl (bS (fgI gy rfl) (bS (fgR gy rfl) (bS (bS (n_u hl (i := 4) rfl (Nat.le_of_ble_eq_true rfl)) (bS (n_u hl (i := 4) rfl (Nat.le_of_ble_eq_true rfl)) (bS (n_u hl (i := 4) rfl (Nat.le_of_ble_eq_true rfl)) rfl))) rfl)))) ?_)
        exact bS (n_k hl (i := 0) rfl) (bS (c_put hl rfl rfl hj (Or.inr ⟨_, n_k hl (i := 4) rfl⟩)) rfl)
      · unfold f_X12_strike
        rw [mck hl1, Option.bind_some, m_isA hl1 hp, Option.bind_some, if_neg ez, if_neg h1]
        simp (disch := omega) only [mg0 hl1, ml0 hl1, la_l, lm_l, la_r, nI_add, Option.bind_some, z1]
        rw [if_neg h2, if_pos h4, m_keeps hl1 hN i3 i2, Option.bind_some]
        simp (disch := omega) only [mg0 hl1, ml0 hl1, ml0L hl1, ms0L hl1, ms0 hl1, la_l, lm_l, la_r, nI_add, Option.bind_some, bx_uu, vu_at, up_at, up_ne, kp_lo]
      · intro i hi
        rw [seg_upi _ (by omega) hi]
      · rw [seg_up0 _ (by omega), seg_kp0]
        have nu : ∀ p, p ≠ 4925 + 4 * (30 * j + k) + 3 → upd (seg (A 0) 0) (4925 + 4 * (30 * j + k) + 3) (A 0 6897) p = seg (A 0) 0 p := fun p hp => up_ne _ _ hp
        refine SR.putA (F := seg (A 0) 0) hl hj s2 s3 s4 s6 rfl rfl (fun p hp => ?_) ?_ ?_
        · unfold ownA at hp
          exact nu p (by omega)
        · have cc := nu (125 + j) (by omega)
          refine ⟨⟨cl, cc.trans c1, c2⟩, sh, h.length + 3, ⟨fz_new hl 4, by rw [cc]; exact (n_get hl).trans rfl⟩, (ws.mono kk).cs (fun p hp => ?_), h.length + 2, n, upd f (k * 4 + 3) (seg (A 0) 0 6897), ⟨fz_new hl 3, (n_get hl).trans rfl⟩, ⟨fz_new hl 2, (n_get hl).trans rfl⟩, ?_, z2, fun p hp i hi => ?_⟩
          · unfold regS at hp
            exact nu p (by omega)
          · rw [nu _ (by omega), seg_lo _ (by omega)]; exact z1
          · by_cases hpk : p = k ∧ i = 3
            · obtain ⟨rfl, rfl⟩ := hpk
              rw [up_at, up_at, seg_lo _ (by omega)]
            · rw [up_ne _ _ (by omega), nu _ (by omega)]
              exact z3 p hp i hi
        · refine (s5.mono kk).cg (fun p h5 h6 => nu p (by omega)) (fun b hb h5 => ?_)
          rw [nu _ (by omega)]; exact h5
    · refine OPo.same H (r := 0) (cx (hc.trans (if_neg h4)) rfl) ?_
      unfold f_X12_strike
      exact bS (mck hl) (bS (m_isA hl hp) (iF ez (iF h1 (bS (mg0 hl) (bS n4 (iF h2 (bS (mg0 hl) (bS m5 (iF h4 rfl)))))))))
