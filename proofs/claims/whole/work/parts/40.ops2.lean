/-! ===== rules for calls; today ===== -/
theorem OPo.same {fx fm : zH → Option (Int32 × zH)} {h : zH} {KI : Nat → Int32} {KR : Nat → Option Nat} {KA : Nat → Nat → Int32} {KP : Nat → Option Nat} {I : Nat → Int32} {A : Nat → Nat → Int32} {c q : Nat} (H : IN h KI KR KA KP I A c q) {r : Int32} (hx : fx (cp h KI KR KA KP) = some (r, cp h KI KR KA KP)) (hm : fm (mp h I A) = some (r, mp h I A)) : OPo fx fm h := by
  rw [H.2.1.eq] at hx
  rw [H.2.2.1.eq] at hm
  exact ⟨r, h, h, hx, hm, ⟨KI, KR, KA, KP, I, A, c, q, H⟩, by omega, by omega, H.2.2.1.ck H.1⟩
theorem OPo.chg {fx fm : zH → Option (Int32 × zH)} {h : zH} {KI : Nat → Int32} {KR : Nat → Option Nat} {KA : Nat → Nat → Int32} {KP : Nat → Option Nat} {I : Nat → Int32} {A : Nat → Nat → Int32} {c q : Nat} (H : IN h KI KR KA KP I A c q) {r : Int32} {ns : List zE} {d' : Nat → Int32}
    (hx : fx (cp h KI KR KA KP) = some (r, cp (h ++ ns) (upd KI 0 (nI (kpC c))) (va_up KR 0 (some (h.length + 0))) KA (kpP KP c q)))
    (hm : ∀ h1 : zH, 46 ≤ h1.length → fm (mp h1 I A) = some (r, mp h1 (upd I 1 (nI (kpC c))) (va_up A 0 d')))
    (hd : ∀ i, 1 ≤ i → seg d' i = seg (kpD (A 0) c) i) (hS : SR (cp (h ++ ns) (upd KI 0 (nI (kpC c))) (va_up KR 0 (some (h.length + 0))) KA (kpP KP c q)) (h.length + 0) (seg d' 0)) (hn : ns.length ≤ 100) (hz : zsl ns ≤ 3000) : OPo fx fm h := by
  obtain ⟨hl, hC, hM, i1, i2, i3, i4, i5, i6, i7, i8, i9⟩ := id H
  rw [hC.eq] at hx
  have hM2 : MH (cp (h ++ ns) (upd KI 0 (nI (kpC c))) (va_up KR 0 (some (h.length + 0))) KA (kpP KP c q)) I A := hM.cp
  have x2 := hm (cp (h ++ ns) (upd KI 0 (nI (kpC c))) (va_up KR 0 (some (h.length + 0))) KA (kpP KP c q)) (by rw [n_len]; omega)
  rw [hM2.eq] at x2
  refine ⟨r, _, _, hx, x2, ⟨_, _, _, _, _, _, _, _, H.change (ns := ns) (KA' := KA) (d' := d') (up_at _ _ _) (up_at _ _ _) (vu_at _ _ _) hd hS (i7.cg (up_ne _ _ (by decide)) (up_ne _ _ (by decide)) rfl (vu_ne _ _ (by decide))) ?_ (i9.cg (up_ne _ _ (by decide)) (up_ne _ _ (by decide)) rfl rfl rfl (vu_ne _ _ (by decide)) (vu_ne _ _ (by decide)) (vu_ne _ _ (by decide)))⟩, ?_, ?_, hM2.ck (by rw [n_len]; omega)⟩
  · rw [up_ne _ _ (by decide), up_ne _ _ (by decide), up_ne _ _ (by decide), up_ne _ _ (by decide)]
    exact i8
  · rw [mp_len, n_len]; omega
  · rw [zsl_mp hM2, zsl_cp hC]; omega
theorem fz_new {h : zH} (hl : 46 ≤ h.length) (i : Nat) : fz (h.length + i) := Or.inl (by omega)
theorem m_isDay (N : Nat) (x : Int32) (h : zH) : f_X12_isDay N x h = f_X11_isDay N x h := rfl
theorem m_today {h : zH} {I : Nat → Int32} {A : Nat → Nat → Int32} {N c : Nat} (hl : 46 ≤ h.length) (hN : 21000 ≤ N) (hc : c ≤ 4) (hI : I 1 = nI c) {x : Int32} (h1 : ¬ x < 0) (h2 : ¬ 36500 < x) (h3 : A 0 6897 ≤ x) : f_X12_today N 27 x (mp h I A) = some (1, mp h (upd I 1 (nI (kpC c))) (va_up A 0 (upd (kpD (A 0) c) 6897 x))) := by
  unfold f_X12_today f_X12_isDay
  rw [if_neg h1, if_neg h2, Option.bind_some, if_neg (by decide)]
  simp (disch := omega) only [mg0 hl, ml0L hl, Option.bind_some]
  rw [if_pos h3, mck hl, Option.bind_some, m_keeps hl hN hc hI, Option.bind_some]
  simp (disch := omega) only [mg0 hl, ms0L hl, Option.bind_some, bx_uu, vu_at]
theorem op_today {h : zH} {N : Nat} (hN : 21000 ≤ N) (H : INX h) (x : Int32) : OPo (f_X11_today N 0 x) (f_X12_today N 27 x) h := by
  obtain ⟨KI, KR, KA, KP, I, A, c, q, H⟩ := H
  obtain ⟨hl, hC, hM, i1, i2, i3, i4, i5, i6, i7, i8, i9⟩ := id H
  obtain ⟨rq, aq, lq, nq, AR, s0, s1, s2, s3, s4, s5, t, s6, s7⟩ := id i5
  have hq : 19 ≤ q := i5.st.1
  have haq : 19 ≤ aq := by have := s1.1; unfold fz at this; omega
  have eF : seg (A 0) 0 6897 = A 0 6897 := seg_lo _ (by omega)
  by_cases h1 : x < 0
  · refine OPo.same H (r := 0) ?_ ?_
    · unfold f_X11_today f_X11_isDay; rw [if_pos h1]; rfl
    · unfold f_X12_today f_X12_isDay; rw [if_pos h1]; rfl
  by_cases h2 : 36500 < x
  · refine OPo.same H (r := 0) ?_ ?_
    · unfold f_X11_today f_X11_isDay; rw [if_neg h1, if_pos h2]; rfl
    · unfold f_X12_today f_X12_isDay; rw [if_neg h1, if_pos h2]; rfl
  have g1 : zgI (cp h KI KR KA KP) 9 (some q) 4 = some (A 0 6897) := by rw [fgI ((cp_hi hq).trans s0.2) rfl, eF]
  by_cases h3 : A 0 6897 ≤ x
  · refine OPo.chg H (r := 1) (d' := upd (kpD (A 0) c) 6897 x) (ns := [.inr (9, [zr rq, zr (some (h.length + 1)), zr (some lq), zr (some nq), zi x]), .inl (4, 16, .inr AR)]) ?_ (fun h1' hl1 => m_today hl1 hN i3 i2 h1 h2 h3) (fun i hi => seg_upi _ (by omega) hi x) ?_ (by simp) (by simp [zsl, zsz])
    · unfold f_X11_today f_X11_isDay
      rw [if_neg h1, if_neg h2, Option.bind_some, if_neg (by decide), cg0_5 hl, Option.bind_some, i4, g1, Option.bind_some, if_pos h3, ck0 hl, Option.bind_some]
      rw [c_change hl (by omega) hq haq s0.2 s1.2 i4 i1 i3 (fun i hi => by
        obtain ⟨p, e1, e2⟩ := i6 i hi
        obtain ⟨e3, ps, e4⟩ := e2.st
        exact ⟨p, ps, e1, e3, e4⟩)]
      rw [zb2, Option.bind_some, n_u hl (i := 0) rfl (Nat.le_of_ble_eq_true rfl), Option.bind_some]
      rfl
    · rw [seg_up0 _ (by omega), seg_kp0]
      have kk := kept.cp (h := h) (ns := [.inr (9, [zr rq, zr (some (h.length + 1)), zr (some lq), zr (some nq), zi x]), .inl (4, 16, .inr AR)]) (KI := upd KI 0 (nI (kpC c))) (KR := va_up KR 0 (some (h.length + 0))) (KA := KA) (KP := kpP KP c q)
      refine ⟨rq, h.length + 1, lq, nq, AR, ⟨fz_new hl 0, ?_⟩, ⟨fz_new hl 1, ?_⟩, (s2.mono kk).cg ?_, fun a ha => ((s3 a ha).mono kk).cg ?_, (s4.mono kk).cg ?_, (s5.mono kk).cg ?_ ?_, ?_⟩
      · rw [n_get hl, up_at]; rfl
      · rw [n_get hl]; rfl
      · exact fun j hj => up_ne _ _ (by omega)
      · exact fun j hj => up_ne _ _ (by unfold regA at hj; omega)
      · exact fun j h5 h6 => up_ne _ _ (by omega)
      · exact fun j h5 h6 => up_ne _ _ (by omega)
      · intro a ha h5
        rw [up_ne _ _ (by omega)]
        exact h5
      · rw [up_at]
        obtain ⟨t2, e1, e2⟩ := nI_of2 (M := 36500) (n := 36500) (by decide) h1 (Int32.not_lt.mp h2)
        exact ⟨t2, e2, e1⟩
  · refine OPo.same H (r := 0) ?_ ?_
    · unfold f_X11_today f_X11_isDay
      rw [if_neg h1, if_neg h2, Option.bind_some, if_neg (by decide), cg0_5 hl, Option.bind_some, i4, g1, Option.bind_some, if_neg h3]
    · unfold f_X12_today f_X12_isDay
      rw [if_neg h1, if_neg h2, Option.bind_some, if_neg (by decide)]
      simp (disch := omega) only [mg0 hl, ml0L hl, Option.bind_some]
      rw [if_neg h3]
