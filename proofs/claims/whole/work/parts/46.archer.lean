/-! ===== archer ===== -/
/-- the first of n numbers that has P, or n -/
theorem exFst (P : Nat → Prop) : ∀ n : Nat, ∃ a, a ≤ n ∧ (∀ b, b < a → ¬ P b) ∧ (a < n → P a)
  | 0 => ⟨0, by omega, fun b hb => by omega, fun h => by omega⟩
  | n + 1 => by
    obtain ⟨a, h1, h2, h3⟩ := exFst P n
    by_cases ha : a < n
    · exact ⟨a, by omega, h2, fun _ => h3 ha⟩
    · by_cases hp : P n
      · exact ⟨n, by omega, fun b hb => h2 b (by omega), fun _ => hp⟩
      · exact ⟨n + 1, by omega, fun b hb => by
          by_cases hb2 : b = n
          · rw [hb2]; exact hp
          · exact h2 b (by omega), fun h => by omega⟩
theorem arR.nn {h : zH} {o : Option Nat} {F : Nat → Int32} {a : Nat} (w : arR h o F a) : o = none ↔ F (125 + a) = -1 := by
  cases o with
  | none => exact ⟨fun _ => w, fun _ => rfl⟩
  | some x =>
    obtain ⟨⟨cl, e1, e2⟩, -⟩ := w
    constructor
    · intro q; cases q
    · intro q; rw [e1] at q; exact absurd q (nI_nm (by omega))
section arch
variable {h : zH} {KI : Nat → Int32} {KR : Nat → Option Nat} {KA : Nat → Nat → Int32} {KP : Nat → Option Nat} {I : Nat → Int32} {A : Nat → Nat → Int32}
theorem g_free {H : zH} {q aq a N : Nat} {x0 x2 x3 x4 : zV} {AR : Nat → Option Nat} (s0 : H[q]? = some (.inr (9, [x0, zr (some aq), x2, x3, x4]))) (s1 : H[aq]? = some (.inl (4, 16, .inr AR))) (ha : a ≤ 16) (h1 : ∀ b, b < a → AR b ≠ none) (h2 : a < 16 → AR a = none) : ∀ (m b fuel : Nat), a - b = m → b ≤ a → m < fuel →
    f_X9_freeNumber_2 N fuel q (nI b) H = some (if a < 16 then nI a else -1) := by
  intro m
  induction m with
  | zero =>
    intro b fuel q1 q2 q3
    obtain ⟨fuel, rfl⟩ : ∃ n', fuel = n' + 1 := ⟨fuel - 1, by omega⟩
    have hb : b = a := by omega
    subst hb
    rw [f_X9_freeNumber_2]
    by_cases hb : b < 16
    · rw [if_pos hb]
      exact bS (fgR s0 rfl) (bS (flen s1 (by omega)) (iF (nI_ge hb (by omega)) (bS (fgR s0 rfl) (bS (fldR s1 hb (by omega)) (iT (h2 hb) rfl)))))
    · rw [if_neg hb]
      exact bS (fgR s0 rfl) (bS (flen s1 (by omega)) (iT (nI_le (by omega) (by omega)) rfl))
  | succ m ih =>
    intro b fuel q1 q2 q3
    obtain ⟨fuel, rfl⟩ : ∃ n', fuel = n' + 1 := ⟨fuel - 1, by omega⟩
    rw [f_X9_freeNumber_2, ← ih (b + 1) fuel (by omega) (by omega) (by omega)]
    exact bS (fgR s0 rfl) (bS (flen s1 (by omega)) (iF (nI_ge (by omega) (by omega)) (bS (fgR s0 rfl) (bS (fldR s1 (by omega) (by omega)) (iF (h1 b (by omega)) (by rw [nI_1]))))))
theorem m_archer_2 {N a : Nat} {x : Int32} (hl : 46 ≤ h.length) (ha : a ≤ 16) (h1 : ∀ b, b < a → A 0 (125 + b) ≠ -1) (h2 : a < 16 → A 0 (125 + a) = -1) : ∀ (m b fuel : Nat), a - b = m → b ≤ a → m < fuel →
    f_X12_archer_2 N fuel 27 x (nI b) (mp h I A) = f_X12_archer_27 N 27 x (nI a) (mp h I A) := by
  intro m
  induction m with
  | zero =>
    intro b fuel q1 q2 q3
    obtain ⟨fuel, rfl⟩ : ∃ n', fuel = n' + 1 := ⟨fuel - 1, by omega⟩
    have hb : b = a := by omega
    subst hb
    rw [f_X12_archer_2]
    by_cases hb : b < 16
    · refine iF (nI_ge (b := 16) hb (by omega)) (bS (mg0 hl) ?_)
      rw [la_l, ml0 hl (by omega), Option.bind_some, if_pos (h2 hb)]
    · exact iT (nI_le (a := 16) (by omega) (by omega)) rfl
  | succ m ih =>
    intro b fuel q1 q2 q3
    obtain ⟨fuel, rfl⟩ : ∃ n', fuel = n' + 1 := ⟨fuel - 1, by omega⟩
    rw [f_X12_archer_2, ← ih (b + 1) fuel (by omega) (by omega) (by omega)]
    refine iF (nI_ge (b := 16) (by omega) (by omega)) (bS (mg0 hl) ?_)
    rw [la_l, ml0 hl (by omega), Option.bind_some, if_neg (h1 b (by omega)), nI_1]
theorem m_archer1 {N a c : Nat} {x : Int32} (hl : 46 ≤ h.length) (hN : 21000 ≤ N) (hc : c ≤ 4) (hI : I 1 = nI c) (ha : a < 16) (h1 : ¬ x < 0) (h2 : ¬ 7 < x) : f_X12_archer_27 N 27 x (nI a) (mp h I A) = some (nI a, mp h (upd I 1 (nI (kpC c))) (va_up A 0 (upd (upd (upd (upd (upd (kpD (A 0) c) (125 + a) x) (141 + a) 0) (4765 + a) 0) (4909 + a) 0) (6881 + a) (-1)))) := by
  unfold f_X12_archer_27
  rw [if_neg h1, if_neg h2, if_neg (show ¬ nI a = (16 : Int32) from fun z => absurd ((nI_eq (a := a) (b := 16) (by omega) (by omega)).mp z) (by omega)), mck hl, Option.bind_some, m_keeps hl hN hc hI, Option.bind_some]
  simp (disch := omega) only [mg0 hl, ms0 hl, la_l, Option.bind_some, bx_uu, vu_at]
end arch
theorem op_archer {h : zH} {N : Nat} (hN : 21000 ≤ N) (H : INX h) (x : Int32) : OPo (f_X11_archer N 0 x) (f_X12_archer N 27 x) h := by
  obtain ⟨KI, KR, KA, KP, I, A, c, q, H⟩ := H
  obtain ⟨hl, hC, hM, i1, i2, i3, i4, i5, i6, i7, i8, i9⟩ := id H
  obtain ⟨rq, aq, lq, nq, AR, s0, s1, s2, s3, s4, s5, s6⟩ := id i5
  have hq5 : zgR (cp h KI KR KA KP) 11 (some 0) 5 = some (some q) := (cg0_5 hl).trans (congrArg some i4)
  obtain ⟨a, ha, a1, a2⟩ := exFst (fun b => A 0 (125 + b) = -1) 16
  have hn : ∀ b, b < 16 → (AR b = none ↔ A 0 (125 + b) = -1) := fun b hb => by
    rw [(s3 b hb).nn, seg_lo _ (by omega)]
  have g1 : (cp h KI KR KA KP)[aq]? = some (.inl (4, 16, .inr AR)) := (cp_hi (fz_19 s1.1)).trans s1.2
  have fn : f_X9_freeNumber N q (cp h KI KR KA KP) = some (if a < 16 then nI a else -1) := g_free s0.c g1 ha (fun b hb q => a1 b hb ((hn b (by omega)).mp q)) (fun h => (hn a h).mpr (a2 h)) a 0 N (by omega) (by omega) (by omega)
  have fm : ∀ h1 : zH, 46 ≤ h1.length → f_X12_archer N 27 x (mp h1 I A) = f_X12_archer_27 N 27 x (nI a) (mp h1 I A) := fun h1 hl1 => m_archer_2 hl1 ha a1 a2 a 0 N (by omega) (by omega) (by omega)
  by_cases h1 : x < 0
  · refine OPo.same H (r := -1) ?_ ?_
    · unfold f_X11_archer
      exact bS hq5 (bS (fk s0.c) (bS fn (iT h1 rfl)))
    · rw [fm h hl]; unfold f_X12_archer_27; exact iT h1 rfl
  have e78 : (8 : Int32) ≤ x ↔ 7 < x := by
    rw [Int32.le_iff_toInt_le, Int32.lt_iff_toInt_lt, show (8 : Int32).toInt = 8 from rfl, show (7 : Int32).toInt = 7 from rfl]
    omega
  by_cases h2 : 7 < x
  · refine OPo.same H (r := -1) ?_ ?_
    · unfold f_X11_archer
      exact bS hq5 (bS (fk s0.c) (bS fn (iF h1 (iT (e78.mpr h2) rfl))))
    · rw [fm h hl]; unfold f_X12_archer_27; exact iF h1 (iT h2 rfl)
  by_cases h3 : a < 16
  · obtain ⟨cl, k1, k2⟩ := nI_of2 (M := 7) (n := 7) rfl h1 (Int32.not_lt.mp h2)
    rw [if_pos h3] at fn
    have hF0 : seg (A 0) 0 (125 + a) = -1 := by rw [seg_lo _ (by omega)]; exact a2 h3
    have nu : ∀ k, k ≠ 125 + a → k ≠ 141 + a → k ≠ 4765 + a → k ≠ 4909 + a → k ≠ 6881 + a → upd (upd (upd (upd (upd (seg (A 0) 0) (125 + a) x) (141 + a) 0) (4765 + a) 0) (4909 + a) 0) (6881 + a) (-1) k = seg (A 0) 0 k := by
      intro k q1 q2 q3 q4 q5
      rw [up_ne _ _ q5, up_ne _ _ q4, up_ne _ _ q3, up_ne _ _ q2, up_ne _ _ q1]
    have kk := kept.cp (h := h) (ns := [.inr (9, [zr rq, zr (some (h.length + 1)), zr (some lq), zr (some nq), zi (seg (A 0) 0 6897)]), .inl (4, 16, .inr (va_up AR a (some (h.length + 2)))), .inr (0, [zi x, zr (some (h.length + 3)), zr (some (h.length + 7))]), .inr (8, [zr (some (h.length + 4)), zr (some (h.length + 5)), zr (some (h.length + 6))]), .inl (0, 0, .inl fun _ => 0), .inl (0, 0, .inl fun _ => 0), .inl (0, 0, .inl fun _ => 0), .inr (7, [zr (some (h.length + 8))]), .inl (0, 0, .inl fun _ => 0)]) (KI := upd KI 0 (nI (kpC c))) (KR := va_up KR 0 (some (h.length + 0))) (KA := KA) (KP := kpP KP c q)
    refine OPo.chg H (r := nI a) (d' := upd (upd (upd (upd (upd (kpD (A 0) c) (125 + a) x) (141 + a) 0) (4765 + a) 0) (4909 + a) 0) (6881 + a) (-1)) (ns := [.inr (9, [zr rq, zr (some (h.length + 1)), zr (some lq), zr (some nq), zi (seg (A 0) 0 6897)]), .inl (4, 16, .inr (va_up AR a (some (h.length + 2)))), .inr (0, [zi x, zr (some (h.length + 3)), zr (some (h.length + 7))]), .inr (8, [zr (some (h.length + 4)), zr (some (h.length + 5)), zr (some (h.length + 6))]), .inl (0, 0, .inl fun _ => 0), .inl (0, 0, .inl fun _ => 0), .inl (0, 0, .inl fun _ => 0), .inr (7, [zr (some (h.length + 8))]), .inl (0, 0, .inl fun _ => 0)]) ?_ (fun h1' hl1 => (fm h1' hl1).trans (m_archer1 hl1 hN i3 i2 h3 h1 h2)) ?_ ?_ (by simp) (by simp [zsl, zsz])
    · unfold f_X11_archer
      refine bS hq5 (bS (fk s0.c) (bS fn (iF h1 (iF (fun q => h2 (e78.mp q)) (iF (nI_nm (by omega)) (bS (ck0 hl) (zS (c_chg H (by omega) s0 s1) (nS hl 2 rfl (nS hl 3 rfl ?_)))))))))
      refine bS (show f_X8_init N (h.length + 3) _ = some _ from n_na hl (k := 0) (by omega) 4 rfl (n_na hl (k := 0) (by omega) 5 rfl (n_na hl (k := 0) (by omega) 6 rfl (bS (bS (n_u hl (i := 3) rfl (Nat.le_of_ble_eq_true rfl)) (bS (n_u hl (i := 3) rfl (Nat.le_of_ble_eq_true rfl)) (bS (n_u hl (i := 3) rfl (Nat.le_of_ble_eq_true rfl)) rfl))) rfl)))) ?_
      refine nS hl 7 rfl (bS (show f_X7_init N (h.length + 7) _ = some _ from n_na hl (k := 0) (by omega) 8 rfl (bS (bS (n_u hl (i := 7) rfl (Nat.le_of_ble_eq_true rfl)) rfl) rfl)) ?_)
      refine bS (show f_X0_init N (h.length + 2) x (some (h.length + 3)) (some (h.length + 7)) _ = some _ from bS (n_u hl (i := 2) rfl (Nat.le_of_ble_eq_true rfl)) (bS (n_u hl (i := 2) rfl (Nat.le_of_ble_eq_true rfl)) (bS (n_u hl (i := 2) rfl (Nat.le_of_ble_eq_true rfl)) rfl))) ?_
      exact bS (n_k hl (i := 0) rfl) (bS (c_put hl rfl rfl h3 (Or.inr ⟨_, n_k hl (i := 2) rfl⟩)) rfl)
    · intro i hi
      rw [seg_upi _ (by omega) hi, seg_upi _ (by omega) hi, seg_upi _ (by omega) hi, seg_upi _ (by omega) hi, seg_upi _ (by omega) hi]
    · rw [seg_up0 _ (by omega), seg_up0 _ (by omega), seg_up0 _ (by omega), seg_up0 _ (by omega), seg_up0 _ (by omega), seg_kp0]
      refine SR.putA (F := seg (A 0) 0) hl h3 s2 s3 s4 s6 rfl rfl (fun k hk => ?_) ?_ ?_
      · unfold ownA at hk
        exact nu k (by omega) (by omega) (by omega) (by omega) (by omega)
      · have c1 : upd (upd (upd (upd (upd (seg (A 0) 0) (125 + a) x) (141 + a) 0) (4765 + a) 0) (4909 + a) 0) (6881 + a) (-1) (125 + a) = x := by
          rw [up_ne _ _ (by omega), up_ne _ _ (by omega), up_ne _ _ (by omega), up_ne _ _ (by omega), up_at]
        refine ⟨⟨cl, c1.trans k2, k1⟩, h.length + 3, h.length + 7, ⟨fz_new hl 2, by rw [c1]; exact (n_get hl).trans rfl⟩, ?_, ?_⟩
        · refine ⟨h.length + 4, h.length + 5, h.length + 6, 0, 0, fun _ => 0, fun _ => 0, fun _ => 0, ⟨fz_new hl 3, (n_get hl).trans rfl⟩, ⟨fz_new hl 4, (n_get hl).trans rfl⟩, ⟨fz_new hl 5, (n_get hl).trans rfl⟩, ⟨fz_new hl 6, (n_get hl).trans rfl⟩, ?_, ⟨by omega, by show 0 ≤ 288; omega⟩, fun _ => ⟨rfl, rfl⟩, fun _ => by omega, fun k hk => absurd hk (Nat.not_lt_zero k), fun e he => absurd he (Nat.not_lt_zero e), ?_, by omega, fun k hk => absurd hk (Nat.not_lt_zero k)⟩
          · rw [up_ne _ _ (by omega), up_ne _ _ (by omega), up_ne _ _ (by omega), up_at]; rfl
          · rw [up_ne _ _ (by omega), up_ne _ _ (by omega), up_at]; rfl
        · refine ⟨h.length + 8, 0, fun _ => 0, ⟨fz_new hl 7, (n_get hl).trans rfl⟩, ⟨fz_new hl 8, (n_get hl).trans rfl⟩, ?_, by omega, fun k hk => absurd hk (Nat.not_lt_zero k)⟩
          rw [up_ne _ _ (by omega), up_at]; rfl
      · have hpl : seg (A 0) 0 (6881 + a) = -1 := by
          obtain ⟨b1, b2, b3, n, f1, f2, f3, w0, w1, w2, w3, z1, z2, z3, z4, z5, z6⟩ := id s5
          rcases z5 a h3 with q | ⟨p, q1, q2⟩
          · exact q
          · have q3 := (z6 a h3 p q1).mpr q2
            rcases z4 p q1 with q4 | ⟨a', q4, q5, q6⟩
            · rw [q3] at q4; exact absurd q4 (nI_nm (by omega))
            · have : a' = a := (nI_eq (by omega) (by omega)).mp (q5.symm.trans q3)
              rw [this] at q6
              exact absurd hF0 q6
        refine (s5.mono kk).cg (fun j h5 h6 => ?_) (fun b hb h5 => ?_)
        · by_cases hj : j = 6881 + a
          · rw [hj, up_at, hpl]
          · exact nu j (by omega) (by omega) (by omega) (by omega) hj
        · by_cases hba : b = a
          · rw [hba] at h5; exact absurd hF0 h5
          · rw [nu _ (by omega) (by omega) (by omega) (by omega) (by omega)]; exact h5
  · have h16 : a = 16 := by omega
    rw [if_neg h3] at fn
    refine OPo.same H (r := -1) ?_ ?_
    · unfold f_X11_archer
      exact bS hq5 (bS (fk s0.c) (bS fn (iF h1 (iF (fun q => h2 (e78.mp q)) (iT rfl rfl)))))
    · rw [fm h hl, h16]; unfold f_X12_archer_27; exact iF h1 (iF h2 (iT rfl rfl))
