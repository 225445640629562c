/-! ===== arrow ===== -/
theorem fz_far {N : Nat} {x : Int32} {H : zH} (h1 : ¬ x < -20000) (h2 : ¬ 20000 < x) : f_X12_isFar N x H = some 0 := iF h1 (iT (Int32.not_lt.mp h2) rfl)
theorem m_far1 {N : Nat} {x : Int32} {H : zH} (h : x < -20000 ∨ 20000 < x) : f_X12_isFar N x H = some 1 := by
  unfold f_X12_isFar
  by_cases h1 : x < -20000
  · exact iT h1 rfl
  · exact iF h1 (iF (Int32.not_le.mpr (h.resolve_left h1)) rfl)
theorem c_onF0 {N : Nat} {x y : Int32} {H : zH} (h : (x < -20000 ∨ 20000 < x) ∨ (y < -20000 ∨ 20000 < y)) : f_X11_isOnField N x y H = some 0 := by
  unfold f_X11_isOnField
  by_cases h1 : x < -20000
  · exact iT h1 rfl
  refine iF h1 ?_
  by_cases h2 : 20000 < x
  · exact iT h2 rfl
  refine iF h2 ?_
  by_cases h3 : y < -20000
  · exact iT h3 rfl
  refine iF h3 ?_
  by_cases h4 : 20000 < y
  · exact iT h4 rfl
  · exact absurd h (by rintro ((h | h) | (h | h)) <;> contradiction)
theorem c_onF1 {N : Nat} {x y : Int32} {H : zH} (h1 : ¬ x < -20000) (h2 : ¬ 20000 < x) (h3 : ¬ y < -20000) (h4 : ¬ 20000 < y) : f_X11_isOnField N x y H = some 1 := iF h1 (iF h2 (iF h3 (iF h4 rfl)))
/-- may an arrow be told so -/
def okA (k x y : Int32) : Prop := (k = 0 ∧ ¬ ((x < -20000 ∨ 20000 < x) ∨ (y < -20000 ∨ 20000 < y))) ∨ k = 1 ∨ k = 2 ∨ k = 3 ∨ (k = 4 ∧ ¬ x < 0 ∧ x ≤ 5)
theorem c_can1 {N : Nat} {k x y : Int32} {H : zH} (w : okA k x y) : f_X4_canBe N k x y H = some 1 := by
  unfold f_X4_canBe
  rcases w with ⟨rfl, w⟩ | rfl | rfl | rfl | ⟨rfl, w1, w2⟩
  · exact iT rfl (bS (c_onF1 (fun z => w (Or.inl (Or.inl z))) (fun z => w (Or.inl (Or.inr z))) (fun z => w (Or.inr (Or.inl z))) (fun z => w (Or.inr (Or.inr z)))) (iT (Or.inr rfl) rfl))
  · rfl
  · rfl
  · rfl
  · refine iF (by decide) (iF (by decide) (iF (by decide) (iF (by decide) (iT rfl (iF w1 (iF ?_ rfl))))))
    exact fun z => absurd (Int32.le_trans z w2) (by decide)
theorem c_can0 {N : Nat} {k x y : Int32} {H : zH} (w : ¬ okA k x y) : f_X4_canBe N k x y H = some 0 := by
  unfold f_X4_canBe
  unfold okA at w
  by_cases k0 : k = 0
  · refine iT k0 ?_
    have h : (x < -20000 ∨ 20000 < x) ∨ (y < -20000 ∨ 20000 < y) := Classical.byContradiction (fun z => w (Or.inl ⟨k0, z⟩))
    exact bS (c_onF0 h) (iT (Or.inl rfl) rfl)
  by_cases k1 : k = 1
  · exact absurd (Or.inr (Or.inl k1)) w
  by_cases k2 : k = 2
  · exact absurd (Or.inr (Or.inr (Or.inl k2))) w
  by_cases k3 : k = 3
  · exact absurd (Or.inr (Or.inr (Or.inr (Or.inl k3)))) w
  refine iF k0 (iF k1 (iF k2 (iF k3 ?_)))
  by_cases k4 : k = 4
  · refine iT k4 ?_
    by_cases h1 : x < 0
    · exact iT h1 rfl
    · refine iF h1 (iT ?_ rfl)
      have h2 : ¬ x ≤ 5 := fun z => w (Or.inr (Or.inr (Or.inr (Or.inr ⟨k4, h1, z⟩))))
      have h3 := Int32.not_le.mp h2
      rw [Int32.lt_iff_toInt_lt] at h3
      rw [Int32.le_iff_toInt_le]
      have e5 : (5 : Int32).toInt = 5 := by decide
      have e6 : (6 : Int32).toInt = 6 := by decide
      omega
  · exact iF k4 rfl
theorem m_arr0 {N : Nat} {h : zH} {I : Nat → Int32} {A : Nat → Nat → Int32} {k x y : Int32} (hl : 46 ≤ h.length) (w : I 23 = 6 ∨ ¬ okA k x y) : f_X12_arrow N 27 k x y (mp h I A) = some (-1, mp h I A) := by
  unfold f_X12_arrow
  refine bS (mg23 hl) ?_
  by_cases h6 : I 23 = 6
  · exact iT h6 rfl
  refine iF h6 ?_
  have w := w.resolve_left h6
  by_cases h1 : k < 0
  · exact iT h1 rfl
  by_cases h2 : 4 < k
  · exact iF h1 (iT h2 rfl)
  refine iF h1 (iF h2 ?_)
  by_cases k0 : k = 0
  · refine iT k0 ?_
    have h : (x < -20000 ∨ 20000 < x) ∨ (y < -20000 ∨ 20000 < y) := Classical.byContradiction (fun z => w (Or.inl ⟨k0, z⟩))
    by_cases hx : x < -20000 ∨ 20000 < x
    · exact bS (m_far1 hx) (iF (by decide) rfl)
    · exact bS (fz_far (fun z => hx (Or.inl z)) (fun z => hx (Or.inr z))) (iT rfl (bS (m_far1 (h.resolve_left hx)) (iF (by decide) rfl)))
  refine iF k0 ?_
  unfold f_X12_arrow_36
  have hk : k = 1 ∨ k = 2 ∨ k = 3 ∨ k = 4 := by
    obtain ⟨n, n1, n2⟩ := nI_of2 (M := 4) (n := 4) (by decide) h1 (Int32.not_lt.mp h2)
    rcases (show n = 0 ∨ n = 1 ∨ n = 2 ∨ n = 3 ∨ n = 4 by omega) with rfl | rfl | rfl | rfl | rfl
    · exact absurd n2 k0
    · exact Or.inl n2
    · exact Or.inr (Or.inl n2)
    · exact Or.inr (Or.inr (Or.inl n2))
    · exact Or.inr (Or.inr (Or.inr n2))
  rcases hk with hk | hk | hk | hk
  · exact absurd (Or.inr (Or.inl hk)) w
  · exact absurd (Or.inr (Or.inr (Or.inl hk))) w
  · exact absurd (Or.inr (Or.inr (Or.inr (Or.inl hk)))) w
  · refine iT hk ?_
    by_cases hx : x < 0
    · exact iT hx rfl
    · exact iF hx (iF (fun z => w (Or.inr (Or.inr (Or.inr (Or.inr ⟨hk, hx, z⟩))))) rfl)
theorem m_arr1 {N : Nat} {h : zH} {I : Nat → Int32} {A : Nat → Nat → Int32} {k x y : Int32} {n : Nat} (hl : 46 ≤ h.length) (hn : I 23 = nI n) (h6 : n < 6) (w : okA k x y) : f_X12_arrow N 27 k x y (mp h I A) = some (nI (n + 1), mp h (upd I 23 (nI (n + 1))) (va_up (va_up (va_up A 24 (upd (A 24) n k)) 25 (upd (A 25) n x)) 26 (upd (A 26) n y))) := by
  have fin : f_X12_arrow_52 N 27 k x y (mp h I A) = some (nI (n + 1), mp h (upd I 23 (nI (n + 1))) (va_up (va_up (va_up A 24 (upd (A 24) n k)) 25 (upd (A 25) n x)) 26 (upd (A 26) n y))) := by
    unfold f_X12_arrow_52
    simp (disch := omega) only [mg24 hl, mg23 hl, mg25 hl, mg26 hl, ms24 hl, ms25 hl, ms26 hl, mu23 hl, Option.bind_some, hn, la_r, up_at]
    rfl
  unfold f_X12_arrow
  refine bS (mg23 hl) (iF (by rw [hn]; exact fun z => absurd ((nI_eq (b := 6) (by omega) (by omega)).mp z) (by omega)) ?_)
  rcases w with ⟨rfl, w⟩ | rfl | rfl | rfl | ⟨rfl, w1, w2⟩
  · exact iF (by decide) (iF (by decide) (iT rfl (bS (fz_far (fun z => w (Or.inl (Or.inl z))) (fun z => w (Or.inl (Or.inr z)))) (iT rfl (bS (fz_far (fun z => w (Or.inr (Or.inl z))) (fun z => w (Or.inr (Or.inr z)))) (iT rfl (iF (by decide) fin)))))))
  · exact iF (by decide) (iF (by decide) (iF (by decide) (iF (by decide) fin)))
  · exact iF (by decide) (iF (by decide) (iF (by decide) (iF (by decide) fin)))
  · exact iF (by decide) (iF (by decide) (iF (by decide) (iF (by decide) fin)))
  · exact iF (by decide) (iF (by decide) (iF (by decide) (iT rfl (iF w1 (iT w2 fin)))))
theorem op_arrow {h : zH} {N : Nat} (H : INX h) (k x y : Int32) : OPo (f_X11_arrow N 0 k x y) (f_X12_arrow N 27 k x y) h := by
  obtain ⟨KI, KR, KA, KP, I, A, c, q, H⟩ := H
  obtain ⟨hl, hC, hM, i1, i2, i3, i4, i5, i6, i7, i8, ⟨n, n1, n2, n3, n4⟩⟩ := id H
  by_cases h6 : n = 6
  · refine OPo.same H (r := -1) ?_ (m_arr0 hl (Or.inl (by rw [n2, h6]; rfl)))
    exact bS (cg0_2 hl) (bS (ck13 hl) (zS (show f_X4_add N 13 k x y _ = some _ from bS (cg13_3 hl) (iT (by rw [n1, h6]; decide) rfl)) (iT rfl rfl)))
  have g6 : ¬ (6 : Int32) ≤ KI 2 := by rw [n1]; exact nI_ge (b := 6) (by omega) (by omega)
  by_cases w : okA k x y
  · refine OPo.mut H (r := nI (n + 1)) (ns := []) (KI' := upd KI 2 (nI (n + 1))) (KR' := KR) (KA' := va_up (va_up (va_up KA 14 (upd (KA 14) n k)) 15 (upd (KA 15) n x)) 16 (upd (KA 16) n y)) (I' := upd I 23 (nI (n + 1))) (A' := va_up (va_up (va_up A 24 (upd (A 24) n k)) 25 (upd (A 25) n x)) 26 (upd (A 26) n y)) ?_ (fun h1' hl1 => m_arr1 hl1 n2 (by omega) w) (up_ne _ _ (by decide)) (up_ne _ _ (by decide)) rfl rfl (i7.cg (up_ne _ _ (by decide)) (up_ne _ _ (by decide)) rfl rfl) ?_ ?_ (by simp) (by simp [zsl])
    · rw [List.append_nil]
      refine bS (cg0_2 hl) (bS (ck13 hl) (zS (show f_X4_add N 13 k x y _ = some (1, cp h (upd KI 2 (nI (n + 1))) KR (va_up (va_up (va_up KA 14 (upd (KA 14) n k)) 15 (upd (KA 15) n x)) 16 (upd (KA 16) n y)) KP) from bS (cg13_3 hl) (iF g6 (bS (c_can1 w) (iF (by decide) ?_)))) (iF (by decide) (bS (cg0_2 hl) (bS (cg13_3 hl) (by rw [up_at]))))))
      simp (disch := omega) only [cg13_0 hl, cg13_1 hl, cg13_2 hl, cg13_3 hl, cs14 hl, cs15 hl, cs16 hl, cu13_3 hl, Option.bind_some, n1, la_r]
      rfl
    · rw [up_ne _ _ (by decide), up_ne _ _ (by decide), up_ne _ _ (by decide), up_ne _ _ (by decide)]
      exact i8
    · refine ⟨n + 1, up_at _ _ _, up_at _ _ _, by omega, fun i hi => ?_⟩
      show upd (KA 14) n k i = upd (A 24) n k i ∧ upd (KA 15) n x i = upd (A 25) n x i ∧ upd (KA 16) n y i = upd (A 26) n y i ∧ ∃ kd, upd (A 24) n k i = nI kd ∧ kd ≤ 4 ∧ (kd = 0 → (-20000 ≤ upd (A 25) n x i ∧ upd (A 25) n x i ≤ 20000) ∧ -20000 ≤ upd (A 26) n y i ∧ upd (A 26) n y i ≤ 20000) ∧ (kd = 4 → ∃ z, upd (A 25) n x i = nI z ∧ z ≤ 5)
      by_cases hin : i = n
      · subst hin
        simp only [up_at, true_and]
        rcases w with ⟨rfl, w⟩ | rfl | rfl | rfl | ⟨rfl, w1, w2⟩
        · exact ⟨0, rfl, by omega, fun _ => ⟨⟨Int32.not_lt.mp (fun z => w (Or.inl (Or.inl z))), Int32.not_lt.mp (fun z => w (Or.inl (Or.inr z)))⟩, Int32.not_lt.mp (fun z => w (Or.inr (Or.inl z))), Int32.not_lt.mp (fun z => w (Or.inr (Or.inr z)))⟩, fun z => by omega⟩
        · exact ⟨1, rfl, by omega, fun z => by omega, fun z => by omega⟩
        · exact ⟨2, rfl, by omega, fun z => by omega, fun z => by omega⟩
        · exact ⟨3, rfl, by omega, fun z => by omega, fun z => by omega⟩
        · refine ⟨4, rfl, by omega, fun z => by omega, fun _ => ?_⟩
          obtain ⟨m, m1, m2⟩ := nI_of2 (M := 5) (n := 5) (by decide) w1 w2
          exact ⟨m, m2, m1⟩
      · rw [up_ne _ _ hin, up_ne _ _ hin, up_ne _ _ hin, up_ne _ _ hin, up_ne _ _ hin, up_ne _ _ hin]
        exact n4 i (by omega)
  · refine OPo.same H (r := -1) ?_ (m_arr0 hl (Or.inr w))
    exact bS (cg0_2 hl) (bS (ck13 hl) (zS (show f_X4_add N 13 k x y _ = some _ from bS (cg13_3 hl) (iF g6 (bS (c_can0 w) (iT rfl rfl)))) (iT rfl rfl)))
