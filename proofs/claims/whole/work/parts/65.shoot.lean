section judge2
variable {h : zH} {KI : Nat → Int32} {KR : Nat → Option Nat} {KA : Nat → Nat → Int32} {KP : Nat → Option Nat} {I : Nat → Int32} {A : Nat → Nat → Int32} {N r l n a : Nat} {F : Nat → Int32}
theorem j_both (hl : 46 ≤ h.length) (hN : 21000 ≤ N) (s2 : rR h (some r) F) (qF : ∀ j, j < 125 → F j = A 0 j) (hL : l < gL F) (hn : n ≤ 6)
    (hq : ∀ k, k < n → KA 14 k = A 24 k ∧ KA 15 k = A 25 k ∧ KA 16 k = A 26 k ∧ ∃ kd, A 24 k = nI kd ∧ kd ≤ 4 ∧ (kd = 0 → (-20000 ≤ A 25 k ∧ A 25 k ≤ 20000) ∧ -20000 ≤ A 26 k ∧ A 26 k ≤ 20000) ∧ (kd = 4 → ∃ x, A 25 k = nI x ∧ x ≤ 5)) :
    ∀ (j k f1 f2 : Nat) (g g' : Nat → Int32) (S : Nat), k + j = n → j < f1 → j < f2 → (∀ i, i < k → g i = g' i ∧ ∃ v, g i = nI v ∧ v ≤ 100) → S ≤ 100 * k → nI S = sN g 0 k →
    (∃ g1 g2, f_X4_judge_6 N f1 13 (some r) (nI l) (nI n) (nI S) (nI k) (cp h KI KR (va_up KA 17 g) KP) = some (-1, cp h KI KR (va_up KA 17 g1) KP) ∧ ∀ h1 : zH, 46 ≤ h1.length → f_X12_shoot_87 N f2 27 (nI a) (nI n) (nI l) (nI S) (nI k) (mp h1 I (va_up A 27 g')) = some (-3, mp h1 I (va_up A 27 g2))) ∨
    ∃ g1 g2 S1, f_X4_judge_6 N f1 13 (some r) (nI l) (nI n) (nI S) (nI k) (cp h KI KR (va_up KA 17 g) KP) = some (nI S1, cp h KI KR (va_up KA 17 g1) KP) ∧ (∀ i, i < n → g1 i = g2 i ∧ ∃ v, g1 i = nI v ∧ v ≤ 100) ∧ S1 ≤ 600 ∧ nI S1 = sN g1 0 n ∧ ∀ h1 : zH, 46 ≤ h1.length → f_X12_shoot_87 N f2 27 (nI a) (nI n) (nI l) (nI S) (nI k) (mp h1 I (va_up A 27 g')) = sEnd N a n (nI S1) (mp h1 I (va_up A 27 g2)) := by
  intro j
  induction j with
  | zero =>
    intro k f1 f2 g g' S h1 h2 h3 h4 h5 h6
    obtain ⟨f1, rfl⟩ : ∃ m, f1 = m + 1 := ⟨f1 - 1, by omega⟩
    obtain ⟨f2, rfl⟩ : ∃ m, f2 = m + 1 := ⟨f2 - 1, by omega⟩
    have hk : k = n := by omega
    subst hk
    refine Or.inr ⟨g, g', S, ?_, h4, by omega, h6, fun h1' hl1 => ?_⟩
    · rw [f_X4_judge_6]
      exact iT (Int32.le_refl _) rfl
    · rw [f_X12_shoot_87]
      exact iT (Int32.le_refl _) rfl
  | succ j ih =>
    intro k f1 f2 g g' S h1 h2 h3 h4 h5 h6
    obtain ⟨f1, rfl⟩ : ∃ m, f1 = m + 1 := ⟨f1 - 1, by omega⟩
    obtain ⟨f2, rfl⟩ : ∃ m, f2 = m + 1 := ⟨f2 - 1, by omega⟩
    have hk : k < n := by omega
    have g1 : ¬ nI n ≤ nI k := nI_ge hk (by omega)
    have g2 : ¬ (6 : Int32) ≤ nI k := nI_ge (b := 6) (by omega) (by omega)
    rcases j_one (KI := KI) (KR := KR) (KP := KP) (I := I) (a := a) hl hN s2 qF hL hn hq hk h4 (nI S) f2 with ⟨e1, e2⟩ | ⟨v, v1, e1, e2⟩
    · refine Or.inl ⟨g, g', ?_, e2⟩
      rw [f_X4_judge_6]
      exact iF g1 (iF g2 (bS (ck13 hl) (bS e1 (iT rfl rfl))))
    · have st : f_X4_judge_6 N (f1 + 1) 13 (some r) (nI l) (nI n) (nI S) (nI k) (cp h KI KR (va_up KA 17 g) KP) = f_X4_judge_6 N f1 13 (some r) (nI l) (nI n) (nI (S + v)) (nI (k + 1)) (cp h KI KR (va_up KA 17 (upd g k (nI v))) KP) := by
        rw [f_X4_judge_6]
        refine iF g1 (iF g2 (bS (ck13 hl) (bS e1 (iF (nI_nm (by omega)) (bS (cg13_4 hl) (bS (a := cp h KI KR (va_up KA 17 (upd g k (nI v))) KP) ?_ ?_))))))
        · rw [cs17 hl (by omega), bx_uu, vu_at]
        · rw [nI_add, la_r]
      have e3 := fun h1' hl1 => (e2 h1' hl1).trans (by rw [nI_add])
      rcases ih (k + 1) f1 f2 (upd g k (nI v)) (upd g' k (nI v)) (S + v) (by omega) (by omega) (by omega) (fun i hi => by
        by_cases hik : i = k
        · subst hik; rw [up_at, up_at]; exact ⟨rfl, v, rfl, v1⟩
        · rw [up_ne _ _ hik, up_ne _ _ hik]; exact h4 i (by omega)) (by omega) (by
        rw [sN, ← nI_add, h6, Nat.zero_add, up_at]
        exact congrArg (· + nI v) (sN_cg (fun i _ hi => (up_ne _ _ (by omega)).symm))) with ⟨q1, q2, q3, q4⟩ | ⟨q1, q2, S1, q3, q4, q5, q6, q7⟩
      · exact Or.inl ⟨q1, q2, st.trans q3, fun h1' hl1 => (e3 h1' hl1).trans (q4 h1' hl1)⟩
      · exact Or.inr ⟨q1, q2, S1, st.trans q3, q4, q5, q6, fun h1' hl1 => (e3 h1' hl1).trans (q7 h1' hl1)⟩
end judge2
section send
variable {h : zH} {I : Nat → Int32} {A : Nat → Nat → Int32} {N a n m c e : Nat} {D g : Nat → Int32}
theorem m_279 (hl : 46 ≤ h.length) (ha : a < 16) (hn : n ≤ 6) (hm : m + n ≤ 288) (S : Int32) (hA : A 27 = g) : ∀ (j k fuel : Nat), k + j = n → j < fuel → f_X12_shoot_279 N fuel 27 (nI a) (nI n) S (nI m) (nI k) (mp h I (va_up A 0 (catF D (157 + 288 * a + m) k g))) = some (S, mp h I (va_up A 0 (upd (catF D (157 + 288 * a + m) n g) (141 + a) (D (141 + a) + 1)))) := by
  intro j
  induction j with
  | zero =>
    intro k fuel h1 h2
    obtain ⟨fuel, rfl⟩ : ∃ x, fuel = x + 1 := ⟨fuel - 1, by omega⟩
    rw [f_X12_shoot_279, show k = n by omega]
    refine iT (Int32.le_refl _) ?_
    simp (disch := omega) only [mg0 hl, ml0 hl, ms0 hl, la_l, Option.bind_some, bx_uu, vu_at, cf_out]
  | succ j ih =>
    intro k fuel h1 h2
    obtain ⟨fuel, rfl⟩ : ∃ x, fuel = x + 1 := ⟨fuel - 1, by omega⟩
    rw [f_X12_shoot_279]
    refine iF (nI_ge (by omega) (by omega)) (bS (mg0 hl) (bS (mg27 hl) (bS (a := g k) ((ml27 hl (by omega)).trans (by rw [vu_ne _ _ (by decide), hA])) ?_)))
    rw [lm_l, la_l, nI_add, nI_add, ms0 hl (by omega), Option.bind_some, bx_uu, vu_at, cf_up, la_r]
    exact ih (k + 1) fuel (by omega) (by omega)
theorem kp125 (d : Nat → Int32) (c : Nat) : ∀ j, j < 125 → kpD d c j = d j := fun j hj => kp_lo d c (by omega)
theorem m_sEnd (hl : 46 ≤ h.length) (hN : 21000 ≤ N) (hc : c ≤ 4) (hI : I 1 = nI c) (ha : a < 16) (he : A 0 (141 + a) = nI e) (w : wfR (A 0)) (heT : e < tE (A 0)) (hn : n ≤ 6) (hm : aT (A 0) e + n ≤ 288) (S : Int32) (hA : A 27 = g) : sEnd N a n S (mp h I A) = some (S, mp h (upd I 1 (nI (kpC c))) (va_up A 0 (upd (catF (kpD (A 0) c) (157 + 288 * a + aT (A 0) e) n g) (141 + a) (nI (e + 1))))) := by
  have ok : okE (va_up A 0 (kpD (A 0) c) 0) e := by
    rw [vu_at]
    exact Or.inr ⟨wfR.cg (kp125 _ _) w, by rw [tE.cg (kp125 _ _)]; omega⟩
  have ar := m_arrowsOf (N := N) (I := upd I 1 (nI (kpC c))) (A := va_up A 0 (kpD (A 0) c)) hl (by omega) ok
  rw [vu_at, aT.cg (kp125 _ _)] at ar
  have lp := m_279 (N := N) (h := h) (I := upd I 1 (nI (kpC c))) (A := A) (D := kpD (A 0) c) hl ha hn hm S hA n 0 N (by omega) (by omega)
  rw [cf_0, kp_lo _ _ (by omega), he, la_r] at lp
  unfold sEnd
  refine bS (mck hl) (bS (m_keeps hl hN hc hI) (bS (mg0 hl) (bS (a := nI e) ?_ (bS (mck hl) (bS ar lp)))))
  rw [la_l, ml0 hl (by omega), vu_at, kp_lo _ _ (by omega), he]
end send
section cend
variable {h : zH} {KI : Nat → Int32} {KR : Nat → Option Nat} {KA : Nat → Nat → Int32} {KP : Nat → Option Nat} {N n m sh b1 b2 b3 e : Nat} {g t1 t2 f : Nat → Int32} {S R : zE}
theorem g_we23 (hl : 46 ≤ h.length) (hn : n ≤ 6) (hm : m + n ≤ 288) (g0 : ∀ {ns : List zE}, (cp (h ++ ns) KI KR KA KP)[sh]? = some (.inr (8, [zr (some b1), zr (some b2), zr (some b3)]))) (g1 : ∀ {ns : List zE}, (cp (h ++ ns) KI KR KA KP)[b1]? = some (.inl (0, e, .inl t1))) (g2 : ∀ {ns : List zE}, (cp (h ++ ns) KI KR KA KP)[b2]? = some (.inl (0, m, .inl t2))) (hg : KA 17 = g) (he : e ≤ 48) (sm : Int32) : ∀ (j k fuel : Nat), k + j = n → j < fuel →
    f_X8_withEnd_23 N fuel sh (some 17) (nI n) sm (some (h.length + 2)) (nI k) (cp (h ++ [S, R, .inl (0, m + n, .inl (catF f m k g))]) KI KR KA KP) = some (some (h.length + 3), cp (h ++ [S, R, .inl (0, m + n, .inl (catF f m n g)), .inr (8, [zr (some (h.length + 4)), zr (some (h.length + 2)), zr (some b3)]), .inl (0, e + 1, .inl (upd (cpy t1 (min e (e + 1))) e sm))]) KI KR KA KP) := by
  intro j
  induction j with
  | zero =>
    intro k fuel h1 h2
    obtain ⟨fuel, rfl⟩ : ∃ x, fuel = x + 1 := ⟨fuel - 1, by omega⟩
    rw [f_X8_withEnd_23, show k = n by omega]
    exact iT (Int32.le_refl _) (nS hl 3 rfl (bS (fgR g0 rfl) (zS (show f_X8_joined N (some b1) sm _ = some _ from bS (flen g1 (by omega)) (zS (n_cpi hl 4 rfl g1 (la_r _ _) (by omega) (by omega) (by omega)) (bS (flen g1 (by omega)) (bS (n_st hl (i := 4) rfl (by omega) (by omega)) rfl)))) (bS (fgR g0 rfl) (bS (bS (n_u hl (i := 3) rfl (Nat.le_of_ble_eq_true rfl)) (bS (n_u hl (i := 3) rfl (Nat.le_of_ble_eq_true rfl)) (bS (n_u hl (i := 3) rfl (Nat.le_of_ble_eq_true rfl)) rfl))) rfl)))))
  | succ j ih =>
    intro k fuel h1 h2
    obtain ⟨fuel, rfl⟩ : ∃ x, fuel = x + 1 := ⟨fuel - 1, by omega⟩
    rw [f_X8_withEnd_23]
    have hl2 : 46 ≤ (h ++ [S, R, .inl (0, m + n, .inl (catF f m k g))]).length := by rw [List.length_append]; omega
    have l17 : zlen (cp (h ++ [S, R, .inl (0, m + n, .inl (catF f m k g))]) KI KR KA KP) (some 17) = some 6 := by
      have := cp_get (KI := KI) (KR := KR) (KA := KA) (KP := KP) hl2 (k := 17) (e := .inl (0, 6, .inl (KA 17))) rfl (by omega)
      exact flen this (by omega)
    refine iF (nI_ge (by omega) (by omega)) (bS l17 (iF (nI_ge (b := 6) (by omega) (by omega)) (bS (fgR g0 rfl) (bS (flen g2 (by omega)) (bS (a := g k) ((cl17 hl2 (by omega)).trans (by rw [hg])) (bS (n_stx hl (i := 2) (j := m + k) (nI_add _ _) rfl (by omega) (by omega)) ?_))))))
    rw [cf_up, la_r]
    exact ih (k + 1) fuel (by omega) (by omega)
end cend
