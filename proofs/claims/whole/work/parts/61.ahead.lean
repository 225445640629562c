/-! ===== ahead ===== -/
def cmpS (u v : Nat) : Int32 := if v < u then 1 else if u = v then 0 else -1
theorem cmpS_3 (u v : Nat) : cmpS u v = 0 ∨ cmpS u v = 1 ∨ cmpS u v = -1 := by
  unfold cmpS
  by_cases h1 : v < u
  · rw [if_pos h1]; exact Or.inr (Or.inl rfl)
  · rw [if_neg h1]
    by_cases h2 : u = v
    · rw [if_pos h2]; exact Or.inl rfl
    · rw [if_neg h2]; exact Or.inr (Or.inr rfl)
theorem g_cmp {N u v : Nat} {H : zH} (hu : u < 2 ^ 30) (hv : v < 2 ^ 30) : f_J6_compare_7cf53 N (nI u) (nI v) H = some (cmpS u v) := by
  unfold f_J6_compare_7cf53 cmpS
  by_cases h1 : v < u
  · rw [if_pos h1]
    exact iT (nI_le (by omega) (by omega)) (iF (fun z => absurd ((nI_eq (by omega) (by omega)).mp z) (by omega)) rfl)
  · rw [if_neg h1]
    by_cases h2 : u = v
    · rw [if_pos h2, h2]
      exact iT (Int32.le_refl _) (iT rfl rfl)
    · rw [if_neg h2]
      exact iF (nI_ge (by omega) (by omega)) rfl
theorem m_sgn {N u v : Nat} {H : zH} (hu : u < 2 ^ 30) (hv : v < 2 ^ 30) : f_X12_signOf N (nI u - nI v) H = some (cmpS u v) := by
  have h := pk_sub_toInt hu hv
  have e0 : (0 : Int32).toInt = 0 := by decide
  unfold f_X12_signOf cmpS
  by_cases h1 : v < u
  · rw [if_pos h1]
    refine iF ?_ rfl
    rw [Int32.le_iff_toInt_le, h, e0]; omega
  · rw [if_neg h1]
    refine iT ?_ ?_
    · rw [Int32.le_iff_toInt_le, h, e0]; omega
    · by_cases h2 : u = v
      · rw [if_pos h2]
        refine iT ?_ rfl
        rw [Int32.le_iff_toInt_le, h, e0]; omega
      · rw [if_neg h2]
        refine iF ?_ rfl
        rw [Int32.le_iff_toInt_le, h, e0]; omega
theorem sN_b {f : Nat → Int32} {i : Nat} : ∀ {k : Nat}, (∀ j, i ≤ j → j < i + k → ∃ v, f j = nI v ∧ v ≤ 100) → ∃ u, sN f i k = nI u ∧ u ≤ 100 * k
  | 0, _ => ⟨0, rfl, by omega⟩
  | k + 1, h => by
    obtain ⟨u, h1, h2⟩ := sN_b (k := k) (fun j h1 h2 => h j h1 (by omega))
    obtain ⟨v, h3, h4⟩ := h (i + k) (by omega) (by omega)
    exact ⟨u + v, by rw [sN, h1, h3, nI_add], by omega⟩
def cnN (f : Nat → Int32) (v : Int32) : Nat → Nat
  | 0 => 0
  | k + 1 => if f k = v then cnN f v k + 1 else cnN f v k
theorem cnN_le (f : Nat → Int32) (v : Int32) : ∀ k, cnN f v k ≤ k
  | 0 => Nat.le_refl _
  | k + 1 => by
    have := cnN_le f v k
    rw [cnN]; split <;> omega
theorem cnN_cg {f g : Nat → Int32} {v : Int32} : ∀ {k : Nat}, (∀ j, j < k → f j = g j) → cnN f v k = cnN g v k
  | 0, _ => rfl
  | k + 1, h => by rw [cnN, cnN, cnN_cg (k := k) (fun j hj => h j (by omega)), h k (by omega)]
/-- what an archer shot, of the class and of the model -/
def shV (H : zH) (sh : Nat) (D : Nat → Int32) (a n m : Nat) : Prop := ∃ F : Nat → Int32, shR H sh F a ∧ (∀ j, j < 6898 → F j = D j) ∧ D (141 + a) = nI n ∧ n ≤ 48 ∧ aT D n ≤ 288 ∧ okE D n ∧ D (4765 + a) = nI m ∧ m ≤ 8
section cah
variable {H : zH} {sh a n m N : Nat} {D : Nat → Int32}
theorem shV.ck (w : shV H sh D a n m) : zck H 8 (some sh) = some sh := by
  obtain ⟨F, ⟨b1, b2, b3, n, m, f1, f2, f3, q0, -⟩, -⟩ := w
  exact fk q0.2
theorem totF.cg {F D : Nat → Int32} (q : ∀ j, j < 6898 → F j = D j) (ha : a < 16) (h : aT D n ≤ 288) : totF F a n = totF D a n := by
  have e : aT F n = aT D n := aT.cg (fun j hj => q j (by omega)) n
  unfold totF
  rw [e]
  exact sN_cg (fun j h1 h2 => q _ (by omega))
theorem lastF.cg {F D : Nat → Int32} (q : ∀ j, j < 6898 → F j = D j) (ha : a < 16) (h : aT D n ≤ 288) : lastF F a n = lastF D a n := by
  have e : ∀ n, aT F n = aT D n := fun n => aT.cg (fun j hj => q j (by omega)) n
  unfold lastF
  rw [e, e]
  by_cases h0 : n = 0
  · rw [if_pos h0, if_pos h0]
  · have h3 := aT_mono D (n := n - 1) (m := n) (by omega)
    rw [if_neg h0, if_neg h0]
    exact sN_cg (fun j h1 h2 => q _ (by omega))
theorem shV.vals (w : shV H sh D a n m) (ha : a < 16) : ∀ j, j < aT D n → ∃ v, D (157 + 288 * a + j) = nI v ∧ v ≤ 100 := by
  obtain ⟨F, ⟨b1, b2, b3, n', m', f1, f2, f3, q0, q1, q2, q3, z1, z2, z3, z4, z5, z6, z7⟩, q, d1, d2, d3, d4, d5, d6⟩ := w
  have e : ∀ n, aT F n = aT D n := fun n => aT.cg (fun j hj => q j (by omega)) n
  have : n' = n := (nI_eq (by omega) (by omega)).mp (z1.symm.trans ((q _ (by omega)).trans d1))
  subst this
  intro j hj
  obtain ⟨h1, v, h2, h3⟩ := z5 j (by rw [e]; exact hj)
  exact ⟨v, by rw [← q _ (by omega), ← h1, h2], h3⟩
theorem shV.tot (w : shV H sh D a n m) (ha : a < 16) (hN : 60 ≤ N) : ∃ u, u < 2 ^ 30 ∧ totF D a n = nI u ∧ f_X8_total N sh H = some (nI u) := by
  have hv := w.vals ha
  obtain ⟨F, w1, q, d1, d2, d3, d4, d5, d6⟩ := w
  obtain ⟨u, u1, u2⟩ := sN_b (f := fun j => D (157 + 288 * a + j)) (i := 0) (k := aT D n) (fun j h1 h2 => hv j (by omega))
  refine ⟨u, by omega, u1, ?_⟩
  rw [g_total w1 ((q _ (by omega)).trans d1) d2 hN, totF.cg q ha d3]
  exact congrArg some u1
theorem shV.last (w : shV H sh D a n m) (ha : a < 16) : ∃ u, u < 2 ^ 30 ∧ lastF D a n = nI u ∧ f_X8_lastSum N sh H = some (nI u) := by
  have hv := w.vals ha
  obtain ⟨F, w1, q, d1, d2, d3, d4, d5, d6⟩ := w
  have g : ∃ u, u < 2 ^ 30 ∧ lastF D a n = nI u := by
    unfold lastF
    by_cases h0 : n = 0
    · exact ⟨0, by omega, if_pos h0⟩
    · have h3 := aT_mono D (n := n - 1) (m := n) (by omega)
      obtain ⟨u, u1, u2⟩ := sN_b (f := fun j => D (157 + 288 * a + j)) (i := aT D (n - 1)) (k := aT D n - aT D (n - 1)) (fun j h1 h2 => hv j (by omega))
      exact ⟨u, by omega, (if_neg h0).trans u1⟩
  obtain ⟨u, u1, u2⟩ := g
  refine ⟨u, u1, u2, ?_⟩
  rw [g_lastSum w1 ((q _ (by omega)).trans d1) d2, lastF.cg q ha d3, u2]
theorem shV.cnt (w : shV H sh D a n m) (ha : a < 16) (hN : 300 ≤ N) (v : Int32) : f_X8_countOf N sh v H = some (nI (cnN (fun j => D (157 + 288 * a + j)) v (aT D n))) := by
  obtain ⟨F, ⟨b1, b2, b3, n', m', f1, f2, f3, q0, q1, q2, q3, z1, z2, z3, z4, z5, z6, z7⟩, q, d1, d2, d3, d4, d5, d6⟩ := w
  have e : ∀ n, aT F n = aT D n := fun n => aT.cg (fun j hj => q j (by omega)) n
  have : n' = n := (nI_eq (by omega) (by omega)).mp (z1.symm.trans ((q _ (by omega)).trans d1))
  subst this
  have e2 : cnN (fun j => D (157 + 288 * a + j)) v (aT D n') = cnN f2 v (aT F n') := by
    rw [e]
    exact cnN_cg (fun j hj => by rw [(z5 j (by rw [e]; exact hj)).1, q _ (by omega)])
  rw [e2]
  have go : ∀ (k b fuel : Nat), b + k = aT F n' → k < fuel → f_X8_countOf_14 N fuel v (nI (cnN f2 v b)) (some b2) (nI (aT F n')) (nI b) H = some (nI (cnN f2 v (aT F n'))) := by
    intro k
    induction k with
    | zero =>
      intro b fuel h1 h2
      obtain ⟨fuel, rfl⟩ : ∃ m, fuel = m + 1 := ⟨fuel - 1, by omega⟩
      rw [f_X8_countOf_14, show b = aT F n' by omega]
      exact iT (Int32.le_refl _) rfl
    | succ k ih =>
      intro b fuel h1 h2
      obtain ⟨fuel, rfl⟩ : ∃ m, fuel = m + 1 := ⟨fuel - 1, by omega⟩
      have nx := ih (b + 1) fuel (by omega) (by omega)
      rw [cnN] at nx
      rw [f_X8_countOf_14]
      refine iF (nI_ge (by omega) (by omega)) (bS (fld_ q2.2 (by omega) (by omega)) ?_)
      by_cases hc : f2 b = v
      · rw [if_pos hc] at nx
        refine iT hc ?_
        rw [la_r, la_r]; exact nx
      · rw [if_neg hc] at nx
        refine iF hc ?_
        rw [la_r]; exact nx
  exact bS (fgR q0.2 rfl) (bS (flen q2.2 (by omega)) (go (aT F n') 0 N (by omega) (by rw [e]; omega)))
end cah
section mah
variable {h : zH} {I : Nat → Int32} {A : Nat → Nat → Int32} {N a n m : Nat}
theorem m_most (hl : 46 ≤ h.length) (hN : 300 ≤ N) (ha : a < 16) (hn : A 0 (141 + a) = nI n) (w : okE (A 0) n) (h288 : aT (A 0) n ≤ 288) (v : Int32) : f_X12_most N 27 (nI a) v (mp h I A) = some (nI (cnN (fun j => A 0 (157 + 288 * a + j)) v (aT (A 0) n))) := by
  have go : ∀ (k b fuel : Nat), b + k = aT (A 0) n → k < fuel → f_X12_most_5 N fuel 27 (nI a) v (nI (cnN (fun j => A 0 (157 + 288 * a + j)) v b)) (nI b) (mp h I A) = some (nI (cnN (fun j => A 0 (157 + 288 * a + j)) v (aT (A 0) n))) := by
    intro k
    induction k with
    | zero =>
      intro b fuel h1 h2
      obtain ⟨fuel, rfl⟩ : ∃ m, fuel = m + 1 := ⟨fuel - 1, by omega⟩
      rw [f_X12_most_5, show b = aT (A 0) n by omega]
      exact bS (mg0 hl) (bS (ld141 hl ha hn) (bS (mck hl) (bS (m_arrowsOf hl (by omega) w) (iT (Int32.le_refl _) rfl))))
    | succ k ih =>
      intro b fuel h1 h2
      obtain ⟨fuel, rfl⟩ : ∃ m, fuel = m + 1 := ⟨fuel - 1, by omega⟩
      have nx := ih (b + 1) fuel (by omega) (by omega)
      rw [cnN] at nx
      rw [f_X12_most_5]
      refine bS (mg0 hl) (bS (ld141 hl ha hn) (bS (mck hl) (bS (m_arrowsOf hl (by omega) w) (iF (nI_ge (by omega) (by omega)) (bS (mg0 hl) (bS (a := A 0 (157 + 288 * a + b)) (by rw [lm_l, la_l, nI_add, ml0 hl (by omega)]) ?_))))))
      by_cases hc : A 0 (157 + 288 * a + b) = v
      · rw [if_pos hc] at nx
        refine iT hc ?_
        rw [la_r, la_r]; exact nx
      · rw [if_neg hc] at nx
        refine iF hc ?_
        rw [la_r]; exact nx
  exact go (aT (A 0) n) 0 N (by omega) (by omega)
/-- the squares of both sides -/
theorem sq_both {H : zH} {sh k : Nat} (hl : 46 ≤ h.length) (w : shV H sh (A 0) a n m) (ha : a < 16) (hk : k < 8) : ∃ x y, f_X8_squareOf N sh (nI k) H = some x ∧ f_X12_square N 27 (nI a) (nI k) (mp h I A) = some y ∧ sqR x y := by
  obtain ⟨F, ⟨b1, b2, b3, n', m', f1, f2, f3, q0, q1, q2, q3, z1, z2, z3, z4, z5, z6, z7, z8, z9⟩, q, d1, d2, d3, d4, d5, d6⟩ := w
  have : m' = m := (nI_eq (by omega) (by omega)).mp (z7.symm.trans ((q _ (by omega)).trans d5))
  subst this
  have lm : zld (mp h I A) 0 (some 28) ((4765 : Int32) + nI a) = some (nI m') := by rw [la_l, ml0 hl (by omega), d5]
  by_cases hkm : k < m'
  · refine ⟨f3 k, A 0 (4781 + 8 * a + k), iF (nI_pos (by omega)) (bS (fgR q0.2 rfl) (bS (flen q3.2 (by omega)) (iF (nI_ge hkm (by omega)) (bS (fgR q0.2 rfl) (bS (fld_ q3.2 hkm (by omega)) rfl))))), bS (mg0 hl) (bS lm (iF (nI_ge hkm (by omega)) (bS (mg0 hl) (bS (by rw [lm_l, la_l, nI_add, ml0 hl (by omega)]) rfl)))), ?_⟩
    rw [← q _ (by omega)]
    exact z9 k hkm
  · exact ⟨1000000000, 2147483647, iF (nI_pos (by omega)) (bS (fgR q0.2 rfl) (bS (flen q3.2 (by omega)) (iT (nI_le (by omega) (by omega)) rfl))), bS (mg0 hl) (bS lm (iT (nI_le (by omega) (by omega)) rfl)), Or.inl ⟨rfl, rfl⟩⟩
end mah
theorem sqR.cmp {x y x' y' : Int32} (h : sqR x y) (h' : sqR x' y') : (x = x' ↔ y = y') ∧ (x' ≤ x ↔ y' ≤ y) := by
  have eB : (1000000000 : Int32) = nI 1000000000 := rfl
  have eC : (2147483647 : Int32) = nI 2147483647 := rfl
  rcases h with ⟨rfl, rfl⟩ | ⟨rfl, n, rfl, hn⟩
  · rcases h' with ⟨rfl, rfl⟩ | ⟨rfl, n', rfl, hn'⟩
    · exact ⟨⟨fun _ => rfl, fun _ => rfl⟩, fun _ => Int32.le_refl _, fun _ => Int32.le_refl _⟩
    · rw [eB, eC, nI_eq (by omega) (by omega), nI_eq (by omega) (by omega), nI_leI (by omega) (by omega), nI_leI (by omega) (by omega)]
      omega
  · rcases h' with ⟨rfl, rfl⟩ | ⟨rfl, n', rfl, hn'⟩
    · rw [eB, eC, nI_eq (by omega) (by omega), nI_eq (by omega) (by omega), nI_leI (by omega) (by omega), nI_leI (by omega) (by omega)]
      omega
    · exact ⟨Iff.rfl, Iff.rfl⟩
