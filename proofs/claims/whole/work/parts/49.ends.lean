/-! ===== legs, ends, arrows, sums ===== -/
theorem cp0k {h : zH} {KI : Nat → Int32} {KR : Nat → Option Nat} {KA : Nat → Nat → Int32} {KP : Nat → Option Nat} : kept h (cp h KI KR KA KP) := fun a fa e he => by
  rw [cp_hi (fz_19 fa)]; exact he
section wf
variable {F : Nat → Int32}
theorem wf_L (w : wfR F) : F 1 = nI (gL F) ∧ 1 ≤ gL F ∧ gL F ≤ 4 := by
  obtain ⟨-, ⟨L, h1, h3, h2⟩, -⟩ := w
  unfold gL
  rw [h1, nI_clamp (by omega)]
  exact ⟨rfl, h3, h2⟩
theorem wf_e (w : wfR F) {l : Nat} (hl : l < gL F) : F (2 + 3 * l) = nI (eN F l) ∧ 1 ≤ eN F l ∧ eN F l ≤ 12 := by
  obtain ⟨-, -, ⟨fc, -, -, w4, -⟩, -⟩ := w
  obtain ⟨⟨e, h1, h2, h3⟩, -⟩ := w4 l hl
  unfold eN
  rw [h1, nI_clamp (by omega)]
  exact ⟨rfl, h2, h3⟩
theorem wf_w (w : wfR F) {l : Nat} (hl : l < gL F) : F (3 + 3 * l) = nI (wN F l) ∧ 1 ≤ wN F l ∧ wN F l ≤ 6 := by
  obtain ⟨-, -, ⟨fc, -, -, w4, -⟩, -⟩ := w
  obtain ⟨-, ⟨e, h1, h2, h3⟩, -⟩ := w4 l hl
  unfold wN
  rw [h1, nI_clamp (by omega)]
  exact ⟨rfl, h2, h3⟩
theorem tE_eq (w : wfR F) : tE F = endsTo F (gL F) := by unfold tE; rw [Nat.min_eq_left (wf_L w).2.2]
theorem endsTo_le (w : wfR F) : ∀ {l : Nat}, l ≤ gL F → endsTo F l ≤ 12 * l
  | 0, _ => Nat.le_refl _
  | l + 1, h => by
    have h1 := endsTo_le w (l := l) (by omega)
    have h2 := (wf_e w (l := l) (by omega)).2.2
    rw [endsTo]; omega
theorem tE_le (w : wfR F) : tE F ≤ 48 := by
  rw [tE_eq w]
  have h1 := endsTo_le w (Nat.le_refl _)
  have h2 := (wf_L w).2.2
  omega
theorem lg_go (w : wfR F) : ∀ k l e : Nat, l + k = 4 → l ≤ gL F → e + endsTo F l < tE F → lgGo F k l e < gL F
  | 0, l, e, h1, h2, h3 => by
    have h4 := (wf_L w).2.2
    have h5 : l = gL F := by omega
    rw [tE_eq w, ← h5] at h3; omega
  | k + 1, l, e, h1, h2, h3 => by
    have h5 : l < gL F := by
      apply Nat.lt_of_le_of_ne h2
      intro h6
      rw [tE_eq w, ← h6] at h3; omega
    rw [lgGo]
    split
    · exact h5
    · exact lg_go w k (l + 1) (e - eN F l) (by omega) h5 (by rw [endsTo]; omega)
theorem lg_lt (w : wfR F) {e : Nat} (h : e < tE F) : lgOf F e < gL F := lg_go w 4 0 e rfl (by omega) (by rw [endsTo]; exact h)
theorem aT_le (w : wfR F) : ∀ {n : Nat}, n ≤ tE F → aT F n ≤ 6 * n
  | 0, _ => Nat.le_refl _
  | n + 1, h => by
    have h1 := aT_le w (n := n) (by omega)
    have h2 := (wf_w w (lg_lt w (e := n) (by omega))).2.2
    rw [aT]; omega
theorem aT_288 (w : wfR F) {n : Nat} (h : n ≤ tE F) : aT F n ≤ 288 := by
  have h1 := aT_le w h
  have h2 := tE_le w
  omega
theorem aT_mono (F : Nat → Int32) : ∀ {n m : Nat}, n ≤ m → aT F n ≤ aT F m
  | n, 0, h => by rw [show n = 0 by omega]; exact Nat.le_refl _
  | n, m + 1, h => by
    by_cases h1 : n = m + 1
    · rw [h1]; exact Nat.le_refl _
    · have := aT_mono F (n := n) (m := m) (by omega)
      rw [aT]; omega
end wf
section mends
variable {h : zH} {I : Nat → Int32} {A : Nat → Nat → Int32} {N : Nat}
theorem m_legOf_4 (hl : 46 ≤ h.length) (w : wfR (A 0)) : ∀ (k n l e : Nat), k < n → l + k = 4 → l ≤ gL (A 0) → e + endsTo (A 0) l < tE (A 0) → f_X12_legOf_4 N n 27 (nI l) (nI e) (mp h I A) = some (nI (lgGo (A 0) k l e))
  | 0, n, l, e, _, h1, h2, h3 => by
    have h4 := (wf_L w).2.2
    have h5 : l = gL (A 0) := by omega
    rw [tE_eq w, ← h5] at h3; omega
  | k + 1, 0, l, e, h0, _, _, _ => by omega
  | k + 1, n + 1, l, e, h0, h1, h2, h3 => by
    have h5 : l < gL (A 0) := by
      apply Nat.lt_of_le_of_ne h2
      intro h6
      rw [tE_eq w, ← h6] at h3; omega
    have h6 := tE_le w
    obtain ⟨w1, w2, w3⟩ := wf_e w h5
    have hd : zld (mp h I A) 0 (some 28) ((2 : Int32) + ((3 : Int32) * nI l)) = some (nI (eN (A 0) l)) := by
      rw [lm_l, la_l, ml0 hl (by omega)]; exact congrArg some w1
    rw [lgGo, f_X12_legOf_4]
    refine bS (mg0 hl) (bS hd ?_)
    by_cases h7 : e < eN (A 0) l
    · rw [if_pos h7]
      exact iT (nI_lt h7 (by omega)) rfl
    · rw [if_neg h7]
      refine iF (nI_nlt (by omega) (by omega)) (bS (mg0 hl) (bS hd ?_))
      rw [pk_sub (by omega), la_r]
      exact m_legOf_4 hl w k n (l + 1) (e - eN (A 0) l) (by omega) (by omega) (by omega) (by rw [endsTo]; omega)
theorem m_legOf (hl : 46 ≤ h.length) (hN : 5 ≤ N) (w : wfR (A 0)) {e : Nat} (he : e < tE (A 0)) : f_X12_legOf N 27 (nI e) (mp h I A) = some (nI (lgOf (A 0) e)) := m_legOf_4 hl w 4 N 0 e (by omega) rfl (by omega) (by rw [endsTo]; exact he)
theorem m_arrowsOf_4 (hl : 46 ≤ h.length) (hN : 5 ≤ N) (w : wfR (A 0)) : ∀ (k n e : Nat), k < n → e + k ≤ tE (A 0) → f_X12_arrowsOf_4 N n 27 (nI (e + k)) (nI (aT (A 0) e)) (nI e) (mp h I A) = some (nI (aT (A 0) (e + k)))
  | 0, n + 1, e, _, _ => by
    rw [f_X12_arrowsOf_4]
    exact iT (Int32.le_refl _) rfl
  | k, 0, e, h0, _ => by omega
  | k + 1, n + 1, e, h0, h1 => by
    have h6 := tE_le w
    have h7 : e < tE (A 0) := by omega
    have h8 := lg_lt w h7
    have h9 := (wf_L w).2.2
    rw [f_X12_arrowsOf_4]
    refine iF (nI_ge (by omega) (by omega)) (bS (mg0 hl) (bS (mck hl) (bS (m_legOf hl hN w h7) (bS (a := nI (wN (A 0) (lgOf (A 0) e))) ?_ ?_))))
    · rw [lm_l, la_l, la_r, ml0 hl (by omega), show 2 + 3 * lgOf (A 0) e + 1 = 3 + 3 * lgOf (A 0) e by omega]
      exact congrArg some (wf_w w h8).1
    · rw [nI_add, la_r, show e + (k + 1) = e + 1 + k by omega]
      exact m_arrowsOf_4 hl hN w k n (e + 1) (by omega) (by omega)
/-- what n ends of an archer may be -/
def okE (D : Nat → Int32) (n : Nat) : Prop := n = 0 ∨ (wfR D ∧ n ≤ tE D)
theorem m_arrowsOf (hl : 46 ≤ h.length) (hN : 60 ≤ N) {n : Nat} (w : okE (A 0) n) : f_X12_arrowsOf N 27 (nI n) (mp h I A) = some (nI (aT (A 0) n)) := by
  rcases w with rfl | ⟨w, hn⟩
  · obtain ⟨m, rfl⟩ : ∃ m, N = m + 1 := ⟨N - 1, by omega⟩
    unfold f_X12_arrowsOf
    rw [f_X12_arrowsOf_4]
    exact iT (Int32.le_refl _) rfl
  · have h6 := tE_le w
    have h1 := m_arrowsOf_4 (I := I) hl (N := N) (by omega) w n N 0 (by omega) (by omega)
    rw [Nat.zero_add] at h1
    exact h1
theorem m_sum_6 (hl : 46 ≤ h.length) {a : Nat} (ha : a < 16) (i : Nat) : ∀ (k n m : Nat), k < n → i + m + k ≤ 288 → f_X12_sum_6 N n 27 (nI a) (nI (i + m + k)) (sN (fun j => A 0 (157 + 288 * a + j)) i m) (nI (i + m)) (mp h I A) = some (sN (fun j => A 0 (157 + 288 * a + j)) i (m + k))
  | 0, n + 1, m, _, _ => by
    rw [f_X12_sum_6]
    exact iT (Int32.le_refl _) rfl
  | k, 0, m, h0, _ => by omega
  | k + 1, n + 1, m, h0, h1 => by
    rw [f_X12_sum_6]
    refine iF (nI_ge (by omega) (by omega)) (bS (mg0 hl) (bS (a := A 0 (157 + 288 * a + (i + m))) ?_ ?_))
    · rw [lm_l, la_l, nI_add, ml0 hl (by omega)]
    · rw [la_r, show i + m + (k + 1) = i + (m + 1) + k by omega, show m + (k + 1) = m + 1 + k by omega]
      exact m_sum_6 hl ha i k n (m + 1) (by omega) (by omega)
theorem m_sum (hl : 46 ≤ h.length) (hN : 300 ≤ N) {a i k : Nat} (ha : a < 16) (hk : i + k ≤ 288) : f_X12_sum N 27 (nI a) (nI i) (nI (i + k)) (mp h I A) = some (sN (fun j => A 0 (157 + 288 * a + j)) i k) := by
  have h1 := m_sum_6 (N := N) (I := I) (A := A) hl ha i k N 0 (by omega) (by omega)
  rw [Nat.zero_add] at h1
  exact h1
end mends
theorem sN_split (f : Nat → Int32) (i k : Nat) : ∀ m : Nat, sN f i (k + m) = sN f i k + sN f (i + k) m
  | 0 => by rw [sN, Int32.add_zero]; rfl
  | m + 1 => by rw [← Nat.add_assoc, sN, sN_split f i k m, sN, Int32.add_assoc, Nat.add_assoc]
theorem sN_cg {f g : Nat → Int32} {i : Nat} : ∀ {k : Nat}, (∀ j, i ≤ j → j < i + k → f j = g j) → sN f i k = sN g i k
  | 0, _ => rfl
  | k + 1, h => by rw [sN, sN, sN_cg (k := k) (fun j h1 h2 => h j h1 (by omega)), h _ (by omega) (by omega)]
section cends
variable {H : zH} {F : Nat → Int32} {r sh a N : Nat}
theorem g_legOf_4 {L a4 : Nat} {f4 : Nat → Int32} {x0 x1 x2 x3 x6 x7 x8 x9 x10 : zV} (w : wfR F) (g0 : H[r]? = some (.inr (6, [x0, x1, x2, x3, zi (F 1), zr (some a4), x6, x7, x8, x9, x10]))) (g4 : H[a4]? = some (.inl (0, 4, .inl f4))) (hL : L = gL F) (z : ∀ l, l < L → f4 l = F (2 + 3 * l)) :
    ∀ (k n l e : Nat), k < n → l + k = 4 → l ≤ L → e < 2 ^ 31 → f_X6_legOf_4 N n r (nI e) (nI l) H = some (if e + endsTo F l < tE F then nI (lgGo F k l e) else -1) := by
  intro k
  induction k with
  | zero =>
    intro n l e h0 h1 h2 h3
    obtain ⟨n, rfl⟩ : ∃ m, n = m + 1 := ⟨n - 1, by omega⟩
    have h4 := (wf_L w).2.2
    have h5 : l = gL F := by omega
    rw [if_neg (by rw [tE_eq w, h5]; omega), f_X6_legOf_4]
    exact bS (fgI g0 rfl) (iT (by rw [(wf_L w).1, ← h5]; exact Int32.le_refl _) rfl)
  | succ k ih =>
    intro n l e h0 h1 h2 h3
    obtain ⟨n, rfl⟩ : ∃ m, n = m + 1 := ⟨n - 1, by omega⟩
    have h4 := (wf_L w).2.2
    rw [f_X6_legOf_4]
    by_cases h5 : l = L
    · rw [if_neg (by rw [tE_eq w, h5, hL]; omega)]
      exact bS (fgI g0 rfl) (iT (by rw [(wf_L w).1, ← hL, ← h5]; exact Int32.le_refl _) rfl)
    · obtain ⟨w1, w2, w3⟩ := wf_e w (l := l) (by omega)
      have hd : zld H 0 (some a4) (nI l) = some (nI (eN F l)) := by rw [fld_ g4 (by omega) (by omega), z l (by omega), w1]
      refine bS (fgI g0 rfl) (iF (by rw [(wf_L w).1]; exact nI_ge (by omega) (by omega)) (bS (fgR g0 rfl) (bS hd ?_)))
      by_cases h7 : e < eN F l
      · refine iF (nI_ge h7 (by omega)) ?_
        have h8 : endsTo F (l + 1) ≤ tE F := by
          rw [tE_eq w]
          have mn : ∀ m, endsTo F (l + 1) ≤ endsTo F (l + 1 + m) := by
            intro m
            induction m with
            | zero => exact Nat.le_refl _
            | succ m im => exact Nat.le_trans im (Nat.le_add_right _ _)
          have := mn (gL F - (l + 1))
          rw [show l + 1 + (gL F - (l + 1)) = gL F by omega] at this
          exact this
        rw [endsTo] at h8
        rw [if_pos (by omega), lgGo, if_pos h7]
      · refine iT ((nI_leI (by omega) h3).mpr (by omega)) (bS (fgR g0 rfl) (bS hd ?_))
        rw [pk_sub (by omega), la_r, ih n (l + 1) (e - eN F l) (by omega) (by omega) (by omega) (by omega), lgGo, if_neg h7, endsTo, show e - eN F l + (endsTo F l + eN F l) = e + endsTo F l by omega]
theorem g_legOf (w : rR H (some r) F) (hN : 5 ≤ N) {e : Nat} (he : e < 2 ^ 31) : f_X6_legOf N r (nI e) H = some (if e < tE F then nI (lgOf F e) else -1) := by
  obtain ⟨w, a1, a2, a3, a4, a5, a6, a7, a8, f1, f2, f3, f4, f5, f6, f7, f8, q0, q1, q2, q3, q4, q5, q6, q7, q8, z1, z2, z3, z4⟩ := w
  exact g_legOf_4 w q0.2 q4.2 rfl (fun l hl => (z2 l hl).1) 4 N 0 e (by omega) rfl (by omega) he
theorem g_arrowsOf (w : rR H (some r) F) {l : Nat} (hl : l < gL F) : f_X6_arrowsOf N r (nI l) H = some (nI (wN F l)) := by
  obtain ⟨w, a1, a2, a3, a4, a5, a6, a7, a8, f1, f2, f3, f4, f5, f6, f7, f8, q0, q1, q2, q3, q4, q5, q6, q7, q8, z1, z2, z3, z4⟩ := w
  have h4 := (wf_L w).2.2
  unfold f_X6_arrowsOf
  exact iF (nI_pos (by omega)) (bS (fgI q0.2 rfl) (iF (by rw [(wf_L w).1]; exact nI_ge (by omega) (by omega)) (bS (fgR q0.2 rfl) (bS (fld_ q5.2 (by omega) (by omega)) (by rw [(z2 l hl).2.1, (wf_w w hl).1])))))
theorem g_countEnds (w : rR H (some r) F) (hN : 5 ≤ N) : f_X6_countEnds N r H = some (nI (tE F)) := by
  obtain ⟨w, a1, a2, a3, a4, a5, a6, a7, a8, f1, f2, f3, f4, f5, f6, f7, f8, q0, q1, q2, q3, q4, q5, q6, q7, q8, z1, z2, z3, z4⟩ := w
  have h4 := (wf_L w).2.2
  have go : ∀ (k n l : Nat), k < n → l + k = gL F → f_X6_countEnds_4 N n r (nI (endsTo F l)) (nI l) H = some (nI (endsTo F (gL F))) := by
    intro k
    induction k with
    | zero =>
      intro n l h0 h1
      obtain ⟨n, rfl⟩ : ∃ m, n = m + 1 := ⟨n - 1, by omega⟩
      rw [f_X6_countEnds_4, show l = gL F by omega]
      exact bS (fgI q0.2 rfl) (iT (by rw [(wf_L w).1]; exact Int32.le_refl _) rfl)
    | succ k ih =>
      intro n l h0 h1
      obtain ⟨n, rfl⟩ : ∃ m, n = m + 1 := ⟨n - 1, by omega⟩
      rw [f_X6_countEnds_4]
      refine bS (fgI q0.2 rfl) (iF (by rw [(wf_L w).1]; exact nI_ge (by omega) (by omega)) (bS (fgR q0.2 rfl) (bS (fld_ q4.2 (by omega) (by omega)) ?_)))
      rw [(z2 l (by omega)).1, (wf_e w (l := l) (by omega)).1, nI_add, la_r, ← endsTo]
      exact ih n (l + 1) (by omega) (by omega)
  rw [tE_eq w]
  exact go (gL F) N 0 (by omega) (by omega)
theorem g_cEnds (w : shR H sh F a) {n : Nat} (hn : F (141 + a) = nI n) (h48 : n ≤ 48) : f_X8_countEnds N sh H = some (nI n) := by
  obtain ⟨b1, b2, b3, n', m, s1, s2, s3, q0, q1, q2, q3, z1, z2, z⟩ := w
  have : n' = n := (nI_eq (by omega) (by omega)).mp (z1.symm.trans hn)
  subst this
  exact bS (fgR q0.2 rfl) (bS (flen q1.2 (by omega)) rfl)
end cends
