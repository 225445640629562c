/-! ===== the model's keeps and undo ===== -/
theorem vu_self {α : Type} (f : Nat → α) (k : Nat) : va_up f k (f k) = f := by
  funext j
  unfold va_up
  split
  · next h => rw [h]
  · rfl
theorem vu_at {α : Type} (f : Nat → α) (k : Nat) (v : α) : va_up f k v k = v := by simp [va_up]
theorem vu_ne {α : Type} (f : Nat → α) {k j : Nat} (v : α) (h : j ≠ k) : va_up f k v j = f j := by simp [va_up, h]
theorem up_at (f : Nat → Int32) (k : Nat) (v : Int32) : upd f k v k = v := pk_us
theorem up_ne (f : Nat → Int32) {k j : Nat} (v : Int32) (h : j ≠ k) : upd f k v j = f j := pk_un h
/-- the first k entries of d, copied to segment c -/
def cpD (d : Nat → Int32) (c k : Nat) : Nat → Int32 := fun j => if c * 6898 ≤ j ∧ j < c * 6898 + k then d (j - c * 6898) else d j
/-- segments 2 .. 4 come to 1 .. 3, up to place k -/
def shD (d : Nat → Int32) (k : Nat) : Nat → Int32 := fun j => if 6898 ≤ j ∧ j < k then d (j + 6898) else d j
/-- segment c comes back, its first k entries -/
def bkD (d : Nat → Int32) (c k : Nat) : Nat → Int32 := fun j => if j < k then d (c * 6898 + j) else d j
section mkeeps
variable {h : zH} {N : Nat}
theorem m_keeps_58 (hl : 46 ≤ h.length) {I : Nat → Int32} {c : Nat} (hc : 1 ≤ c) (hc4 : c ≤ 4) (hI : I 1 = nI c) (d : Nat → Int32) : ∀ (m k n : Nat) (A : Nat → Nat → Int32), 6898 - k = m → k ≤ 6898 → m < n → A 0 = cpD d c k →
    f_X12_keeps_58 N n 27 (nI k) (mp h I A) = some (mp h I (va_up A 0 (cpD d c 6898))) := by
  intro m
  induction m with
  | zero =>
    intro k n A h1 h2 h3 hA
    have hk : k = 6898 := by omega
    subst hk
    obtain ⟨n, rfl⟩ : ∃ n', n = n' + 1 := ⟨n - 1, by omega⟩
    rw [f_X12_keeps_58, if_pos (show (6898 : Int32) ≤ nI 6898 from nI_le (a := 6898) (Nat.le_refl _) (by omega)), ← hA, vu_self]
  | succ m ih =>
    intro k n A h1 h2 h3 hA
    obtain ⟨n, rfl⟩ : ∃ n', n = n' + 1 := ⟨n - 1, by omega⟩
    have e1 : I 1 * (6898 : Int32) + nI k = nI (c * 6898 + k) := by
      rw [hI, nlit, pk_mul, nI_add]
    rw [f_X12_keeps_58, if_neg (show ¬ (6898 : Int32) ≤ nI k from nI_ge (b := 6898) (by omega) (by omega))]
    simp only [mg0 hl, mg1 hl, Option.bind_some, e1]
    rw [ml0 hl (by omega), Option.bind_some, ms0 hl (by omega), Option.bind_some, nI_1]
    rw [ih (k + 1) n _ (by omega) (by omega) (by omega) ?_, bx_uu]
    rw [vu_at, hA]
    funext j
    by_cases hj : j = c * 6898 + k
    · subst hj
      rw [up_at]
      unfold cpD
      rw [if_neg (by omega), if_pos (by omega)]
      congr 1
      omega
    · rw [up_ne _ _ hj]
      unfold cpD
      by_cases h5 : c * 6898 ≤ j ∧ j < c * 6898 + k
      · rw [if_pos h5, if_pos (by omega)]
      · rw [if_neg h5, if_neg (by omega)]
theorem m_keeps_46 (hl : 46 ≤ h.length) (hN : 7000 ≤ N) {I : Nat → Int32} {A : Nat → Nat → Int32} {c : Nat} (hc4 : c < 4) (hI : I 1 = nI c) : f_X12_keeps_46 N 27 (mp h I A) = some (mp h (upd I 1 (nI (c + 1))) (va_up A 0 (cpD (A 0) (c + 1) 6898))) := by
  unfold f_X12_keeps_46
  simp only [mg1 hl, Option.bind_some]
  rw [mu1 hl, Option.bind_some, hI, nI_1]
  exact m_keeps_58 hl (by omega) (by omega) (up_at _ _ _) (A 0) 6898 0 N A (by omega) (by omega) (by omega) (by funext j; unfold cpD; rw [if_neg (by omega)])
theorem m_keeps_12 (hl : 46 ≤ h.length) (hN : 21000 ≤ N) {I : Nat → Int32} (d : Nat → Int32) : ∀ (m k n : Nat) (A : Nat → Nat → Int32), 27592 - k = m → 6898 ≤ k → k ≤ 27592 → m < n → A 0 = shD d k →
    f_X12_keeps_12 N n 27 (nI k) (mp h I A) = some (mp h (upd (upd I 1 3) 1 (nI 4)) (va_up A 0 (cpD (shD d 27592) 4 6898))) := by
  intro m
  induction m with
  | zero =>
    intro k n A h1 h0 h2 h3 hA
    have hk : k = 27592 := by omega
    subst hk
    obtain ⟨n, rfl⟩ : ∃ n', n = n' + 1 := ⟨n - 1, by omega⟩
    rw [f_X12_keeps_12, if_pos (show (27592 : Int32) ≤ nI 27592 from nI_le (a := 27592) (Nat.le_refl _) (by omega)), mu1 hl, Option.bind_some]
    rw [m_keeps_46 (N := N) (I := upd I 1 3) (A := A) hl (by omega) (c := 3) (by omega) (up_at _ _ _), hA]
  | succ m ih =>
    intro k n A h1 h0 h2 h3 hA
    obtain ⟨n, rfl⟩ : ∃ n', n = n' + 1 := ⟨n - 1, by omega⟩
    have e1 : nI k + (6898 : Int32) = nI (k + 6898) := by rw [nlit, nI_add]
    rw [f_X12_keeps_12, if_neg (show ¬ (27592 : Int32) ≤ nI k from nI_ge (b := 27592) (by omega) (by omega))]
    simp only [mg0 hl, Option.bind_some, e1]
    rw [ml0 hl (by omega), Option.bind_some, ms0 hl (by omega), Option.bind_some, nI_1]
    rw [ih (k + 1) n _ (by omega) (by omega) (by omega) (by omega) ?_, bx_uu]
    rw [vu_at, hA]
    funext j
    by_cases hj : j = k
    · subst hj
      rw [up_at]
      unfold shD
      rw [if_neg (by omega), if_pos (by omega)]
    · rw [up_ne _ _ hj]
      unfold shD
      by_cases h5 : 6898 ≤ j ∧ j < k
      · rw [if_pos h5, if_pos (by omega)]
      · rw [if_neg h5, if_neg (by omega)]
/-- what keeps() makes of d and of the number of changes -/
def kpD (d : Nat → Int32) (c : Nat) : Nat → Int32 := if c = 4 then cpD (shD d 27592) 4 6898 else cpD d (c + 1) 6898
def kpC (c : Nat) : Nat := if c = 4 then 4 else c + 1
theorem upd2 (f : Nat → Int32) (k : Nat) (a b : Int32) : upd (upd f k a) k b = upd f k b := by
  funext j
  by_cases hj : j = k
  · subst hj; rw [up_at, up_at]
  · rw [up_ne _ _ hj, up_ne _ _ hj, up_ne _ _ hj]
theorem m_keeps (hl : 46 ≤ h.length) (hN : 21000 ≤ N) {I : Nat → Int32} {A : Nat → Nat → Int32} {c : Nat} (hc4 : c ≤ 4) (hI : I 1 = nI c) : f_X12_keeps N 27 (mp h I A) = some (mp h (upd I 1 (nI (kpC c))) (va_up A 0 (kpD (A 0) c))) := by
  unfold f_X12_keeps
  simp only [mg1 hl, Option.bind_some]
  by_cases h4 : c = 4
  · subst h4
    rw [if_pos (show I 1 = (4 : Int32) from hI), show (6898 : Int32) = nI 6898 from rfl, m_keeps_12 hl hN (A 0) 20694 6898 N A (by omega) (by omega) (by omega) (by omega) (by funext j; unfold shD; rw [if_neg (by omega)]), upd2]
    rfl
  · rw [if_neg (show ¬ I 1 = (4 : Int32) from by rw [hI]; exact fun q => h4 ((nI_eq (a := c) (b := 4) (by omega) (by omega)).mp q)), m_keeps_46 hl (by omega) (by omega) hI]
    simp only [kpC, kpD, if_neg h4]
end mkeeps
section mundo
variable {h : zH} {N : Nat}
theorem m_undo_11 (hl : 46 ≤ h.length) {I : Nat → Int32} {c : Nat} (hc4 : c + 1 ≤ 4) (hI : I 1 = nI (c + 1)) (d : Nat → Int32) : ∀ (m k n : Nat) (A : Nat → Nat → Int32), 6898 - k = m → k ≤ 6898 → m < n → A 0 = bkD d (c + 1) k →
    f_X12_undo_11 N n 27 (nI k) (mp h I A) = some (nI c, mp h (upd I 1 (nI c)) (va_up A 0 (bkD d (c + 1) 6898))) := by
  intro m
  induction m with
  | zero =>
    intro k n A h1 h2 h3 hA
    have hk : k = 6898 := by omega
    subst hk
    obtain ⟨n, rfl⟩ : ∃ n', n = n' + 1 := ⟨n - 1, by omega⟩
    have e1 : I 1 - 1 = nI c := by rw [hI]; exact nI_pred c
    rw [f_X12_undo_11, if_pos (show (6898 : Int32) ≤ nI 6898 from nI_le (a := 6898) (Nat.le_refl _) (by omega)), ← hA, vu_self, mg1 hl, Option.bind_some, e1, mu1 hl, Option.bind_some, mg1 hl, Option.bind_some, up_at]
  | succ m ih =>
    intro k n A h1 h2 h3 hA
    obtain ⟨n, rfl⟩ : ∃ n', n = n' + 1 := ⟨n - 1, by omega⟩
    have e1 : I 1 * (6898 : Int32) + nI k = nI ((c + 1) * 6898 + k) := by
      rw [hI, nlit, pk_mul, nI_add]
    rw [f_X12_undo_11, if_neg (show ¬ (6898 : Int32) ≤ nI k from nI_ge (b := 6898) (by omega) (by omega))]
    simp only [mg0 hl, mg1 hl, Option.bind_some, e1]
    rw [ml0 hl (by omega), Option.bind_some, ms0 hl (by omega), Option.bind_some, nI_1]
    rw [ih (k + 1) n _ (by omega) (by omega) (by omega) ?_, bx_uu]
    rw [vu_at, hA]
    funext j
    by_cases hj : j = k
    · subst hj
      rw [up_at]
      unfold bkD
      rw [if_neg (by omega), if_pos (by omega)]
    · rw [up_ne _ _ hj]
      unfold bkD
      by_cases h5 : j < k
      · rw [if_pos h5, if_pos (by omega)]
      · rw [if_neg h5, if_neg (by omega)]
theorem m_undo_0 (hl : 46 ≤ h.length) {I : Nat → Int32} {A : Nat → Nat → Int32} (hI : I 1 = nI 0) : f_X12_undo N 27 (mp h I A) = some (-1, mp h I A) := by
  unfold f_X12_undo
  simp only [mg1 hl, Option.bind_some]
  rw [if_pos (show I 1 = (0 : Int32) from hI)]
theorem m_undo (hl : 46 ≤ h.length) (hN : 7000 ≤ N) {I : Nat → Int32} {A : Nat → Nat → Int32} {c : Nat} (hc4 : c + 1 ≤ 4) (hI : I 1 = nI (c + 1)) : f_X12_undo N 27 (mp h I A) = some (nI c, mp h (upd I 1 (nI c)) (va_up A 0 (bkD (A 0) (c + 1) 6898))) := by
  unfold f_X12_undo
  simp only [mg1 hl, Option.bind_some]
  rw [if_neg (show ¬ I 1 = (0 : Int32) from by rw [hI]; exact fun q => absurd ((nI_eq (a := c + 1) (b := 0) (by omega) (by omega)).mp q) (by omega))]
  exact m_undo_11 hl hc4 hI (A 0) 6898 0 N A (by omega) (by omega) (by omega) (by funext j; unfold bkD; rw [if_neg (by omega)])
end mundo
