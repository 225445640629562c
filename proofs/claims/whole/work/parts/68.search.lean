/-! ===== layout: the search, told once for both ===== -/
def adj (u p : Nat) : Prop := u / 2 = p / 2 ∨ ((u / 2 = p / 2 + 1 ∨ u / 2 + 1 = p / 2) ∧ u % 2 = p % 2)
def prt (cb : Nat → Int32) (i p : Nat) (W : Nat → Nat) : Prop := ∀ k, k < i → cb k = cb i → ¬ adj (W k) p
def fre (i p : Nat) (W : Nat → Nat) : Prop := ∀ k, k < i → W k ≠ p
def SQ (P A : Nat) (cb : Nat → Int32) : Nat → Nat → Nat → (Nat → Nat) → Nat → Int32 → (Nat → Nat) → Prop
  | 0, _, _, _, _, _, _ => False
  | n + 1, i, p, W, t, r, V =>
    (A ≤ i ∧ r = nI A ∧ V = W) ∨
    (i < A ∧ P ≤ p ∧ i = 0 ∧ r = -1) ∨
    (∃ i', i = i' + 1 ∧ i < A ∧ P ≤ p ∧ SQ P A cb n i' (W i' + 1) W t r V) ∨
    (i < A ∧ p < P ∧ ¬ fre i p W ∧ SQ P A cb n i (p + 1) W t r V) ∨
    (i < A ∧ p < P ∧ fre i p W ∧ 20000 ≤ t ∧ r = -2) ∨
    (i < A ∧ p < P ∧ fre i p W ∧ t < 20000 ∧ prt cb i p W ∧ SQ P A cb n (i + 1) 0 (va_up W i p) (t + 1) r V) ∨
    (i < A ∧ p < P ∧ fre i p W ∧ t < 20000 ∧ ¬ prt cb i p W ∧ SQ P A cb n i (p + 1) W (t + 1) r V)
def sI (P A i p : Nat) (W : Nat → Nat) (t : Nat) : Prop := i ≤ A ∧ p ≤ P ∧ (∀ k, k < i → W k < P) ∧ (∀ k k', k < k' → k' < i → W k ≠ W k') ∧ t ≤ 20000
def smW (P : Nat) (W : Nat → Nat) : Nat → Nat
  | 0 => 0
  | k + 1 => smW P W k + (P - W k)
theorem smW_cg {P : Nat} {W V : Nat → Nat} : ∀ {k : Nat}, (∀ j, j < k → W j = V j) → smW P W k = smW P V k
  | 0, _ => rfl
  | k + 1, h => by rw [smW, smW, smW_cg (k := k) (fun j hj => h j (by omega)), h k (by omega)]
section srch
variable {P A : Nat} {cb : Nat → Int32}
theorem sI.pop {i p t : Nat} {W : Nat → Nat} (w : sI P A (i + 1) p W t) : sI P A i (W i + 1) W t := by
  obtain ⟨w1, w2, w3, w4, w5⟩ := w
  exact ⟨by omega, by have := w3 i (by omega); omega, fun k hk => w3 k (by omega), fun k k' h1 h2 => w4 k k' h1 (by omega), w5⟩
theorem sI.next {i p t t' : Nat} {W : Nat → Nat} (w : sI P A i p W t) (hp : p < P) (ht : t' ≤ 20000) : sI P A i (p + 1) W t' := by
  obtain ⟨w1, w2, w3, w4, w5⟩ := w
  exact ⟨w1, by omega, w3, w4, ht⟩
theorem sI.put {i p t : Nat} {W : Nat → Nat} (w : sI P A i p W t) (hi : i < A) (hp : p < P) (hf : fre i p W) (ht : t < 20000) : sI P A (i + 1) 0 (va_up W i p) (t + 1) := by
  obtain ⟨w1, w2, w3, w4, w5⟩ := w
  refine ⟨by omega, by omega, fun k hk => ?_, fun k k' h1 h2 => ?_, by omega⟩
  · by_cases hki : k = i
    · subst hki; rw [vu_at]; exact hp
    · rw [vu_ne _ _ hki]; exact w3 k (by omega)
  · rw [vu_ne _ _ (show k ≠ i by omega)]
    by_cases hki : k' = i
    · subst hki; rw [vu_at]; exact hf k h1
    · rw [vu_ne _ _ hki]; exact w4 k k' h1 (by omega)
theorem SQ_tot (hP : P ≤ 16) : ∀ (m i p : Nat) (W : Nat → Nat) (t : Nat), sI P A i p W t → (20000 - t) * 40 + (P - p) + smW P W i < m → ∃ r V, SQ P A cb m i p W t r V := by
  intro m
  induction m with
  | zero => intro i p W t _ h; omega
  | succ m ih =>
    intro i p W t w h
    obtain ⟨w1, w2, w3, w4, w5⟩ := id w
    by_cases hi : A ≤ i
    · exact ⟨_, _, Or.inl ⟨hi, rfl, rfl⟩⟩
    have hi : i < A := by omega
    by_cases hp : P ≤ p
    · cases i with
      | zero => exact ⟨-1, W, Or.inr (Or.inl ⟨hi, hp, rfl, rfl⟩)⟩
      | succ i =>
        have h3 := w3 i (by omega)
        obtain ⟨r, V, e⟩ := ih i (W i + 1) W t w.pop (by rw [smW] at h; omega)
        exact ⟨r, V, Or.inr (Or.inr (Or.inl ⟨i, rfl, hi, hp, e⟩))⟩
    have hp : p < P := by omega
    by_cases hf : fre i p W
    · by_cases ht : 20000 ≤ t
      · exact ⟨-2, W, Or.inr (Or.inr (Or.inr (Or.inr (Or.inl ⟨hi, hp, hf, ht, rfl⟩))))⟩
      have ht : t < 20000 := by omega
      by_cases hc : prt cb i p W
      · obtain ⟨r, V, e⟩ := ih (i + 1) 0 (va_up W i p) (t + 1) (w.put hi hp hf ht) (by
          rw [smW, vu_at, smW_cg (V := W) (fun j hj => vu_ne _ _ (by omega))]
          omega)
        exact ⟨r, V, Or.inr (Or.inr (Or.inr (Or.inr (Or.inr (Or.inl ⟨hi, hp, hf, ht, hc, e⟩)))))⟩
      · obtain ⟨r, V, e⟩ := ih i (p + 1) W (t + 1) (w.next hp (by omega)) (by omega)
        exact ⟨r, V, Or.inr (Or.inr (Or.inr (Or.inr (Or.inr (Or.inr ⟨hi, hp, hf, ht, hc, e⟩)))))⟩
    · obtain ⟨r, V, e⟩ := ih i (p + 1) W t (w.next hp w5) (by omega)
      exact ⟨r, V, Or.inr (Or.inr (Or.inr (Or.inl ⟨hi, hp, hf, e⟩)))⟩
end srch
/-! the archers by number -/
def cA (D : Nat → Int32) : Nat → Nat
  | 0 => 0
  | b + 1 => if D (125 + b) = -1 then cA D b else cA D b + 1
def nuA (D : Nat → Int32) : Nat → Nat → Nat
  | 0 => fun _ => 0
  | b + 1 => if D (125 + b) = -1 then nuA D b else va_up (nuA D b) (cA D b) b
theorem cA_le (D : Nat → Int32) : ∀ b, cA D b ≤ b
  | 0 => Nat.le_refl _
  | b + 1 => by have := cA_le D b; rw [cA]; split <;> omega
theorem nuA_1 (D : Nat → Int32) : ∀ b k, k < cA D b → nuA D b k < b ∧ D (125 + nuA D b k) ≠ -1
  | 0, k, h => by rw [cA] at h; omega
  | b + 1, k, h => by
    rw [cA] at h
    rw [nuA]
    by_cases hd : D (125 + b) = -1
    · rw [if_pos hd] at h ⊢
      have := nuA_1 D b k h
      exact ⟨by omega, this.2⟩
    · rw [if_neg hd] at h ⊢
      by_cases hk : k = cA D b
      · subst hk; rw [vu_at]; exact ⟨by omega, hd⟩
      · rw [vu_ne _ _ hk]
        have := nuA_1 D b k (by omega)
        exact ⟨by omega, this.2⟩
theorem nuA_2 (D : Nat → Int32) : ∀ b k k', k < k' → k' < cA D b → nuA D b k ≠ nuA D b k'
  | 0, k, k', _, h => by rw [cA] at h; omega
  | b + 1, k, k', h1, h => by
    rw [cA] at h
    rw [nuA]
    by_cases hd : D (125 + b) = -1
    · rw [if_pos hd] at h ⊢
      exact nuA_2 D b k k' h1 h
    · rw [if_neg hd] at h ⊢
      rw [vu_ne _ _ (show k ≠ cA D b by omega)]
      by_cases hk : k' = cA D b
      · subst hk; rw [vu_at]
        have := (nuA_1 D b k (by omega)).1
        omega
      · rw [vu_ne _ _ hk]
        exact nuA_2 D b k k' h1 (by omega)
theorem nuA_3 (D : Nat → Int32) : ∀ b a, a < b → D (125 + a) ≠ -1 → ∃ k, k < cA D b ∧ nuA D b k = a
  | 0, a, h, _ => by omega
  | b + 1, a, h, hd => by
    rw [cA, nuA]
    by_cases hb : D (125 + b) = -1
    · rw [if_pos hb, if_pos hb]
      have hab : a ≠ b := fun z => hd (by rw [z]; exact hb)
      exact nuA_3 D b a (by omega) hd
    · rw [if_neg hb, if_neg hb]
      by_cases hab : a = b
      · exact ⟨cA D b, by omega, by rw [vu_at, hab]⟩
      · obtain ⟨k, k1, k2⟩ := nuA_3 D b a (by omega) hd
        exact ⟨k, by omega, by rw [vu_ne _ _ (by omega)]; exact k2⟩
