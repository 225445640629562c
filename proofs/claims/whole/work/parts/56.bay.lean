/-! ===== bay ===== -/
def fillF (f : Nat → Int32) (a k : Nat) (v : Int32) : Nat → Int32 := fun p => if a ≤ p ∧ p < a + k then v else f p
theorem ff_in (f : Nat → Int32) {a k p : Nat} (v : Int32) (h : a ≤ p ∧ p < a + k) : fillF f a k v p = v := if_pos h
theorem ff_out (f : Nat → Int32) {a k p : Nat} (v : Int32) (h : ¬ (a ≤ p ∧ p < a + k)) : fillF f a k v p = f p := if_neg h
theorem ff_0 (f : Nat → Int32) (a : Nat) (v : Int32) : fillF f a 0 v = f := by
  funext p; exact ff_out _ _ (by omega)
theorem ff_up (f : Nat → Int32) (a k : Nat) (v : Int32) : upd (fillF f a k v) (a + k) v = fillF f a (k + 1) v := by
  funext p
  by_cases h : p = a + k
  · subst h; rw [up_at, ff_in _ _ (by omega)]
  · rw [up_ne _ _ h]
    by_cases h2 : a ≤ p ∧ p < a + k
    · rw [ff_in _ _ h2, ff_in _ _ (by omega)]
    · rw [ff_out _ _ h2, ff_out _ _ (by omega)]
theorem seg_ff0 (d : Nat → Int32) {a k : Nat} (v : Int32) (h : a + k ≤ 6898) : seg (fillF d a k v) 0 = fillF (seg d 0) a k v := by
  funext p
  by_cases h6 : p < 6898
  · rw [seg_lo _ h6]
    by_cases h2 : a ≤ p ∧ p < a + k
    · rw [ff_in _ _ h2, ff_in _ _ h2]
    · rw [ff_out _ _ h2, ff_out _ _ h2, seg_lo _ h6]
  · rw [ff_out _ _ (by omega)]
    unfold seg
    rw [if_neg h6, if_neg h6]
theorem seg_ffi (d : Nat → Int32) {a k i : Nat} (v : Int32) (h : a + k ≤ 6898) (hi : 1 ≤ i) : seg (fillF d a k v) i = seg d i := seg_ext (fun j hj => ff_out _ _ (by omega))
theorem set_id {α : Type} {l : List α} {i : Nat} {e : α} (h : l[i]? = some e) : l.set i e = l := by
  apply List.ext_getElem?
  intro k
  rw [List.getElem?_set]
  by_cases hk : i = k
  · subst hk
    rw [if_pos rfl, if_pos (List.getElem?_eq_some_iff.mp h).1, h]
  · rw [if_neg hk]
section fills
variable {h : zH} {ns : List zE} {KI : Nat → Int32} {KR : Nat → Option Nat} {KA : Nat → Nat → Int32} {KP : Nat → Option Nat} {i L N : Nat} {f : Nat → Int32} {x : Int32}
theorem n_fill (hl : 46 ≤ h.length) (hi : ns[i]? = some (.inl (0, L, .inl f))) (hL : L < N) (hN : L < 2 ^ 31) : f_J7_fill_53178 N (some (h.length + i)) x (cp (h ++ ns) KI KR KA KP) = some (cp (h ++ ns.set i (.inl (0, L, .inl (fillF f 0 L x)))) KI KR KA KP) := by
  have hlt := (List.getElem?_eq_some_iff.mp hi).1
  have go : ∀ (k b fuel : Nat), b + k = L → k < fuel → f_J7_fill_53178_5 N fuel (some (h.length + i)) x (nI b) (nI L) (cp (h ++ ns.set i (.inl (0, L, .inl (fillF f 0 b x)))) KI KR KA KP) = some (cp (h ++ ns.set i (.inl (0, L, .inl (fillF f 0 L x)))) KI KR KA KP) := by
    intro k
    induction k with
    | zero =>
      intro b fuel h1 h2
      obtain ⟨fuel, rfl⟩ : ∃ m, fuel = m + 1 := ⟨fuel - 1, by omega⟩
      rw [f_J7_fill_53178_5, show b = L by omega]
      exact iT (Int32.le_refl _) rfl
    | succ k ih =>
      intro b fuel h1 h2
      obtain ⟨fuel, rfl⟩ : ∃ m, fuel = m + 1 := ⟨fuel - 1, by omega⟩
      rw [f_J7_fill_53178_5]
      refine iF (nI_ge (by omega) (by omega)) (bS (n_st hl (i := i) (List.getElem?_set_self hlt) (by omega) hN) ?_)
      have e := ff_up f 0 b x
      rw [Nat.zero_add] at e
      rw [List.set_set, e, la_r]
      exact ih (b + 1) fuel (by omega) (by omega)
  unfold f_J7_fill_53178
  refine bS (n_ln hl hi (by omega)) ?_
  have h1 := go L 0 N (by omega) (by omega)
  rw [ff_0, set_id hi] at h1
  exact h1
end fills
/-- d behind k new lanes -/
def bayF (D : Nat → Int32) (n k : Nat) (b : Int32) : Nat → Int32 := upd (fillF (fillF D (6865 + n) k b) (6873 + n) k 0) 6864 (nI (n + k))
theorem bayF_0 {D : Nat → Int32} {n : Nat} {b : Int32} (h : D 6864 = nI n) : bayF D n 0 b = D := by
  unfold bayF
  rw [ff_0, ff_0]
  funext p
  by_cases hp : p = 6864
  · subst hp; rw [up_at, h]; rfl
  · rw [up_ne _ _ hp]
theorem bayF_up (D : Nat → Int32) {n k : Nat} (b : Int32) (h : n + k < 8) : upd (upd (upd (bayF D n k b) (6865 + (n + k)) b) (6873 + (n + k)) 0) 6864 (nI (n + k + 1)) = bayF D n (k + 1) b := by
  unfold bayF
  rw [← ff_up, ← ff_up]
  funext p
  by_cases h1 : p = 6864
  · subst h1; rw [up_at, up_at]; rfl
  rw [up_ne _ _ h1, up_ne _ _ h1]
  by_cases h2 : p = 6873 + (n + k)
  · rw [h2, up_at, show 6873 + (n + k) = 6873 + n + k by omega, up_at]
  · rw [up_ne _ _ h2, up_ne _ _ (show p ≠ 6873 + n + k by omega)]
    by_cases h3 : p = 6865 + (n + k)
    · rw [h3, up_at, ff_out _ _ (by omega), show 6865 + (n + k) = 6865 + n + k by omega, up_at]
    · rw [up_ne _ _ h3, up_ne _ _ h1]
      by_cases h4 : 6873 + n ≤ p ∧ p < 6873 + n + k
      · rw [ff_in _ _ h4, ff_in _ _ h4]
      · rw [ff_out _ _ h4, ff_out _ _ h4, up_ne _ _ (show p ≠ 6865 + n + k by omega)]
section mbay
variable {h : zH} {I : Nat → Int32} {A : Nat → Nat → Int32} {N n m : Nat} {bv : Int32} {D : Nat → Int32}
theorem m_bay_131 (hl : 46 ≤ h.length) : ∀ (k b fuel : Nat), b + k = 16 → k < fuel → f_X12_bay_131 N fuel 27 (nI b) (mp h I (va_up A 0 (fillF D 6881 b (-1)))) = some (D 6864, mp h I (va_up A 0 (fillF D 6881 16 (-1)))) := by
  intro k
  induction k with
  | zero =>
    intro b fuel h1 h2
    obtain ⟨fuel, rfl⟩ : ∃ m, fuel = m + 1 := ⟨fuel - 1, by omega⟩
    rw [f_X12_bay_131, show b = 16 by omega]
    refine iT (by decide) (bS (mg0 hl) (bS (ml0L hl 6864 (by decide)) ?_))
    rw [vu_at, ff_out _ _ (by decide)]
  | succ k ih =>
    intro b fuel h1 h2
    obtain ⟨fuel, rfl⟩ : ∃ m, fuel = m + 1 := ⟨fuel - 1, by omega⟩
    rw [f_X12_bay_131]
    refine iF (nI_ge (b := 16) (by omega) (by omega)) (bS (mg0 hl) ?_)
    rw [la_l, ms0 hl (by omega), Option.bind_some, bx_uu, vu_at, ff_up, la_r]
    exact ih (b + 1) fuel (by omega) (by omega)
theorem m_bay_70 (hl : 46 ≤ h.length) (hN : 100 ≤ N) (hnm : n + m ≤ 8) : ∀ (k b fuel : Nat), b + k = m → k < fuel → f_X12_bay_70 N fuel 27 (nI m) bv (nI b) (mp h I (va_up A 0 (bayF D n b bv))) = some (nI (n + m), mp h I (va_up A 0 (fillF (bayF D n m bv) 6881 16 (-1)))) := by
  intro k
  induction k with
  | zero =>
    intro b fuel h1 h2
    obtain ⟨fuel, rfl⟩ : ∃ m, fuel = m + 1 := ⟨fuel - 1, by omega⟩
    rw [f_X12_bay_70, show b = m by omega]
    refine iT (Int32.le_refl _) ?_
    have h3 := m_bay_131 (N := N) (I := I) (A := A) (D := bayF D n m bv) hl 16 0 N (by omega) (by omega)
    rw [ff_0] at h3
    rw [show nI (n + m) = bayF D n m bv 6864 from (up_at _ _ _).symm]
    exact h3
  | succ k ih =>
    intro b fuel h1 h2
    obtain ⟨fuel, rfl⟩ : ∃ m, fuel = m + 1 := ⟨fuel - 1, by omega⟩
    rw [f_X12_bay_70]
    refine iF (nI_ge (by omega) (by omega)) ?_
    have e0 : bayF D n b bv 6864 = nI (n + b) := up_at _ _ _
    simp (disch := omega) only [mg0 hl, ml0L hl, ms0L hl, ms0 hl, la_l, la_r, Option.bind_some, bx_uu, vu_at, up_ne, e0]
    rw [bayF_up _ _ (by omega)]
    exact ih (b + 1) fuel (by omega) (by omega)
end mbay
section cbay
variable {h : zH} {KI : Nat → Int32} {KR : Nat → Option Nat} {KA : Nat → Nat → Int32} {KP : Nat → Option Nat} {N n m : Nat} {bv : Int32} {f1 f2 : Nat → Int32} {S R : zE}
theorem g_wb61 (hl : 46 ≤ h.length) (hN : 100 ≤ N) (hnm : n + m ≤ 8) : ∀ (k b fuel : Nat), b + k = m → k < fuel →
    f_X2_withBay_61 N fuel (nI m) (nI n) bv (some (h.length + 2)) (some (h.length + 3)) (nI (n + b)) (cp (h ++ [S, R, .inl (0, n + m, .inl (fillF f1 n b bv)), .inl (0, n + m, .inl (fillF f2 n b 0))]) KI KR KA KP) = some (some (h.length + 5), cp (h ++ [S, R, .inl (0, n + m, .inl (fillF f1 n m bv)), .inl (0, n + m, .inl (fillF f2 n m 0)), .inl (0, (n + m) * 2, .inl (fillF (fun _ => 0) 0 ((n + m) * 2) (-1))), .inr (2, [zr (some (h.length + 2)), zr (some (h.length + 3)), zr (some (h.length + 4))])]) KI KR KA KP) := by
  intro k
  induction k with
  | zero =>
    intro b fuel h1 h2
    obtain ⟨fuel, rfl⟩ : ∃ m, fuel = m + 1 := ⟨fuel - 1, by omega⟩
    rw [f_X2_withBay_61, show b = m by omega, nI_add, lm_r]
    exact iT (Int32.le_refl _) (n_na hl (k := (n + m) * 2) (by omega) 4 rfl (bS (n_fill hl (i := 4) rfl (by omega) (by omega)) (nS hl 5 rfl (bS (bS (n_u hl (i := 5) rfl (Nat.le_of_ble_eq_true rfl)) (bS (n_u hl (i := 5) rfl (Nat.le_of_ble_eq_true rfl)) (bS (n_u hl (i := 5) rfl (Nat.le_of_ble_eq_true rfl)) rfl))) rfl))))
  | succ k ih =>
    intro b fuel h1 h2
    obtain ⟨fuel, rfl⟩ : ∃ m, fuel = m + 1 := ⟨fuel - 1, by omega⟩
    rw [f_X2_withBay_61, nI_add]
    refine iF (nI_ge (by omega) (by omega)) (bS (n_st hl (i := 2) rfl (by omega) (by omega)) (bS (n_st hl (i := 3) rfl (by omega) (by omega)) ?_))
    rw [la_r, ff_up, ff_up]
    exact ih (b + 1) fuel (by omega) (by omega)
end cbay
