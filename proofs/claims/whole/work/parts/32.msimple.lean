/-! ===== the model's short calls ===== -/
theorem la_l (n j : Nat) : (no_index (OfNat.ofNat n) : Int32) + nI j = nI (OfNat.ofNat n + j) := nI_add _ _
theorem la_r (n j : Nat) : nI j + (no_index (OfNat.ofNat n) : Int32) = nI (j + OfNat.ofNat n) := nI_add _ _
theorem lm_l (n j : Nat) : (no_index (OfNat.ofNat n) : Int32) * nI j = nI (OfNat.ofNat n * j) := pk_mul _ _
theorem lm_r (n j : Nat) : nI j * (no_index (OfNat.ofNat n) : Int32) = nI (j * OfNat.ofNat n) := pk_mul _ _
theorem ls_r {n j : Nat} (h : OfNat.ofNat n ≤ j) : nI j - (no_index (OfNat.ofNat n) : Int32) = nI (j - OfNat.ofNat n) := pk_sub h
section mlit
variable {h : zH} {I : Nat → Int32} {A : Nat → Nat → Int32}
theorem ml0L (hl : 46 ≤ h.length) (n : Nat) (hj : OfNat.ofNat n < 34490) : zld (mp h I A) 0 (some 28) (no_index (OfNat.ofNat n)) = some (A 0 (OfNat.ofNat n)) := ml0 hl hj
theorem ms0L (hl : 46 ≤ h.length) (n : Nat) (hj : OfNat.ofNat n < 34490) (x : Int32) : zst (mp h I A) 0 (some 28) (no_index (OfNat.ofNat n)) x = some (mp h I (va_up A 0 (upd (A 0) (OfNat.ofNat n) x))) := ms0 hl hj x
/-- the archer of a number -/
def pA (d : Nat → Int32) (a : Int32) : Option Nat := if a < 0 then none else if 16 ≤ a then none else if d (125 + a.toNatClampNeg) = -1 then none else some a.toNatClampNeg
theorem pA_some {d : Nat → Int32} {a : Int32} {j : Nat} (e : pA d a = some j) : j < 16 ∧ a = nI j ∧ d (125 + j) ≠ -1 := by
  unfold pA at e
  rcases pk_ix a (n := 16) (by omega) with h1 | h1 | ⟨i, hi, rfl⟩
  · rw [if_pos h1] at e; cases e
  · rw [if_neg (fun q => ?_), if_pos (show (16 : Int32) ≤ a from h1)] at e
    · cases e
    · have h2 : nI 16 < nI 0 := Int32.lt_of_le_of_lt h1 q
      exact absurd h2 (nI_nlt (by omega) (by omega))
  · rw [if_neg (nI_pos (by omega)), if_neg (show ¬ (16 : Int32) ≤ nI i from nI_ge (b := 16) (by omega) (by omega)), nI_clamp (by omega)] at e
    split at e
    · cases e
    · next h3 => cases e; exact ⟨hi, rfl, h3⟩
theorem m_isArcher (hl : 46 ≤ h.length) (N : Nat) (a : Int32) : f_X12_isArcher N 27 a (mp h I A) = some (if (pA (A 0) a).isSome then 1 else 0) := by
  unfold f_X12_isArcher pA
  rcases pk_ix a (n := 16) (by omega) with h1 | h1 | ⟨i, hi, rfl⟩
  · simp [h1]
  · by_cases h2 : a < 0
    · simp [h2]
    · rw [if_neg h2, if_neg h2, if_pos (show (16 : Int32) ≤ a from h1), if_pos (show (16 : Int32) ≤ a from h1)]
      rfl
  · have e1 : ¬ (16 : Int32) ≤ nI i := nI_ge (b := 16) (by omega) (by omega)
    have e2 : ¬ nI i < 0 := nI_pos (by omega)
    rw [if_neg e2, if_neg e1, if_neg e2, if_neg e1, nI_clamp (by omega)]
    simp (disch := omega) only [mg0 hl, ml0 hl, la_l, Option.bind_some]
    split
    · rfl
    · rfl
end mlit
section mops
variable {h : zH} {I : Nat → Int32} {A : Nat → Nat → Int32} {N c : Nat}
/-- d behind a change, with c changes before, is w of what keeps() leaves -/
theorem m_leave0 (hl : 46 ≤ h.length) {a : Int32} (ha : pA (A 0) a = none) : f_X12_leave N 27 a (mp h I A) = some (0, mp h I A) := by
  unfold f_X12_leave
  simp only [mck hl, Option.bind_some, m_isArcher hl, ha, Option.isSome_none]
  rfl
theorem m_leave1 (hl : 46 ≤ h.length) (hN : 21000 ≤ N) (hc : c ≤ 4) (hI : I 1 = nI c) {a : Int32} {j : Nat} (ha : pA (A 0) a = some j) : f_X12_leave N 27 a (mp h I A) = some (1, mp h (upd I 1 (nI (kpC c))) (va_up A 0 (upd (upd (kpD (A 0) c) (125 + j) (-1)) (6881 + j) (-1)))) := by
  obtain ⟨hj, rfl, -⟩ := pA_some ha
  unfold f_X12_leave
  simp only [mck hl, Option.bind_some, m_isArcher hl, ha, Option.isSome_some, if_true]
  rw [if_neg (by decide), m_keeps hl hN hc hI, Option.bind_some]
  simp (disch := omega) only [mg0 hl, ms0 hl, la_l, Option.bind_some, bx_uu, vu_at]
theorem m_take1 (hl : 46 ≤ h.length) (hN : 21000 ≤ N) (hc : c ≤ 4) (hI : I 1 = nI c) {a : Int32} {j : Nat} (ha : pA (A 0) a = some j) (h0 : A 0 (141 + j) ≠ 0) : f_X12_take N 27 a (mp h I A) = some (kpD (A 0) c (141 + j) - 1, mp h (upd I 1 (nI (kpC c))) (va_up A 0 (upd (kpD (A 0) c) (141 + j) (kpD (A 0) c (141 + j) - 1)))) := by
  obtain ⟨hj, rfl, -⟩ := pA_some ha
  unfold f_X12_take
  simp only [mck hl, Option.bind_some, m_isArcher hl, ha, Option.isSome_some, if_true]
  rw [if_neg (by decide)]
  simp (disch := omega) only [mg0 hl, ml0 hl, la_l, Option.bind_some]
  rw [if_neg h0, m_keeps hl hN hc hI, Option.bind_some]
  simp (disch := omega) only [mg0 hl, ms0 hl, ml0 hl, la_l, Option.bind_some, bx_uu, vu_at, up_at]
end mops
