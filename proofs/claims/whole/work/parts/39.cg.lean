/-! ===== the relations look at their own places of F alone ===== -/
section cg
variable {h : zH} {F F' : Nat → Int32}
theorem eN.cg (q : ∀ j, j < 125 → F' j = F j) {l : Nat} (hl : l < 30) : eN F' l = eN F l := by unfold eN; rw [q _ (by omega)]
theorem wN.cg (q : ∀ j, j < 125 → F' j = F j) {l : Nat} (hl : l < 30) : wN F' l = wN F l := by unfold wN; rw [q _ (by omega)]
theorem gL.cg (q : ∀ j, j < 125 → F' j = F j) : gL F' = gL F := by unfold gL; rw [q _ (by omega)]
theorem endsTo.cg (q : ∀ j, j < 125 → F' j = F j) : ∀ {l : Nat}, l < 30 → endsTo F' l = endsTo F l
  | 0, _ => rfl
  | l + 1, hl => by rw [endsTo, endsTo, endsTo.cg q (by omega), eN.cg q (by omega)]
theorem lgGo.cg (q : ∀ j, j < 125 → F' j = F j) : ∀ (k l e : Nat), l + k < 30 → lgGo F' k l e = lgGo F k l e
  | 0, l, e, _ => rfl
  | k + 1, l, e, hl => by
    rw [lgGo, lgGo, eN.cg q (by omega), lgGo.cg q k (l + 1) _ (by omega)]
theorem lgGo_le (F : Nat → Int32) : ∀ (k l e : Nat), lgGo F k l e ≤ l + k
  | 0, l, e => Nat.le_refl _
  | k + 1, l, e => by
    rw [lgGo]
    split
    · omega
    · have := lgGo_le F k (l + 1) (e - eN F l)
      omega
theorem lgOf.cg (q : ∀ j, j < 125 → F' j = F j) (e : Nat) : lgOf F' e = lgOf F e := lgGo.cg q 4 0 e (by omega)
theorem aT.cg (q : ∀ j, j < 125 → F' j = F j) : ∀ n : Nat, aT F' n = aT F n
  | 0 => rfl
  | n + 1 => by
    have h1 : lgOf F n ≤ 4 := by have := lgGo_le F 4 0 n; unfold lgOf; omega
    rw [aT, aT, aT.cg q n, lgOf.cg q, wN.cg q (by omega)]
theorem wfR.tE {F : Nat → Int32} (w : wfR F) : gL F ≤ 4 := by
  obtain ⟨-, ⟨L, h1, -, h2⟩, -⟩ := w
  unfold gL
  rw [h1, nI_clamp (by omega)]
  exact h2
theorem wfR.cg (q : ∀ j, j < 125 → F' j = F j) (w : wfR F) : wfR F' := by
  have hg := w.tE
  obtain ⟨w0, w1, ⟨fc, w2, w3, w4, w5⟩, ⟨ts, w6, w7, w8⟩, w9⟩ := w
  refine ⟨by rw [q _ (by omega)]; exact w0, by rw [q _ (by omega)]; exact w1, ⟨fc, by rw [q _ (by omega)]; exact w2, w3, ?_, ?_⟩, ⟨ts, by rw [q _ (by omega)]; exact w6, w7, fun t ht => by rw [q _ (by omega)]; exact w8 t ht⟩, fun i hi => by rw [q _ (by omega)]; exact w9 i hi⟩
  · intro l hl
    rw [gL.cg q] at hl
    rw [q _ (by omega), q _ (by omega), q _ (by omega)]
    exact w4 l hl
  · intro f hf
    obtain ⟨ln, x1, x2, x3, x4⟩ := w5 f hf
    refine ⟨ln, by rw [q _ (by omega)]; exact x1, x2, x3, fun k hk => ?_⟩
    rw [q _ (by omega), q _ (by omega)]
    exact x4 k hk
theorem rR.cg (q : ∀ j, j < 125 → F' j = F j) {rq : Option Nat} (w : rR h rq F) : rR h rq F' := by
  cases rq with
  | none => show F' 0 = 0; rw [q _ (by omega)]; exact w
  | some r =>
    obtain ⟨w, a1, a2, a3, a4, a5, a6, a7, a8, f1, f2, f3, f4, f5, f6, f7, f8, q0, q1, q2, q3, q4, q5, q6, q7, q8, z1, z2, z3, z4⟩ := w
    have hg := w.tE
    obtain ⟨w0, w1, ⟨fc, w2, w3, w4, w5⟩, ⟨ts, w6, w7, w8⟩, w9⟩ := id w
    refine ⟨wfR.cg q w, a1, a2, a3, a4, a5, a6, a7, a8, f1, f2, f3, f4, f5, f6, f7, f8, ?_, q1, q2, q3, q4, q5, q6, q7, q8, ?_, ?_, ?_, ?_⟩
    · rw [q 14 (by omega), q 1 (by omega), q 115 (by omega)]; exact q0
    · intro f hf
      rw [q 14 (by omega)] at hf
      have hf4 : f < 4 := by rw [w2, nI_clamp (by omega)] at hf; omega
      obtain ⟨ln, x1, x2, x3, x4⟩ := w5 f (by rw [w2, nI_clamp (by omega)] at hf; exact hf)
      rw [q _ (by omega)]
      refine ⟨(z1 f hf).1, fun k hk => ?_⟩
      have hk12 : k < 12 := by rw [x1, nI_clamp (by omega)] at hk; omega
      rw [q _ (by omega), q _ (by omega)]
      exact (z1 f hf).2 k hk
    · intro l hl
      rw [gL.cg q] at hl
      rw [q _ (by omega), q _ (by omega), q _ (by omega)]
      exact z2 l hl
    · intro t ht
      rw [q 115 (by omega)] at ht
      have ht6 : t < 6 := by rw [w6, nI_clamp (by omega)] at ht; omega
      rw [q _ (by omega)]
      exact z3 t ht
    · intro i hi
      rw [q _ (by omega)]
      exact z4 i hi
/-- the places of an archer -/
def regA (a j : Nat) : Prop := j < 125 ∨ j = 125 + a ∨ j = 141 + a ∨ (157 + 288 * a ≤ j ∧ j < 157 + 288 * a + 288) ∨ j = 4765 + a ∨ (4781 + 8 * a ≤ j ∧ j < 4781 + 8 * a + 8) ∨ j = 4909 + a ∨ (4925 + 120 * a ≤ j ∧ j < 4925 + 120 * a + 120)
theorem shR.cg {a sh : Nat} (q : ∀ j, regA a j → F' j = F j) (w : shR h sh F a) : shR h sh F' a := by
  obtain ⟨b1, b2, b3, n, m, s1, s2, s3, q0, q1, q2, q3, z1, z2, z3, z4, z5, z6, z7, z8, z9⟩ := w
  have qr : ∀ j, j < 125 → F' j = F j := fun j hj => q j (Or.inl hj)
  have eT := aT.cg qr
  refine ⟨b1, b2, b3, n, m, s1, s2, s3, q0, q1, by rw [eT]; exact q2, q3, by rw [q _ (by unfold regA; omega)]; exact z1, by rw [eT]; exact z2, by rw [qr _ (by omega)]; exact z3, ?_, ?_, ?_, by rw [q _ (by unfold regA; omega)]; exact z7, z8, fun k hk => by rw [q _ (by unfold regA; omega)]; exact z9 k hk⟩
  · intro h1
    rw [qr _ (by omega)] at h1
    have h2 := z4 h1
    unfold tE at h2 ⊢
    rw [gL.cg qr]
    rw [endsTo.cg qr (by omega)]
    exact h2
  · intro k hk
    rw [eT] at hk
    rw [q _ (by unfold regA; omega)]
    exact z5 k hk
  · intro e he
    rw [eT, eT]
    exact z6 e he
theorem scR.cg {a sc : Nat} (q : ∀ j, regA a j → F' j = F j) (w : scR h sc F a) : scR h sc F' a := by
  obtain ⟨b, n, f, q0, q1, z1, z2, z3⟩ := w
  refine ⟨b, n, f, q0, q1, by rw [q _ (by unfold regA; omega)]; exact z1, z2, fun k hk i hi => ?_⟩
  rw [q _ (by unfold regA; omega)]
  exact z3 k hk i hi
theorem arR.cg {a : Nat} {o : Option Nat} (q : ∀ j, regA a j → F' j = F j) (w : arR h o F a) : arR h o F' a := by
  have e1 : F' (125 + a) = F (125 + a) := q _ (by unfold regA; omega)
  cases o with
  | none => show F' (125 + a) = -1; rw [e1]; exact w
  | some x =>
    obtain ⟨w1, sh, sc, q0, q1, q2⟩ := w
    exact ⟨by rw [e1]; exact w1, sh, sc, by rw [e1]; exact q0, q1.cg q, q2.cg q⟩
theorem lwR.cg {lq : Nat} (q : ∀ j, 6845 ≤ j → j < 6864 → F' j = F j) (w : lwR h lq F) : lwR h lq F' := by
  obtain ⟨b, n, f, q0, q1, z1, z2, z3⟩ := w
  refine ⟨b, n, f, q0, q1, by rw [q _ (by omega) (by omega)]; exact z1, z2, fun k hk i hi => ?_⟩
  rw [q _ (by omega) (by omega)]
  exact z3 k hk i hi
theorem lnR.cg {nq : Nat} (q : ∀ j, 6864 ≤ j → j < 6897 → F' j = F j) (q2 : ∀ a, a < 16 → F (125 + a) ≠ -1 → F' (125 + a) ≠ -1) (w : lnR h nq F) : lnR h nq F' := by
  obtain ⟨b1, b2, b3, n, f1, f2, f3, w0, w1, w2, w3, z1, z2, z3, z4, z5, z6⟩ := w
  refine ⟨b1, b2, b3, n, f1, f2, f3, w0, w1, w2, w3, by rw [q _ (by omega) (by omega)]; exact z1, z2, ?_, ?_, ?_, ?_⟩
  · intro k hk
    rw [q _ (by omega) (by omega), q _ (by omega) (by omega)]
    exact z3 k hk
  · intro p hp
    rcases z4 p hp with h1 | ⟨a, h1, h2, h3⟩
    · exact Or.inl h1
    · exact Or.inr ⟨a, h1, h2, q2 a h1 h3⟩
  · intro a ha
    rw [q _ (by omega) (by omega)]
    exact z5 a ha
  · intro a ha p hp
    rw [q _ (by omega) (by omega)]
    exact z6 a ha p hp
end cg
