/-! ===== round: bytes, runs, the class's reader ===== -/
def isB (b : Nat) : Prop := b = 10 ∨ b = 32
def isL (b : Nat) : Prop := 97 ≤ b ∧ b ≤ 122
def isD (b : Nat) : Prop := 48 ≤ b ∧ b ≤ 57
/-- from p to q all bytes are Q, and q ends it -/
def run (Q : Nat → Prop) (T : Nat → Nat) (t p q : Nat) : Prop := p ≤ q ∧ q ≤ t ∧ (∀ j, p ≤ j → j < q → Q (T j)) ∧ (q < t → ¬ Q (T q))
theorem run_ex (Q : Nat → Prop) (T : Nat → Nat) {t p : Nat} (hp : p ≤ t) : ∃ q, run Q T t p q := by
  obtain ⟨a, h1, h2, h3⟩ := exFst (fun k => ¬ Q (T (p + k))) (t - p)
  refine ⟨p + a, by omega, by omega, fun j hj1 hj2 => ?_, fun h => h3 (by omega)⟩
  have := Classical.not_not.mp (h2 (j - p) (by omega))
  rw [show p + (j - p) = j by omega] at this
  exact this
theorem run_one {Q : Nat → Prop} {T : Nat → Nat} {t p q : Nat} (w : run Q T t p q) (hp : p < t) (h : Q (T p)) : p < q := by
  obtain ⟨w1, w2, w3, w4⟩ := w
  apply Nat.lt_of_le_of_ne w1
  intro z
  exact w4 (by omega) (by rw [← z]; exact h)
theorem run_no {Q : Nat → Prop} {T : Nat → Nat} {t p q : Nat} (w : run Q T t p q) (h : ¬ (p < t ∧ Q (T p))) : q = p := by
  obtain ⟨w1, w2, w3, w4⟩ := w
  apply Classical.byContradiction
  intro z
  exact h ⟨by omega, w3 p (by omega) (by omega)⟩
theorem run_id {Q : Nat → Prop} {T : Nat → Nat} {t p q : Nat} (w : run Q T t p q) : run Q T t q q := ⟨by omega, w.2.1, fun j h1 h2 => by omega, w.2.2.2⟩
def dv (T : Nat → Nat) (q : Nat) : Nat → Nat
  | 0 => 0
  | i + 1 => dv T q i * 10 + (T (q + i) - 48)
theorem dv_lt (T : Nat → Nat) (q : Nat) : ∀ i, (∀ j, j < i → isD (T (q + j))) → dv T q i < 10 ^ i
  | 0, _ => by rw [dv]; omega
  | i + 1, h => by
    have h1 := dv_lt T q i (fun j hj => h j (by omega))
    have h2 := h i (by omega)
    unfold isD at h2
    rw [dv, Nat.pow_succ]
    omega
theorem dv6 {T : Nat → Nat} {q i : Nat} (h : ∀ j, j < i → isD (T (q + j))) (hi : i ≤ 6) : dv T q i < 1000000 := by
  have h1 := dv_lt T q i h
  have h2 : 10 ^ i ≤ 10 ^ 6 := Nat.pow_le_pow_right (by omega) hi
  omega
/-- the reader's five numbers over K -/
def rK (K : Nat → Int32) (a n s f p : Int32) : Nat → Int32 := fun j => if j = 12 then a else if j = 13 then n else if j = 14 then s else if j = 15 then f else if j = 16 then p else K j
section rK
variable {K : Nat → Int32} {a n s f p v : Int32}
theorem rk12 : upd (rK K a n s f p) 12 v = rK K v n s f p := by
  funext j
  by_cases h : j = 12
  · subst h; rw [up_at]; rfl
  · rw [up_ne _ _ h]; unfold rK; rw [if_neg h, if_neg h]
theorem rk13 : upd (rK K a n s f p) 13 v = rK K a v s f p := by
  funext j
  by_cases h : j = 13
  · subst h; rw [up_at]; rfl
  · rw [up_ne _ _ h]; unfold rK; simp only [if_neg h]
theorem rk14 : upd (rK K a n s f p) 14 v = rK K a n v f p := by
  funext j
  by_cases h : j = 14
  · subst h; rw [up_at]; rfl
  · rw [up_ne _ _ h]; unfold rK; simp only [if_neg h]
theorem rk15 : upd (rK K a n s f p) 15 v = rK K a n s v p := by
  funext j
  by_cases h : j = 15
  · subst h; rw [up_at]; rfl
  · rw [up_ne _ _ h]; unfold rK; simp only [if_neg h]
theorem rk16 : upd (rK K a n s f p) 16 v = rK K a n s f v := by
  funext j
  by_cases h : j = 16
  · subst h; rw [up_at]; rfl
  · rw [up_ne _ _ h]; unfold rK; simp only [if_neg h]
theorem rk_lo {j : Nat} (h : j < 12) : rK K a n s f p j = K j := by
  unfold rK; rw [if_neg (by omega), if_neg (by omega), if_neg (by omega), if_neg (by omega), if_neg (by omega)]
theorem rk_id (K : Nat → Int32) : rK K (K 12) (K 13) (K 14) (K 15) (K 16) = K := by
  funext j
  unfold rK
  by_cases h1 : j = 12
  · rw [if_pos h1, h1]
  rw [if_neg h1]
  by_cases h2 : j = 13
  · rw [if_pos h2, h2]
  rw [if_neg h2]
  by_cases h3 : j = 14
  · rw [if_pos h3, h3]
  rw [if_neg h3]
  by_cases h4 : j = 15
  · rw [if_pos h4, h4]
  rw [if_neg h4]
  by_cases h5 : j = 16
  · rw [if_pos h5, h5]
  · rw [if_neg h5]
end rK
/-- the class's tape -/
def tpC (K : Nat → Int32) (KA : Nat → Nat → Int32) (T : Nat → Nat) (t : Nat) : Prop := K 1 = nI t ∧ t ≤ 1000 ∧ ∀ j, j < t → KA 3 j &&& 255 = nI (T j) ∧ T j < 256
section rd
variable {h : zH} {K : Nat → Int32} {KR : Nat → Option Nat} {KA : Nat → Nat → Int32} {KP : Nat → Option Nat} {N t : Nat} {T : Nat → Nat} {a n s f pl v : Int32}
theorem r2 (hl : 46 ≤ h.length) : zgI (cp h (rK K a n s f pl) KR KA KP) 5 (some 1) 2 = some a := cg1_2 hl
theorem r3 (hl : 46 ≤ h.length) : zgI (cp h (rK K a n s f pl) KR KA KP) 5 (some 1) 3 = some n := cg1_3 hl
theorem r4 (hl : 46 ≤ h.length) : zgI (cp h (rK K a n s f pl) KR KA KP) 5 (some 1) 4 = some s := cg1_4 hl
theorem r5 (hl : 46 ≤ h.length) : zgI (cp h (rK K a n s f pl) KR KA KP) 5 (some 1) 5 = some f := cg1_5 hl
theorem u2 (hl : 46 ≤ h.length) : zpu (cp h (rK K a n s f pl) KR KA KP) 5 (some 1) 2 (zi v) = some (cp h (rK K v n s f pl) KR KA KP) := (cu1_2 hl v).trans (by rw [rk12])
theorem u3 (hl : 46 ≤ h.length) : zpu (cp h (rK K a n s f pl) KR KA KP) 5 (some 1) 3 (zi v) = some (cp h (rK K a v s f pl) KR KA KP) := (cu1_3 hl v).trans (by rw [rk13])
theorem u4 (hl : 46 ≤ h.length) : zpu (cp h (rK K a n s f pl) KR KA KP) 5 (some 1) 4 (zi v) = some (cp h (rK K a n v f pl) KR KA KP) := (cu1_4 hl v).trans (by rw [rk14])
theorem u5 (hl : 46 ≤ h.length) : zpu (cp h (rK K a n s f pl) KR KA KP) 5 (some 1) 5 (zi v) = some (cp h (rK K a n s v pl) KR KA KP) := (cu1_5 hl v).trans (by rw [rk15])
theorem u6 (hl : 46 ≤ h.length) : zpu (cp h (rK K a n s f pl) KR KA KP) 5 (some 1) 6 (zi v) = some (cp h (rK K a n s f v) KR KA KP) := (cu1_6 hl v).trans (by rw [rk16])
theorem rl (hl : 46 ≤ h.length) (w : tpC K KA T t) : zgI (cp h (rK K a n s f pl) KR KA KP) 10 (some 2) 1 = some (nI t) := (cg2_1 hl).trans (by rw [rk_lo (by omega), w.1])
theorem c_refuse (hl : 46 ≤ h.length) {x y : Int32} : f_X5_refuse N 1 x y (cp h (rK K a n s f pl) KR KA KP) = some (0, cp h (rK K a n s x y) KR KA KP) := bS (u5 hl) (bS (u6 hl) rfl)
theorem c_at (hl : 46 ≤ h.length) (w : tpC K KA T t) {j : Nat} (hj : j < t) : f_X10_signAt N 2 (nI j) (cp h (rK K a n s f pl) KR KA KP) = some (nI (T j)) := by
  have h1 := w.2.1
  exact iF (nI_pos (by omega)) (bS (rl hl w) (iF (nI_ge hj (by omega)) (bS (cg2_0 hl) (bS (cl3 hl (by omega)) (by rw [(w.2.2 j hj).1])))))
theorem c_at0 (hl : 46 ≤ h.length) (w : tpC K KA T t) {j : Nat} (hj : t ≤ j) (hj2 : j < 2 ^ 31) : f_X10_signAt N 2 (nI j) (cp h (rK K a n s f pl) KR KA KP) = some (-1) :=
  iF (nI_pos (by omega)) (bS (rl hl w) (iT (nI_le hj (by omega)) rfl))
theorem c_isB {b : Nat} {H : zH} (hb : b < 256) : ∃ v, f_X5_isBlank N (nI b) H = some v ∧ (v = 0 ↔ ¬ isB b) := by
  unfold f_X5_isBlank isB
  by_cases h1 : b = 10
  · exact ⟨1, iT (by rw [h1]; rfl) rfl, fun z => absurd z (by decide), fun z => absurd (Or.inl h1) z⟩
  by_cases h2 : b = 32
  · exact ⟨1, iF (fun z => h1 ((nI_eq (b := 10) (by omega) (by omega)).mp z)) (iT (by rw [h2]; rfl) rfl), fun z => absurd z (by decide), fun z => absurd (Or.inr h2) z⟩
  · exact ⟨0, iF (fun z => h1 ((nI_eq (b := 10) (by omega) (by omega)).mp z)) (iF (fun z => h2 ((nI_eq (b := 32) (by omega) (by omega)).mp z)) rfl), fun _ z => z.elim h1 h2, fun _ => rfl⟩
theorem c_isL {b : Nat} {H : zH} (hb : b < 256) : ∃ v, f_X5_isLetter N (nI b) H = some v ∧ (v = 0 ↔ ¬ isL b) := by
  unfold f_X5_isLetter isL
  by_cases h1 : b < 97
  · exact ⟨0, iT (nI_lt (b := 97) h1 (by omega)) rfl, fun _ z => by omega, fun _ => rfl⟩
  by_cases h2 : 122 < b
  · exact ⟨0, iF (nI_nlt (b := 97) (by omega) (by omega)) (iT (nI_lt (a := 122) h2 (by omega)) rfl), fun _ z => by omega, fun _ => rfl⟩
  · exact ⟨1, iF (nI_nlt (b := 97) (by omega) (by omega)) (iF (nI_nlt (a := 122) (by omega) (by omega)) rfl), fun z => absurd z (by decide), fun z => absurd ⟨by omega, by omega⟩ z⟩
theorem c_isD {b : Nat} {H : zH} (hb : b < 256) : ∃ v, f_X5_isDigit N (nI b) H = some v ∧ (v = 0 ∨ v = 1) ∧ (v = 0 ↔ ¬ isD b) := by
  unfold f_X5_isDigit isD
  by_cases h1 : b < 48
  · exact ⟨0, iT (nI_lt (b := 48) h1 (by omega)) rfl, Or.inl rfl, fun _ z => by omega, fun _ => rfl⟩
  by_cases h2 : 57 < b
  · exact ⟨0, iF (nI_nlt (b := 48) (by omega) (by omega)) (iT (nI_lt (a := 57) h2 (by omega)) rfl), Or.inl rfl, fun _ z => by omega, fun _ => rfl⟩
  · exact ⟨1, iF (nI_nlt (b := 48) (by omega) (by omega)) (iF (nI_nlt (a := 57) (by omega) (by omega)) rfl), Or.inr rfl, fun z => absurd z (by decide), fun z => absurd ⟨by omega, by omega⟩ z⟩
theorem c_skipB (hl : 46 ≤ h.length) (w : tpC K KA T t) (hN : 1100 ≤ N) {p q : Nat} (r : run isB T t p q) : f_X5_skipBlanks N 1 (cp h (rK K (nI p) n s f pl) KR KA KP) = some (cp h (rK K (nI q) n s f pl) KR KA KP) := by
  obtain ⟨w1, w2, w3⟩ := id w
  obtain ⟨e1, e2, e3, e4⟩ := r
  have go : ∀ (m b fuel : Nat), b + m = q → p ≤ b → m < fuel → f_X5_skipBlanks_0 N fuel 1 (cp h (rK K (nI b) n s f pl) KR KA KP) = some (cp h (rK K (nI q) n s f pl) KR KA KP) := by
    intro m
    induction m with
    | zero =>
      intro b fuel h1 h2 h3
      obtain ⟨fuel, rfl⟩ : ∃ x, fuel = x + 1 := ⟨fuel - 1, by omega⟩
      rw [f_X5_skipBlanks_0, show b = q by omega]
      refine bS (r2 hl) (bS (cg1_0 hl) (bS (rl hl w) ?_))
      by_cases hq : q < t
      · obtain ⟨v, v1, v2⟩ := c_isB (N := N) (H := cp h (rK K (nI q) n s f pl) KR KA KP) (w3 q hq).2
        exact iF (nI_ge hq (by omega)) (bS (cg1_0 hl) (bS (r2 hl) (bS (ck2 hl) (bS (c_at hl w hq) (bS v1 (iT (v2.mpr (e4 hq)) rfl))))))
      · exact iT (nI_le (by omega) (by omega)) rfl
    | succ m ih =>
      intro b fuel h1 h2 h3
      obtain ⟨fuel, rfl⟩ : ∃ x, fuel = x + 1 := ⟨fuel - 1, by omega⟩
      obtain ⟨v, v1, v2⟩ := c_isB (N := N) (H := cp h (rK K (nI b) n s f pl) KR KA KP) (w3 b (by omega)).2
      rw [f_X5_skipBlanks_0]
      refine bS (r2 hl) (bS (cg1_0 hl) (bS (rl hl w) (iF (nI_ge (by omega) (by omega)) (bS (cg1_0 hl) (bS (r2 hl) (bS (ck2 hl) (bS (c_at hl w (by omega)) (bS v1 (iF (fun z => v2.mp z (e3 b h2 (by omega))) (bS (r2 hl) (bS (u2 hl) ?_)))))))))))
      rw [la_r]
      exact ih (b + 1) fuel (by omega) (by omega) (by omega)
  exact go (q - p) p N (by omega) (by omega) (by omega)
theorem c_skipL (hl : 46 ≤ h.length) (w : tpC K KA T t) (hN : 1100 ≤ N) {p q : Nat} (r : run isL T t p q) : f_X5_skipLetters N 1 (cp h (rK K (nI p) n s f pl) KR KA KP) = some (cp h (rK K (nI q) n s f pl) KR KA KP) := by
  obtain ⟨w1, w2, w3⟩ := id w
  obtain ⟨e1, e2, e3, e4⟩ := r
  have go : ∀ (m b fuel : Nat), b + m = q → p ≤ b → m < fuel → f_X5_skipLetters_0 N fuel 1 (cp h (rK K (nI b) n s f pl) KR KA KP) = some (cp h (rK K (nI q) n s f pl) KR KA KP) := by
    intro m
    induction m with
    | zero =>
      intro b fuel h1 h2 h3
      obtain ⟨fuel, rfl⟩ : ∃ x, fuel = x + 1 := ⟨fuel - 1, by omega⟩
      rw [f_X5_skipLetters_0, show b = q by omega]
      refine bS (r2 hl) (bS (cg1_0 hl) (bS (rl hl w) ?_))
      by_cases hq : q < t
      · obtain ⟨v, v1, v2⟩ := c_isL (N := N) (H := cp h (rK K (nI q) n s f pl) KR KA KP) (w3 q hq).2
        exact iF (nI_ge hq (by omega)) (bS (cg1_0 hl) (bS (r2 hl) (bS (ck2 hl) (bS (c_at hl w hq) (bS v1 (iT (v2.mpr (e4 hq)) rfl))))))
      · exact iT (nI_le (by omega) (by omega)) rfl
    | succ m ih =>
      intro b fuel h1 h2 h3
      obtain ⟨fuel, rfl⟩ : ∃ x, fuel = x + 1 := ⟨fuel - 1, by omega⟩
      obtain ⟨v, v1, v2⟩ := c_isL (N := N) (H := cp h (rK K (nI b) n s f pl) KR KA KP) (w3 b (by omega)).2
      rw [f_X5_skipLetters_0]
      refine bS (r2 hl) (bS (cg1_0 hl) (bS (rl hl w) (iF (nI_ge (by omega) (by omega)) (bS (cg1_0 hl) (bS (r2 hl) (bS (ck2 hl) (bS (c_at hl w (by omega)) (bS v1 (iF (fun z => v2.mp z (e3 b h2 (by omega))) (bS (r2 hl) (bS (u2 hl) ?_)))))))))))
      rw [la_r]
      exact ih (b + 1) fuel (by omega) (by omega) (by omega)
  exact go (q - p) p N (by omega) (by omega) (by omega)
theorem c_digN (hl : 46 ≤ h.length) (w : tpC K KA T t) (hN : 1100 ≤ N) {p q : Nat} (r : run isB T t p q) : ∃ v, f_X5_isDigitNext N 1 (cp h (rK K (nI p) n s f pl) KR KA KP) = some (v, cp h (rK K (nI q) n s f pl) KR KA KP) ∧ (v = 0 ↔ ¬ (q < t ∧ isD (T q))) := by
  obtain ⟨w1, w2, w3⟩ := id w
  have e2 := r.2.1
  by_cases hq : q < t
  · obtain ⟨v, v1, v0, v2⟩ := c_isD (N := N) (H := cp h (rK K (nI q) n s f pl) KR KA KP) (w3 q hq).2
    refine ⟨v, bS (ck1 hl) (bS (c_skipB hl w hN r) (bS (cg1_0 hl) (bS (r2 hl) (bS (ck2 hl) (bS (c_at hl w hq) (bS v1 (iT v0 rfl))))))), fun z z2 => v2.mp z z2.2, fun z => v2.mpr (fun z2 => z ⟨hq, z2⟩)⟩
  · exact ⟨0, bS (ck1 hl) (bS (c_skipB hl w hN r) (bS (cg1_0 hl) (bS (r2 hl) (bS (ck2 hl) (bS (c_at0 hl w (by omega) (by omega)) (bS (iT (by decide) rfl) (iT (Or.inl rfl) rfl))))))), fun _ z => hq z.1, fun _ => rfl⟩
theorem c_rS1 (hl : 46 ≤ h.length) (w : tpC K KA T t) (hN : 1100 ≤ N) {p q b : Nat} (r : run isB T t p q) (hq : q < t) (hb : T q = b) : f_X5_readSign N 1 (nI b) (cp h (rK K (nI p) n s f pl) KR KA KP) = some (1, cp h (rK K (nI (q + 1)) n s f pl) KR KA KP) := by
  refine bS (ck1 hl) (bS (c_skipB hl w hN r) (bS (cg1_0 hl) (bS (r2 hl) (bS (ck2 hl) (bS (c_at hl w hq) (iT (by rw [hb]) (bS (r2 hl) (bS (u2 hl) ?_))))))))
  rw [la_r]
theorem c_rS0 (hl : 46 ≤ h.length) (w : tpC K KA T t) (hN : 1100 ≤ N) {p q b : Nat} (r : run isB T t p q) (hb : ¬ (q < t ∧ T q = b)) (hb2 : b < 256) : f_X5_readSign N 1 (nI b) (cp h (rK K (nI p) n s f pl) KR KA KP) = some (0, cp h (rK K (nI q) n s 1 (nI q)) KR KA KP) := by
  obtain ⟨w1, w2, w3⟩ := id w
  have e2 := r.2.1
  refine bS (ck1 hl) (bS (c_skipB hl w hN r) (bS (cg1_0 hl) (bS (r2 hl) (bS (ck2 hl) ?_))))
  by_cases hq : q < t
  · refine bS (c_at hl w hq) (iF (fun z => hb ⟨hq, (nI_eq (by have := (w3 q hq).2; omega) (by omega)).mp z⟩) (bS (r2 hl) (bS (ck1 hl) (zS (c_refuse hl) (iT (Or.inl rfl) rfl)))))
  · refine bS (c_at0 hl w (by omega) (by omega)) (iF (fun z => nI_nm (by omega) z.symm) (bS (r2 hl) (bS (ck1 hl) (zS (c_refuse hl) (iT (Or.inl rfl) rfl)))))
end rd
