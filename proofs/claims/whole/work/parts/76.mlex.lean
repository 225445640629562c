/-! ===== round: the model's tokens ===== -/
def mK (I : Nat → Int32) (a k g n b p : Int32) : Nat → Int32 := fun j => if j = 4 then a else if j = 6 then k else if j = 7 then g else if j = 8 then n else if j = 9 then b else if j = 10 then p else I j
section mK
variable {I : Nat → Int32} {a k g n b p v : Int32}
theorem mk4 : upd (mK I a k g n b p) 4 v = mK I v k g n b p := by
  funext j
  by_cases h : j = 4
  · subst h; rw [up_at]; rfl
  · rw [up_ne _ _ h]; unfold mK; simp only [if_neg h]
theorem mk6 : upd (mK I a k g n b p) 6 v = mK I a v g n b p := by
  funext j
  by_cases h : j = 6
  · subst h; rw [up_at]; rfl
  · rw [up_ne _ _ h]; unfold mK; simp only [if_neg h]
theorem mk7 : upd (mK I a k g n b p) 7 v = mK I a k v n b p := by
  funext j
  by_cases h : j = 7
  · subst h; rw [up_at]; rfl
  · rw [up_ne _ _ h]; unfold mK; simp only [if_neg h]
theorem mk8 : upd (mK I a k g n b p) 8 v = mK I a k g v b p := by
  funext j
  by_cases h : j = 8
  · subst h; rw [up_at]; rfl
  · rw [up_ne _ _ h]; unfold mK; simp only [if_neg h]
theorem mk9 : upd (mK I a k g n b p) 9 v = mK I a k g n v p := by
  funext j
  by_cases h : j = 9
  · subst h; rw [up_at]; rfl
  · rw [up_ne _ _ h]; unfold mK; simp only [if_neg h]
theorem mk10 : upd (mK I a k g n b p) 10 v = mK I a k g n b v := by
  funext j
  by_cases h : j = 10
  · subst h; rw [up_at]; rfl
  · rw [up_ne _ _ h]; unfold mK; simp only [if_neg h]
theorem mk_o {j : Nat} (h : j < 4 ∨ j = 5 ∨ 10 < j) : mK I a k g n b p j = I j := by
  unfold mK; rw [if_neg (by omega), if_neg (by omega), if_neg (by omega), if_neg (by omega), if_neg (by omega), if_neg (by omega)]
theorem mk_id (I : Nat → Int32) : mK I (I 4) (I 6) (I 7) (I 8) (I 9) (I 10) = I := by
  funext j
  unfold mK
  by_cases h1 : j = 4
  · rw [if_pos h1, h1]
  rw [if_neg h1]
  by_cases h2 : j = 6
  · rw [if_pos h2, h2]
  rw [if_neg h2]
  by_cases h3 : j = 7
  · rw [if_pos h3, h3]
  rw [if_neg h3]
  by_cases h4 : j = 8
  · rw [if_pos h4, h4]
  rw [if_neg h4]
  by_cases h5 : j = 9
  · rw [if_pos h5, h5]
  rw [if_neg h5]
  by_cases h6 : j = 10
  · rw [if_pos h6, h6]
  · rw [if_neg h6]
end mK
/-- the model's tape -/
def tpM (I : Nat → Int32) (A : Nat → Nat → Int32) (T : Nat → Nat) (t : Nat) : Prop := I 5 = nI t ∧ t ≤ 1000 ∧ ∀ j, j < t → A 2 j = nI (T j) ∧ T j < 256
section mx
variable {h : zH} {I : Nat → Int32} {A : Nat → Nat → Int32} {N t : Nat} {T : Nat → Nat} {a k g n b p v : Int32}
theorem x4 (hl : 46 ≤ h.length) : zgI (mp h (mK I a k g n b p) A) 12 (some 27) 4 = some a := mg4 hl
theorem x5 (hl : 46 ≤ h.length) (w : tpM I A T t) : zgI (mp h (mK I a k g n b p) A) 12 (some 27) 5 = some (nI t) := (mg5 hl).trans (by rw [mk_o (by omega), w.1])
theorem x6 (hl : 46 ≤ h.length) : zgI (mp h (mK I a k g n b p) A) 12 (some 27) 6 = some k := mg6 hl
theorem x7 (hl : 46 ≤ h.length) : zgI (mp h (mK I a k g n b p) A) 12 (some 27) 7 = some g := mg7 hl
theorem x8 (hl : 46 ≤ h.length) : zgI (mp h (mK I a k g n b p) A) 12 (some 27) 8 = some n := mg8 hl
theorem x9 (hl : 46 ≤ h.length) : zgI (mp h (mK I a k g n b p) A) 12 (some 27) 9 = some b := mg9 hl
theorem x10 (hl : 46 ≤ h.length) : zgI (mp h (mK I a k g n b p) A) 12 (some 27) 10 = some p := mg10 hl
theorem y4 (hl : 46 ≤ h.length) : zpu (mp h (mK I a k g n b p) A) 12 (some 27) 4 (zi v) = some (mp h (mK I v k g n b p) A) := (mu4 hl v).trans (by rw [mk4])
theorem y6 (hl : 46 ≤ h.length) : zpu (mp h (mK I a k g n b p) A) 12 (some 27) 6 (zi v) = some (mp h (mK I a v g n b p) A) := (mu6 hl v).trans (by rw [mk6])
theorem y7 (hl : 46 ≤ h.length) : zpu (mp h (mK I a k g n b p) A) 12 (some 27) 7 (zi v) = some (mp h (mK I a k v n b p) A) := (mu7 hl v).trans (by rw [mk7])
theorem y8 (hl : 46 ≤ h.length) : zpu (mp h (mK I a k g n b p) A) 12 (some 27) 8 (zi v) = some (mp h (mK I a k g v b p) A) := (mu8 hl v).trans (by rw [mk8])
theorem y9 (hl : 46 ≤ h.length) : zpu (mp h (mK I a k g n b p) A) 12 (some 27) 9 (zi v) = some (mp h (mK I a k g n v p) A) := (mu9 hl v).trans (by rw [mk9])
theorem y10 (hl : 46 ≤ h.length) : zpu (mp h (mK I a k g n b p) A) 12 (some 27) 10 (zi v) = some (mp h (mK I a k g n b v) A) := (mu10 hl v).trans (by rw [mk10])
theorem lT (hl : 46 ≤ h.length) (w : tpM I A T t) {j : Nat} (hj : j < t) : zld (mp h (mK I a k g n b p) A) 0 (some 29) (nI j) = some (nI (T j)) := (ml2 hl (by have := w.2.1; omega)).trans (by rw [(w.2.2 j hj).1])
theorem m_fail0 (hl : 46 ≤ h.length) {x y : Int32} : f_X12_fail N 27 x y (mp h (mK I a k g n 0 p) A) = some (mp h (mK I a k g n x y) A) := bS (x9 hl) (iT rfl (bS (y9 hl) (bS (y10 hl) rfl)))
theorem m_fail1 (hl : 46 ≤ h.length) {x y : Int32} (hb : b ≠ 0) : f_X12_fail N 27 x y (mp h (mK I a k g n b p) A) = some (mp h (mK I a k g n b p) A) := bS (x9 hl) (iF hb rfl)
theorem m_isL {c : Nat} {H : zH} (hb : c < 256) : ∃ v, f_X12_isLetter N (nI c) H = some v ∧ (v = 0 ↔ ¬ isL c) := c_isL (N := N) (H := H) hb
theorem m_isD {c : Nat} {H : zH} (hb : c < 256) : ∃ v, f_X12_isDigit N (nI c) H = some v ∧ (v = 0 ∨ v = 1) ∧ (v = 0 ↔ ¬ isD c) := c_isD (N := N) (H := H) hb
/-- what next() leaves -/
def TK (T : Nat → Nat) (t q : Nat) (a k n : Int32) : Prop :=
  (q = t ∧ k = 0 ∧ a = nI q) ∨ (q < t ∧ isL (T q) ∧ k = 1 ∧ ∃ e, run isL T t q e ∧ a = nI e) ∨
  (q < t ∧ isD (T q) ∧ ∃ e, run isD T t q e ∧ ((e ≤ q + 6 ∧ k = 2 ∧ a = nI e ∧ n = nI (dv T q (e - q))) ∨ (q + 7 ≤ e ∧ k = 3 ∧ a = nI (q + 6)))) ∨
  (q < t ∧ (T q = 58 ∨ T q = 59) ∧ k = nI (T q) ∧ a = nI (q + 1)) ∨ (q < t ∧ ¬ isL (T q) ∧ ¬ isD (T q) ∧ T q ≠ 58 ∧ T q ≠ 59 ∧ k = -1 ∧ a = nI (q + 1))
theorem m_n171 (hl : 46 ≤ h.length) (w : tpM I A T t) {q e : Nat} (r : run isL T t q e) : ∀ (m c fuel : Nat), c + m = e → q ≤ c → m < fuel → f_X12_next_171 N fuel 27 (mp h (mK I (nI c) k g n b p) A) = some (mp h (mK I (nI e) k g n b p) A) := by
  obtain ⟨w1, w2, w3⟩ := id w
  obtain ⟨e1, e2, e3, e4⟩ := id r
  intro m
  induction m with
  | zero =>
    intro c fuel h1 h2 h3
    obtain ⟨fuel, rfl⟩ : ∃ x, fuel = x + 1 := ⟨fuel - 1, by omega⟩
    rw [f_X12_next_171, show c = e by omega]
    refine bS (x4 hl) (bS (x5 hl w) ?_)
    by_cases he : e < t
    · obtain ⟨v, v1, v2⟩ := m_isL (N := N) (H := mp h (mK I (nI e) k g n b p) A) (w3 e he).2
      exact iF (nI_ge he (by omega)) (bS (mg2 hl) (bS (x4 hl) (bS (lT hl w he) (bS v1 (iT (v2.mpr (e4 he)) rfl)))))
    · exact iT (nI_le (by omega) (by omega)) rfl
  | succ m ih =>
    intro c fuel h1 h2 h3
    obtain ⟨fuel, rfl⟩ : ∃ x, fuel = x + 1 := ⟨fuel - 1, by omega⟩
    obtain ⟨v, v1, v2⟩ := m_isL (N := N) (H := mp h (mK I (nI c) k g n b p) A) (w3 c (by omega)).2
    rw [f_X12_next_171]
    refine bS (x4 hl) (bS (x5 hl w) (iF (nI_ge (by omega) (by omega)) (bS (mg2 hl) (bS (x4 hl) (bS (lT hl w (by omega)) (bS v1 (iF (fun z => v2.mp z (e3 c h2 (by omega))) (bS (x4 hl) (bS (y4 hl) ?_)))))))))
    rw [la_r]
    exact ih (c + 1) fuel (by omega) (by omega) (by omega)
theorem m_n218 (hl : 46 ≤ h.length) (w : tpM I A T t) {q e : Nat} (r : run isD T t q e) : ∀ (m i fuel : Nat), i + m ≤ e - q → i + m ≤ 6 → f_X12_next_218 N (fuel + m) 27 (mp h (mK I (nI (q + i)) k (nI q) (nI (dv T q i)) b p) A) = f_X12_next_218 N fuel 27 (mp h (mK I (nI (q + (i + m))) k (nI q) (nI (dv T q (i + m))) b p) A) := by
  obtain ⟨w1, w2, w3⟩ := id w
  obtain ⟨e1, e2, e3, e4⟩ := id r
  intro m
  induction m with
  | zero => intro i fuel _ _; rfl
  | succ m ih =>
    intro i fuel h1 h2
    obtain ⟨v, v1, v0, v2⟩ := m_isD (N := N) (H := mp h (mK I (nI (q + i)) k (nI q) (nI (dv T q i)) b p) A) (w3 (q + i) (by omega)).2
    have hd := e3 (q + i) (by omega) (by omega)
    rw [show fuel + (m + 1) = fuel + m + 1 by omega, f_X12_next_218]
    refine bS (x4 hl) (bS (x5 hl w) (iF (nI_ge (by omega) (by omega)) (bS (mg2 hl) (bS (x4 hl) (bS (lT hl w (by omega)) (bS v1 (iF (fun z => v2.mp z hd) (bS (x4 hl) (bS (x7 hl) ?_)))))))))
    rw [pk_sub (by omega)]
    refine iF (fun z => by have := (nI_eq (b := 6) (by omega) (by omega)).mp z; omega) (bS (x8 hl) (bS (mg2 hl) (bS (x4 hl) (bS (lT hl w (by omega)) ?_))))
    have hT := hd.1
    rw [lm_l, nI_add, show nI (10 * dv T q i + T (q + i)) - (48 : Int32) = nI (dv T q (i + 1)) from by
      rw [show nI (10 * dv T q i + T (q + i)) - (48 : Int32) = nI (10 * dv T q i + T (q + i) - 48) from pk_sub (b := 48) (by omega), dv]
      exact congrArg nI (by omega)]
    refine bS (y8 hl) (bS (x4 hl) (bS (y4 hl) ?_))
    rw [la_r, show i + (m + 1) = i + 1 + m by omega]
    exact ih (i + 1) fuel (by omega) (by omega)
theorem m_next (hl0 : True) (hN : 1100 ≤ N) (w : tpM I A T t) {pp q : Nat} (rb : run isB T t pp q) : ∃ a' k' n', TK T t q a' k' n' ∧ ∀ h : zH, 46 ≤ h.length → f_X12_next N 27 (mp h (mK I (nI pp) k g n b p) A) = some (mp h (mK I a' k' (nI q) n' b p) A) := by
  obtain ⟨w1, w2, w3⟩ := id w
  obtain ⟨b1, b2, b3, b4⟩ := id rb
  have skip : ∀ {h : zH}, 46 ≤ h.length → ∀ (m c fuel : Nat), c + m = q → pp ≤ c → m < fuel → f_X12_next_0 N fuel 27 (mp h (mK I (nI c) k g n b p) A) = f_X12_next_52 N 27 (mp h (mK I (nI q) k g n b p) A) := by
    intro h hl m
    induction m with
    | zero =>
      intro c fuel h1 h2 h3
      obtain ⟨fuel, rfl⟩ : ∃ x, fuel = x + 1 := ⟨fuel - 1, by omega⟩
      rw [f_X12_next_0, show c = q by omega]
      refine bS (x4 hl) (bS (x5 hl w) ?_)
      by_cases hq : q < t
      · have nb := b4 hq
        have hT := (w3 q hq).2
        refine iF (nI_ge hq (by omega)) (bS (mg2 hl) (bS (x4 hl) (bS (lT hl w hq) (iF (fun z => nb (Or.inl ((nI_eq (b := 10) (by omega) (by omega)).mp z))) (bS (mg2 hl) (bS (x4 hl) (bS (lT hl w hq) (iF (fun z => nb (Or.inr ((nI_eq (b := 32) (by omega) (by omega)).mp z))) rfl))))))))
      · exact iT (nI_le (by omega) (by omega)) rfl
    | succ m ih =>
      intro c fuel h1 h2 h3
      obtain ⟨fuel, rfl⟩ : ∃ x, fuel = x + 1 := ⟨fuel - 1, by omega⟩
      have nx := ih (c + 1) fuel (by omega) (by omega) (by omega)
      have st : f_X12_next_39 N (fun l0 h => f_X12_next_0 N fuel l0 h) 27 (mp h (mK I (nI c) k g n b p) A) = f_X12_next_52 N 27 (mp h (mK I (nI q) k g n b p) A) := by
        unfold f_X12_next_39
        refine bS (x4 hl) (bS (y4 hl) ?_)
        rw [la_r]
        exact nx
      have hT := (w3 c (by omega)).2
      rw [f_X12_next_0]
      refine bS (x4 hl) (bS (x5 hl w) (iF (nI_ge (by omega) (by omega)) (bS (mg2 hl) (bS (x4 hl) (bS (lT hl w (by omega)) ?_)))))
      rcases b3 c h2 (by omega) with e | e
      · exact iT (by rw [e]; rfl) st
      · exact iF (fun z => by have := (nI_eq (b := 10) (by omega) (by omega)).mp z; omega) (bS (mg2 hl) (bS (x4 hl) (bS (lT hl w (by omega)) (iT (by rw [e]; rfl) st))))
  have beg : ∀ {h : zH} {X}, 46 ≤ h.length → f_X12_next_52 N 27 (mp h (mK I (nI q) k g n b p) A) = X → f_X12_next N 27 (mp h (mK I (nI pp) k g n b p) A) = X := fun hl hX => (skip hl (q - pp) pp N (by omega) (by omega) (by omega)).trans hX
  by_cases hq : q < t
  · have hT := (w3 q hq).2
    have nq : ¬ nI q = nI t := fun z => by have := (nI_eq (by omega) (by omega)).mp z; omega
    have pre : ∀ {h : zH} {X}, 46 ≤ h.length → ((f_X12_isLetter N (nI (T q)) (mp h (mK I (nI q) k (nI q) n b p) A)).bind fun x7 => if x7 = 0 then (zgR (mp h (mK I (nI q) k (nI q) n b p) A) 12 (some 27) 2).bind fun x8 => (zgI (mp h (mK I (nI q) k (nI q) n b p) A) 12 (some 27) 4).bind fun x9 => (zld (mp h (mK I (nI q) k (nI q) n b p) A) 0 x8 x9).bind fun x10 => (f_X12_isDigit N x10 (mp h (mK I (nI q) k (nI q) n b p) A)).bind fun x11 => if x11 = 0 then (zgR (mp h (mK I (nI q) k (nI q) n b p) A) 12 (some 27) 2).bind fun x12 => (zgI (mp h (mK I (nI q) k (nI q) n b p) A) 12 (some 27) 4).bind fun x13 => (zld (mp h (mK I (nI q) k (nI q) n b p) A) 0 x12 x13).bind fun x14 => if x14 = (58 : Int32) then f_X12_next_142 N 27 27 (mp h (mK I (nI q) k (nI q) n b p) A) else (zgR (mp h (mK I (nI q) k (nI q) n b p) A) 12 (some 27) 2).bind fun x15 => (zgI (mp h (mK I (nI q) k (nI q) n b p) A) 12 (some 27) 4).bind fun x16 => (zld (mp h (mK I (nI q) k (nI q) n b p) A) 0 x15 x16).bind fun x17 => if x17 = (59 : Int32) then f_X12_next_142 N 27 27 (mp h (mK I (nI q) k (nI q) n b p) A) else f_X12_next_155 N 27 ((-1) : Int32) 27 (mp h (mK I (nI q) k (nI q) n b p) A) else f_X12_next_155 N 27 (2 : Int32) 27 (mp h (mK I (nI q) k (nI q) n b p) A) else f_X12_next_155 N 27 (1 : Int32) 27 (mp h (mK I (nI q) k (nI q) n b p) A)) = X → f_X12_next N 27 (mp h (mK I (nI pp) k g n b p) A) = X := fun hl hX => beg hl (bS (x4 hl) (bS (y7 hl) (bS (x4 hl) (bS (x5 hl w) (iF nq (bS (mg2 hl) (bS (x4 hl) (bS (lT hl w hq) hX))))))))
    by_cases cl : isL (T q)
    · obtain ⟨e, r⟩ := run_ex isL T (t := t) (p := q) (by omega)
      have re := r.1
      have re2 := r.2.1
      refine ⟨nI e, 1, 0, Or.inr (Or.inl ⟨hq, cl, rfl, e, r, rfl⟩), fun h hl => ?_⟩
      obtain ⟨v, v1, v2⟩ := m_isL (N := N) (H := mp h (mK I (nI q) k (nI q) n b p) A) hT
      exact pre hl (bS v1 (iF (fun z => v2.mp z cl) (bS (y6 hl) (bS (y8 hl) (bS (x6 hl) (iT rfl (m_n171 hl w r (e - q) q N (by omega) (by omega) (by omega))))))))
    by_cases cd : isD (T q)
    · obtain ⟨e, r⟩ := run_ex isD T (t := t) (p := q) (by omega)
      have r1 := run_one r hq cd
      obtain ⟨e1, e2, e3, e4⟩ := id r
      have dig : ∀ {h : zH} {X}, 46 ≤ h.length → f_X12_next_218 N N 27 (mp h (mK I (nI q) 2 (nI q) 0 b p) A) = X → f_X12_next N 27 (mp h (mK I (nI pp) k g n b p) A) = X := by
        intro h X hl hX
        obtain ⟨v, v1, v2⟩ := m_isL (N := N) (H := mp h (mK I (nI q) k (nI q) n b p) A) hT
        obtain ⟨u, u1, u0, u2⟩ := m_isD (N := N) (H := mp h (mK I (nI q) k (nI q) n b p) A) hT
        exact pre hl (bS v1 (iT (v2.mpr cl) (bS (mg2 hl) (bS (x4 hl) (bS (lT hl w hq) (bS u1 (iF (fun z => u2.mp z cd) (bS (y6 hl) (bS (y8 hl) (bS (x6 hl) (iF (by decide) (bS (x6 hl) (iT rfl hX)))))))))))))
      by_cases h6 : e ≤ q + 6
      · refine ⟨nI e, 2, nI (dv T q (e - q)), Or.inr (Or.inr (Or.inl ⟨hq, cd, e, r, Or.inl ⟨h6, rfl, rfl, rfl⟩⟩)), fun h hl => dig hl ?_⟩
        obtain ⟨N', hN'⟩ : ∃ m, N = m + 1 + (e - q) := ⟨N - (e - q) - 1, by omega⟩
        have g1 := m_n218 (N := N) (h := h) (k := 2) (b := b) (p := p) hl w r (e - q) 0 (N' + 1) (by omega) (by omega)
        rw [← hN', Nat.zero_add, show q + (e - q) = e by omega] at g1
        refine g1.trans ?_
        rw [f_X12_next_218]
        refine bS (x4 hl) (bS (x5 hl w) ?_)
        by_cases he : e < t
        · obtain ⟨v, v1, v0, v2⟩ := m_isD (N := N) (H := mp h (mK I (nI e) 2 (nI q) (nI (dv T q (e - q))) b p) A) (w3 e he).2
          exact iF (nI_ge he (by omega)) (bS (mg2 hl) (bS (x4 hl) (bS (lT hl w he) (bS v1 (iT (v2.mpr (e4 he)) rfl)))))
        · exact iT (nI_le (by omega) (by omega)) rfl
      · refine ⟨nI (q + 6), 3, nI (dv T q 6), Or.inr (Or.inr (Or.inl ⟨hq, cd, e, r, Or.inr ⟨by omega, rfl, rfl⟩⟩)), fun h hl => dig hl ?_⟩
        obtain ⟨N', hN'⟩ : ∃ m, N = m + 1 + 6 := ⟨N - 7, by omega⟩
        have g1 := m_n218 (N := N) (h := h) (k := 2) (b := b) (p := p) hl w r 6 0 (N' + 1) (by omega) (by omega)
        rw [← hN', Nat.zero_add] at g1
        refine g1.trans ?_
        obtain ⟨v, v1, v0, v2⟩ := m_isD (N := N) (H := mp h (mK I (nI (q + 6)) 2 (nI q) (nI (dv T q 6)) b p) A) (w3 (q + 6) (by omega)).2
        rw [f_X12_next_218]
        refine bS (x4 hl) (bS (x5 hl w) (iF (nI_ge (by omega) (by omega)) (bS (mg2 hl) (bS (x4 hl) (bS (lT hl w (by omega)) (bS v1 (iF (fun z => v2.mp z (e3 (q + 6) (by omega) (by omega))) (bS (x4 hl) (bS (x7 hl) ?_)))))))))
        rw [pk_sub (by omega)]
        exact iT (by rw [Nat.add_sub_cancel_left]; rfl) (bS (y6 hl) rfl)
    have oth : ∀ {h : zH} {X}, 46 ≤ h.length → (if nI (T q) = (58 : Int32) then f_X12_next_142 N 27 27 (mp h (mK I (nI q) k (nI q) n b p) A) else (zgR (mp h (mK I (nI q) k (nI q) n b p) A) 12 (some 27) 2).bind fun x15 => (zgI (mp h (mK I (nI q) k (nI q) n b p) A) 12 (some 27) 4).bind fun x16 => (zld (mp h (mK I (nI q) k (nI q) n b p) A) 0 x15 x16).bind fun x17 => if x17 = (59 : Int32) then f_X12_next_142 N 27 27 (mp h (mK I (nI q) k (nI q) n b p) A) else f_X12_next_155 N 27 ((-1) : Int32) 27 (mp h (mK I (nI q) k (nI q) n b p) A)) = X → f_X12_next N 27 (mp h (mK I (nI pp) k g n b p) A) = X := by
      intro h X hl hX
      obtain ⟨v, v1, v2⟩ := m_isL (N := N) (H := mp h (mK I (nI q) k (nI q) n b p) A) hT
      obtain ⟨u, u1, u0, u2⟩ := m_isD (N := N) (H := mp h (mK I (nI q) k (nI q) n b p) A) hT
      exact pre hl (bS v1 (iT (v2.mpr cl) (bS (mg2 hl) (bS (x4 hl) (bS (lT hl w hq) (bS u1 (iT (u2.mpr cd) (bS (mg2 hl) (bS (x4 hl) (bS (lT hl w hq) hX))))))))))
    have k155 : ∀ {h : zH} {s0 : Int32}, 46 ≤ h.length → s0 ≠ 1 → s0 ≠ 2 → s0 ≠ 0 → f_X12_next_155 N 27 s0 27 (mp h (mK I (nI q) k (nI q) n b p) A) = some (mp h (mK I (nI (q + 1)) s0 (nI q) 0 b p) A) := by
      intro h s0 hl a1 a2 a3
      refine bS (y6 hl) (bS (y8 hl) (bS (x6 hl) (iF a1 (bS (x6 hl) (iF a2 (bS (x6 hl) (iF a3 (bS (x4 hl) ?_))))))))
      rw [la_r]
      exact bS (y4 hl) rfl
    by_cases c8 : T q = 58
    · refine ⟨nI (q + 1), nI (T q), 0, Or.inr (Or.inr (Or.inr (Or.inl ⟨hq, Or.inl c8, rfl, rfl⟩))), fun h hl => oth hl (iT (by rw [c8]; rfl) (bS (mg2 hl) (bS (x4 hl) (bS (lT hl w hq) ?_))))⟩
      exact k155 hl (by rw [c8]; decide) (by rw [c8]; decide) (by rw [c8]; decide)
    have n8 : ¬ nI (T q) = 58 := fun z => c8 ((nI_eq (b := 58) (by omega) (by omega)).mp z)
    by_cases c9 : T q = 59
    · refine ⟨nI (q + 1), nI (T q), 0, Or.inr (Or.inr (Or.inr (Or.inl ⟨hq, Or.inr c9, rfl, rfl⟩))), fun h hl => oth hl (iF n8 (bS (mg2 hl) (bS (x4 hl) (bS (lT hl w hq) (iT (by rw [c9]; rfl) (bS (mg2 hl) (bS (x4 hl) (bS (lT hl w hq) ?_))))))))⟩
      exact k155 hl (by rw [c9]; decide) (by rw [c9]; decide) (by rw [c9]; decide)
    · have n9 : ¬ nI (T q) = 59 := fun z => c9 ((nI_eq (b := 59) (by omega) (by omega)).mp z)
      exact ⟨nI (q + 1), -1, 0, Or.inr (Or.inr (Or.inr (Or.inr ⟨hq, cl, cd, c8, c9, rfl, rfl⟩))), fun h hl => oth hl (iF n8 (bS (mg2 hl) (bS (x4 hl) (bS (lT hl w hq) (iF n9 (k155 hl (by decide) (by decide) (by decide)))))))⟩
  · have hqt : q = t := by omega
    exact ⟨nI q, 0, 0, Or.inl ⟨hqt, rfl, rfl⟩, fun h hl => beg hl (bS (x4 hl) (bS (y7 hl) (bS (x4 hl) (bS (x5 hl w) (iT (by rw [hqt]) (bS (y6 hl) (bS (y8 hl) (bS (x6 hl) (iF (by decide) (bS (x6 hl) (iF (by decide) (bS (x6 hl) (iT rfl rfl)))))))))))))⟩
end mx
