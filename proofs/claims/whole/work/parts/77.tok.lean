/-! ===== round: numbers, signs and words on both sides ===== -/
section tok
variable {h : zH} {K : Nat → Int32} {KR : Nat → Option Nat} {KA : Nat → Nat → Int32} {KP : Nat → Option Nat} {I : Nat → Int32} {A : Nat → Nat → Int32} {N t : Nat} {T : Nat → Nat}
/-- the class is at a fault that the model has too -/
def cFl (h : zH) (K : Nat → Int32) (KR : Nat → Option Nat) (KA : Nat → Nat → Int32) (KP : Nat → Option Nat) (ft P : Int32) (X : zH) : Prop := ∃ a n s, X = cp h (rK K a n s ft P) KR KA KP
theorem b_num (hN : 1100 ≤ N) (wc : tpC K KA T t) (wm : tpM I A T t) {p : Nat} (hp : p ≤ t) {x y : Nat} (hx : x < 2 ^ 31) (hy : y < 2 ^ 31) (k g m bp n s pl : Int32) :
    (∃ e v q, e ≤ t ∧ p ≤ q ∧ q < e ∧ x ≤ v ∧ v ≤ y ∧ v < 1000000 ∧ (∀ h : zH, 46 ≤ h.length → f_X5_readNumber N 1 (nI x) (nI y) (cp h (rK K (nI p) n s 0 pl) KR KA KP) = some (1, cp h (rK K (nI e) (nI v) (nI q) 0 pl) KR KA KP)) ∧ ∀ h : zH, 46 ≤ h.length → f_X12_numberOf N 27 (nI x) (nI y) (mp h (mK I (nI p) k g m 0 bp) A) = some (nI v, mp h (mK I (nI e) 2 (nI q) (nI v) 0 bp) A)) ∨
    (∃ ft P, ft ≠ 0 ∧ (∃ a n' s', ∀ h : zH, 46 ≤ h.length → f_X5_readNumber N 1 (nI x) (nI y) (cp h (rK K (nI p) n s 0 pl) KR KA KP) = some (0, cp h (rK K a n' s' ft P) KR KA KP)) ∧ ∃ a' k' g' m', ∀ h : zH, 46 ≤ h.length → f_X12_numberOf N 27 (nI x) (nI y) (mp h (mK I (nI p) k g m 0 bp) A) = some (m', mp h (mK I a' k' g' m' ft P) A)) := by
  obtain ⟨q, rb⟩ := run_ex isB T hp
  obtain ⟨a', k', n', tk, nx⟩ := m_next (N := N) (k := k) (g := g) (n := m) (b := 0) (p := bp) trivial hN wm rb
  have b1 := rb.1
  have b2 := rb.2.1
  have t1 := wc.2.1
  have notD : k' ≠ 2 → k' ≠ 3 → ¬ (q < t ∧ isD (T q)) → (∃ ft P, ft ≠ 0 ∧ (∃ a n' s', ∀ h : zH, 46 ≤ h.length → f_X5_readNumber N 1 (nI x) (nI y) (cp h (rK K (nI p) n s 0 pl) KR KA KP) = some (0, cp h (rK K a n' s' ft P) KR KA KP)) ∧ ∃ a' k' g' m', ∀ h : zH, 46 ≤ h.length → f_X12_numberOf N 27 (nI x) (nI y) (mp h (mK I (nI p) k g m 0 bp) A) = some (m', mp h (mK I a' k' g' m' ft P) A)) := by
    intro c2 c3 nd
    refine ⟨1, nI q, by decide, ⟨nI q, 0, nI q, fun h hl => c_num0 hl wc hN rb nd _ _⟩, a', k', nI q, n', fun h hl => ?_⟩
    exact bS (mck hl) (bS (nx h hl) (bS (x6 hl) (iF c3 (bS (x6 hl) (iF c2 (bS (x7 hl) (bS (mck hl) (bS (m_fail0 hl) (bS (x8 hl) rfl)))))))))
  rcases tk with ⟨e1, e2, e3⟩ | ⟨e1, e2, e3, e4⟩ | ⟨e1, e2, e, r, ⟨e3, e4, e5, e6⟩ | ⟨e3, e4, e5⟩⟩ | ⟨e1, e2, e3, e4⟩ | ⟨e1, e2, e3, e4, e5, e6, e7⟩
  · exact Or.inr (notD (by rw [e2]; decide) (by rw [e2]; decide) (fun z => by omega))
  · exact Or.inr (notD (by rw [e3]; decide) (by rw [e3]; decide) (fun z => by have := z.2; unfold isL at e2; unfold isD at this; omega))
  · have r1 := run_one r e1 e2
    have r2' := r.2.1
    have hv := dv6 (T := T) (q := q) (i := e - q) (fun j hj => r.2.2.1 (q + j) (by omega) (by omega)) (by omega)
    have cn := fun (h : zH) (hl : 46 ≤ h.length) => c_numv (N := N) (h := h) (K := K) (KR := KR) (KP := KP) (n := n) (s := s) (f := 0) (pl := pl) hl wc hN rb r r1 e3 hx hy
    subst e4
    subst e5
    subst e6
    by_cases c1 : x ≤ dv T q (e - q) ∧ dv T q (e - q) ≤ y
    · refine Or.inl ⟨e, dv T q (e - q), q, r2', b1, r1, c1.1, c1.2, hv, fun h hl => by rw [cn h hl, if_pos c1], fun h hl => ?_⟩
      exact bS (mck hl) (bS (nx h hl) (bS (x6 hl) (iF (by decide) (bS (x6 hl) (iT rfl (bS (x8 hl) (iF (nI_nlt c1.1 (by omega)) (bS (x8 hl) (iT (nI_le c1.2 hy) (bS (x8 hl) rfl))))))))))
    · refine Or.inr ⟨2, nI q, by decide, ⟨nI e, nI (dv T q (e - q)), nI q, fun h hl => by rw [cn h hl, if_neg c1]⟩, nI e, 2, nI q, nI (dv T q (e - q)), fun h hl => ?_⟩
      have n60 : f_X12_numberOf_60 N 27 (mp h (mK I (nI e) 2 (nI q) (nI (dv T q (e - q))) 0 bp) A) = some (nI (dv T q (e - q)), mp h (mK I (nI e) 2 (nI q) (nI (dv T q (e - q))) 2 (nI q)) A) := bS (x7 hl) (bS (mck hl) (bS (m_fail0 hl) (bS (x8 hl) rfl)))
      refine bS (mck hl) (bS (nx h hl) (bS (x6 hl) (iF (by decide) (bS (x6 hl) (iT rfl (bS (x8 hl) ?_))))))
      by_cases c2 : x ≤ dv T q (e - q)
      · exact iF (nI_nlt c2 (by omega)) (bS (x8 hl) (iF (nI_ge (by have := c1; omega) (by omega)) n60))
      · exact iT (nI_lt (by omega) (by omega)) n60
  · subst e4
    subst e5
    exact Or.inr ⟨1, nI (q + 6), by decide, ⟨_, _, _, fun h hl => c_num7 hl wc hN rb r e3 _ _⟩, nI (q + 6), 3, nI q, n', fun h hl => bS (mck hl) (bS (nx h hl) (bS (x6 hl) (iT rfl (bS (x4 hl) (bS (mck hl) (bS (m_fail0 hl) (bS (x8 hl) rfl)))))))⟩
  · refine Or.inr (notD ?_ ?_ ?_)
    · rcases e2 with e2 | e2 <;> rw [e3, e2] <;> decide
    · rcases e2 with e2 | e2 <;> rw [e3, e2] <;> decide
    · intro z
      have := z.2
      unfold isD at this
      omega
  · exact Or.inr (notD (by rw [e6]; decide) (by rw [e6]; decide) (fun z => e3 z.2))
theorem b_sign (hN : 1100 ≤ N) (wc : tpC K KA T t) (wm : tpM I A T t) {p c : Nat} (hp : p ≤ t) (hc : c = 58 ∨ c = 59) (k g m bp n s pl : Int32) :
    (∃ q, p ≤ q ∧ q < t ∧ (∀ h : zH, 46 ≤ h.length → f_X5_readSign N 1 (nI c) (cp h (rK K (nI p) n s 0 pl) KR KA KP) = some (1, cp h (rK K (nI (q + 1)) n s 0 pl) KR KA KP)) ∧ ∃ m', ∀ h : zH, 46 ≤ h.length → f_X12_sign N 27 (nI c) (mp h (mK I (nI p) k g m 0 bp) A) = some (mp h (mK I (nI (q + 1)) (nI c) (nI q) m' 0 bp) A)) ∨
    (∃ ft P, ft ≠ 0 ∧ (∃ a, ∀ h : zH, 46 ≤ h.length → f_X5_readSign N 1 (nI c) (cp h (rK K (nI p) n s 0 pl) KR KA KP) = some (0, cp h (rK K a n s ft P) KR KA KP)) ∧ ∃ a' k' g' m', ∀ h : zH, 46 ≤ h.length → f_X12_sign N 27 (nI c) (mp h (mK I (nI p) k g m 0 bp) A) = some (mp h (mK I a' k' g' m' ft P) A)) := by
  obtain ⟨q, rb⟩ := run_ex isB T hp
  obtain ⟨a', k', n', tk, nx⟩ := m_next (N := N) (k := k) (g := g) (n := m) (b := 0) (p := bp) trivial hN wm rb
  have b1 := rb.1
  have b2 := rb.2.1
  have t1 := wc.2.1
  by_cases hq : q < t ∧ T q = c
  · refine Or.inl ⟨q, b1, hq.1, fun h hl => c_rS1 hl wc hN rb hq.1 hq.2, n', fun h hl => ?_⟩
    have hk : k' = nI c ∧ a' = nI (q + 1) := by
      rcases tk with ⟨e1, e2, e3⟩ | ⟨e1, e2, e3, e4⟩ | ⟨e1, e2, -⟩ | ⟨e1, e2, e3, e4⟩ | ⟨e1, e2, e3, e4, e5, e6, e7⟩
      · omega
      · unfold isL at e2; omega
      · unfold isD at e2; omega
      · exact ⟨by rw [e3, hq.2], e4⟩
      · omega
    rw [← hk.1, ← hk.2]
    exact bS (mck hl) (bS (nx h hl) (bS (x6 hl) (iT rfl rfl)))
  · have hk : k' ≠ nI c := by
      have hc1 : (nI c = 58 ∧ c = 58) ∨ (nI c = 59 ∧ c = 59) := hc.imp (fun z => ⟨by rw [z]; rfl, z⟩) (fun z => ⟨by rw [z]; rfl, z⟩)
      have n1 : nI c ≠ 0 ∧ nI c ≠ 1 ∧ nI c ≠ 2 ∧ nI c ≠ 3 ∧ nI c ≠ -1 := by
        rcases hc1 with ⟨z, -⟩ | ⟨z, -⟩ <;> rw [z] <;> decide
      rcases tk with ⟨e1, e2, e3⟩ | ⟨e1, e2, e3, e4⟩ | ⟨e1, e2, e, r, ⟨e3, e4, e5, e6⟩ | ⟨e3, e4, e5⟩⟩ | ⟨e1, e2, e3, e4⟩ | ⟨e1, e2, e3, e4, e5, e6, e7⟩
      · rw [e2]; exact n1.1.symm
      · rw [e3]; exact n1.2.1.symm
      · rw [e4]; exact n1.2.2.1.symm
      · rw [e4]; exact n1.2.2.2.1.symm
      · rw [e3]
        intro z
        exact hq ⟨e1, (nI_eq (by omega) (by omega)).mp z⟩
      · rw [e6]; exact n1.2.2.2.2.symm
    refine Or.inr ⟨1, nI q, by decide, ⟨nI q, fun h hl => c_rS0 hl wc hN rb hq (by omega)⟩, a', k', nI q, n', fun h hl => ?_⟩
    exact bS (mck hl) (bS (nx h hl) (bS (x6 hl) (iF hk (bS (x7 hl) (bS (mck hl) (bS (m_fail0 hl) rfl))))))
theorem mwl (hl : 46 ≤ h.length) {J : Nat → Int32} {k : Nat} (hk : k < 8) : zlen (mp h J A) (some (30 + k)) = some (nI (zSl.getD k 0)) ∧ ∀ j, j < zSl.getD k 0 → zld (mp h J A) 2 (some (30 + k)) (nI j) = some ((zSb.getD k []).getD j 0) := by
  rcases (show k = 0 ∨ k = 1 ∨ k = 2 ∨ k = 3 ∨ k = 4 ∨ k = 5 ∨ k = 6 ∨ k = 7 by omega) with rfl | rfl | rfl | rfl | rfl | rfl | rfl | rfl
  · exact ⟨mn13 hl, fun j hj => ml13 hl hj⟩
  · exact ⟨mn14 hl, fun j hj => ml14 hl hj⟩
  · exact ⟨mn15 hl, fun j hj => ml15 hl hj⟩
  · exact ⟨mn16 hl, fun j hj => ml16 hl hj⟩
  · exact ⟨mn17 hl, fun j hj => ml17 hl hj⟩
  · exact ⟨mn18 hl, fun j hj => ml18 hl hj⟩
  · exact ⟨mn19 hl, fun j hj => ml19 hl hj⟩
  · exact ⟨mn20 hl, fun j hj => ml20 hl hj⟩
theorem m_word (hl : 46 ≤ h.length) (hN : 1100 ≤ N) (w : tpM I A T t) {q e k : Nat} {n b p : Int32} (hk : k < 8) (r : run isL T t q e) : ∃ v, f_X12_isWord N 27 (some (30 + k)) (mp h (mK I (nI e) 1 (nI q) n b p) A) = some v ∧ (v = 0 ↔ ¬ wdQ T q e k) := by
  obtain ⟨w1, w2, w3⟩ := id w
  obtain ⟨e1, e2, e3, e4⟩ := id r
  have l7 := zSl_le hk
  obtain ⟨hst, hch⟩ := mwl (A := A) (J := mK I (nI e) 1 (nI q) n b p) hl hk
  unfold f_X12_isWord
  rw [x6 hl, Option.bind_some, if_pos rfl, x4 hl, Option.bind_some, x7 hl, Option.bind_some, hst, Option.bind_some, pk_sub e1]
  by_cases hlen : e - q = zSl.getD k 0
  · rw [if_pos (by rw [hlen])]
    obtain ⟨a, a1, a2, a3⟩ := exFst (fun i => nI (T (q + i)) ≠ (zSb.getD k []).getD i 0) (zSl.getD k 0)
    have go : ∀ (m c fuel : Nat), c + m = a → m < fuel → f_X12_isWord_26 N fuel 27 (some (30 + k)) (nI c) (mp h (mK I (nI e) 1 (nI q) n b p) A) = some (if a < zSl.getD k 0 then 0 else 1) := by
      intro m
      induction m with
      | zero =>
        intro c fuel h1 h2
        obtain ⟨fuel, rfl⟩ : ∃ x, fuel = x + 1 := ⟨fuel - 1, by omega⟩
        rw [f_X12_isWord_26, show c = a by omega]
        refine bS hst ?_
        by_cases ha : a < zSl.getD k 0
        · rw [if_pos (show a < zSl.getD k 0 from ha)]
          refine iF (nI_ge ha (by omega)) (bS (mg2 hl) (bS (x7 hl) ?_))
          rw [nI_add]
          exact bS (lT hl w (by omega)) (bS (hch a ha) (iF (a3 ha) rfl))
        · rw [if_neg (show ¬ a < zSl.getD k 0 from ha)]
          exact iT (nI_le (by omega) (by omega)) rfl
      | succ m ih =>
        intro c fuel h1 h2
        obtain ⟨fuel, rfl⟩ : ∃ x, fuel = x + 1 := ⟨fuel - 1, by omega⟩
        rw [f_X12_isWord_26]
        refine bS hst (iF (nI_ge (by omega) (by omega)) (bS (mg2 hl) (bS (x7 hl) ?_)))
        rw [nI_add]
        refine bS (lT hl w (by omega)) (bS (hch c (by omega)) (iT (Classical.not_not.mp (a2 c (by omega))) ?_))
        rw [la_r]
        exact ih (c + 1) fuel (by omega) (by omega)
    refine ⟨_, go a 0 N (by omega) (by omega), ?_⟩
    by_cases ha : a < zSl.getD k 0
    · rw [if_pos ha]
      exact ⟨fun _ z => a3 ha (z.2 a ha), fun _ => rfl⟩
    · rw [if_neg ha]
      exact ⟨fun z => absurd z (by decide), fun z => absurd ⟨hlen, fun i hi => Classical.not_not.mp (a2 i (by omega))⟩ z⟩
  · rw [if_neg (fun z => hlen ((nI_eq (by omega) (by omega)).mp z))]
    exact ⟨0, rfl, fun _ z => hlen z.1, fun _ => rfl⟩
end tok
