/-! ===== what holds between two calls ===== -/
def CH (h : zH) (KI : Nat → Int32) (KR : Nat → Option Nat) (KA : Nat → Nat → Int32) (KP : Nat → Option Nat) : Prop := ∀ k e, cC KI KR KA KP k = some e → h[k]? = some e
def MH (h : zH) (I : Nat → Int32) (A : Nat → Nat → Int32) : Prop := ∀ k e, mC I A k = some e → h[k]? = some e
theorem cC_lt {KI : Nat → Int32} {KR : Nat → Option Nat} {KA : Nat → Nat → Int32} {KP : Nat → Option Nat} {k : Nat} {e : zE} (hk : cC KI KR KA KP k = some e) : k < 19 := by
  apply Nat.lt_of_not_le
  intro q
  rw [cC_none (Or.inl q)] at hk
  cases hk
theorem mC_in {I : Nat → Int32} {A : Nat → Nat → Int32} {k : Nat} {e : zE} (hk : mC I A k = some e) : 27 ≤ k ∧ k < 46 := by
  apply Classical.byContradiction
  intro q
  rw [mC_none (by omega)] at hk
  cases hk
section inv
variable {h : zH} {ns : List zE} {KI : Nat → Int32} {KR : Nat → Option Nat} {KA : Nat → Nat → Int32} {KP : Nat → Option Nat} {I : Nat → Int32} {A : Nat → Nat → Int32}
theorem CH.eq (q : CH h KI KR KA KP) : cp h KI KR KA KP = h := by
  apply List.ext_getElem?
  intro i
  cases hn : cC KI KR KA KP i with
  | none => exact cp_out hn
  | some e =>
    have h1 := q i e hn
    rw [cp, List.getElem?_mapIdx, h1, hn]
    rfl
theorem MH.eq (q : MH h I A) : mp h I A = h := by
  apply List.ext_getElem?
  intro i
  cases hn : mC I A i with
  | none => exact mp_out hn
  | some e =>
    have h1 := q i e hn
    rw [mp, List.getElem?_mapIdx, h1, hn]
    rfl
theorem CH.of (hl : 46 ≤ h.length) : CH (cp h KI KR KA KP) KI KR KA KP := fun k e hk => cp_get hl hk (by have := cC_lt hk; omega)
theorem MH.of (hl : 46 ≤ h.length) : MH (mp h I A) I A := fun k e hk => mp_get hl hk (mC_in hk).2
theorem CH.mp (q : CH h KI KR KA KP) : CH (mp h I A) KI KR KA KP := fun k e hk => by
  rw [mp_out (mC_none (by have := cC_lt hk; omega))]
  exact q k e hk
theorem MH.cp (q : MH h I A) : MH (cp (h ++ ns) KI KR KA KP) I A := fun k e hk => by
  rw [cp_hi (by have := mC_in hk; omega)]
  have h1 := q k e hk
  rw [List.getElem?_append_left (List.getElem?_eq_some_iff.mp h1).1]
  exact h1
theorem kept.cp : kept h (cp (h ++ ns) KI KR KA KP) := fun a fa e he => by
  rw [cp_hi (by unfold fz at fa; omega), List.getElem?_append_left (List.getElem?_eq_some_iff.mp he).1]
  exact he
theorem kept.mp : kept h (mp h I A) := fun a fa e he => by
  rw [mp_out (mC_none (by unfold fz at fa; omega))]
  exact he
end inv
/-- the tapes hold the same bytes -/
def tpR (KI : Nat → Int32) (KA : Nat → Nat → Int32) (I : Nat → Int32) (A : Nat → Nat → Int32) : Prop := ∃ t, KI 1 = nI t ∧ I 3 = nI t ∧ t ≤ 1000 ∧ ∀ j, j < t → KA 3 j &&& 255 = A 2 j ∧ ∃ v, A 2 j = nI v ∧ v < 256
/-- the same arrows are told -/
def qvR (KI : Nat → Int32) (KA : Nat → Nat → Int32) (I : Nat → Int32) (A : Nat → Nat → Int32) : Prop := ∃ n, KI 2 = nI n ∧ I 23 = nI n ∧ n ≤ 6 ∧ ∀ k, k < n → KA 14 k = A 24 k ∧ KA 15 k = A 25 k ∧ KA 16 k = A 26 k ∧
  ∃ kd, A 24 k = nI kd ∧ kd ≤ 4 ∧ (kd = 0 → (-20000 ≤ A 25 k ∧ A 25 k ≤ 20000) ∧ -20000 ≤ A 26 k ∧ A 26 k ≤ 20000) ∧ (kd = 4 → ∃ x, A 25 k = nI x ∧ x ≤ 5)
/-- the class and the model in one heap, related -/
def IN (h : zH) (KI : Nat → Int32) (KR : Nat → Option Nat) (KA : Nat → Nat → Int32) (KP : Nat → Option Nat) (I : Nat → Int32) (A : Nat → Nat → Int32) (c q : Nat) : Prop :=
  46 ≤ h.length ∧ CH h KI KR KA KP ∧ MH h I A ∧ KI 0 = nI c ∧ I 1 = nI c ∧ c ≤ 4 ∧ KR 0 = some q ∧ SR h q (seg (A 0) 0) ∧ (∀ i, i < c → ∃ p, KP i = some p ∧ SR h p (seg (A 0) (i + 1))) ∧ tpR KI KA I A ∧ (KI 15 = I 11 ∧ KI 16 = I 12) ∧ qvR KI KA I A
theorem SR.st {h : zH} {q : Nat} {F : Nat → Int32} (s : SR h q F) : 19 ≤ q ∧ ∃ ps, h[q]? = some (.inr (9, ps)) := by
  obtain ⟨rq, aq, lq, nq, AR, s0, -⟩ := s
  have h1 := s0.1
  unfold fz at h1
  exact ⟨by omega, _, s0.2⟩
/-- a change: the class made a new State, the model kept its segment and changed it -/
theorem IN.change {h : zH} {ns : List zE} {KI : Nat → Int32} {KR : Nat → Option Nat} {KA KA' : Nat → Nat → Int32} {KP : Nat → Option Nat} {I : Nat → Int32} {A : Nat → Nat → Int32} {c q : Nat} (H : IN h KI KR KA KP I A c q) {d' : Nat → Int32} {KI' I' : Nat → Int32} {A' : Nat → Nat → Int32}
    (hK0 : KI' 0 = nI (kpC c)) (hI1 : I' 1 = nI (kpC c)) (hA0 : A' 0 = d') (hd : ∀ i, 1 ≤ i → seg d' i = seg (kpD (A 0) c) i)
    (hS : SR (cp (h ++ ns) KI' (va_up KR 0 (some (h.length + 0))) KA' (kpP KP c q)) (h.length + 0) (seg d' 0)) (hT : tpR KI' KA' I' A') (hF : KI' 15 = I' 11 ∧ KI' 16 = I' 12) (hQ : qvR KI' KA' I' A') :
    IN (mp (cp (h ++ ns) KI' (va_up KR 0 (some (h.length + 0))) KA' (kpP KP c q)) I' A') KI' (va_up KR 0 (some (h.length + 0))) KA' (kpP KP c q) I' A' (kpC c) (h.length + 0) := by
  obtain ⟨hl, hC, hM, i1, i2, i3, i4, i5, i6, -⟩ := H
  have hl2 : 46 ≤ (h ++ ns).length := by rw [List.length_append]; omega
  have hl3 : 46 ≤ (cp (h ++ ns) KI' (va_up KR 0 (some (h.length + 0))) KA' (kpP KP c q)).length := by rw [cp_len]; exact hl2
  have kk : kept h (mp (cp (h ++ ns) KI' (va_up KR 0 (some (h.length + 0))) KA' (kpP KP c q)) I' A') := kept.cp.tr kept.mp
  refine ⟨by rw [mp_len]; exact hl3, (CH.of hl2).mp, MH.of hl3, hK0, hI1, ?_, vu_at _ _ _, ?_, ?_, hT, hF, hQ⟩
  · unfold kpC; split <;> omega
  · rw [hA0]; exact hS.mono kept.mp
  · intro i hi
    rw [hA0, hd (i + 1) (by omega)]
    by_cases hlast : i + 1 = kpC c
    · refine ⟨q, ?_, ?_⟩
      · unfold kpP
        unfold kpC at hlast
        split
        · next h4 => rw [if_pos h4] at hlast; rw [show i = 3 by omega, vu_at]
        · next h4 => rw [if_neg h4] at hlast; rw [show i = c by omega, vu_at]
      · rw [hlast, seg_kpc]
        exact i5.mono kk
    · rw [seg_kpi _ i3 (by omega) (by omega)]
      by_cases h4 : c = 4
      · subst h4
        have hi3 : i < 3 := by unfold kpC at hi hlast; rw [if_pos rfl] at hi hlast; omega
        obtain ⟨p, e1, e2⟩ := i6 (i + 1) (by omega)
        refine ⟨p, ?_, by rw [if_pos rfl]; exact e2.mono kk⟩
        unfold kpP
        rw [if_pos rfl, vu_ne _ _ (by omega)]
        rcases (show i = 0 ∨ i = 1 ∨ i = 2 by omega) with rfl | rfl | rfl
        · rw [vu_ne _ _ (by omega), vu_ne _ _ (by omega), vu_at]; exact e1
        · rw [vu_ne _ _ (by omega), vu_at]; exact e1
        · rw [vu_at]; exact e1
      · have hic : i < c := by unfold kpC at hi hlast; rw [if_neg h4] at hi hlast; omega
        obtain ⟨p, e1, e2⟩ := i6 i hic
        refine ⟨p, ?_, by rw [if_neg h4]; exact e2.mono kk⟩
        unfold kpP
        rw [if_neg h4, vu_ne _ _ (by omega)]
        exact e1
