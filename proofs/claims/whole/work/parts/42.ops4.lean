/-! ===== state; an archer found ===== -/
theorem nI_nm {n : Nat} (h : n < 2 ^ 31) : nI n ≠ -1 := by
  intro z
  have z2 := congrArg Int32.toInt z
  rw [nI_toInt h] at z2
  have z3 : (-1 : Int32).toInt = -1 := by decide
  omega
section view
variable {h : zH} {KI : Nat → Int32} {KR : Nat → Option Nat} {KA : Nat → Nat → Int32} {KP : Nat → Option Nat} {a ci n : Nat} {fs : List zV} {f : Nat → Int32}
theorem fz_19 (q : fz a) : 19 ≤ a := by unfold fz at q; omega
theorem oO.c (q : oO h a ci fs) : (cp h KI KR KA KP)[a]? = some (.inr (ci, fs)) := (cp_hi (fz_19 q.1)).trans q.2
theorem aI.c (q : aI h a n f) : (cp h KI KR KA KP)[a]? = some (.inl (0, n, .inl f)) := (cp_hi (fz_19 q.1)).trans q.2
theorem pA_seg (d : Nat → Int32) (x : Int32) : pA (seg d 0) x = pA d x := by
  unfold pA
  by_cases h1 : x < 0
  · rw [if_pos h1, if_pos h1]
  by_cases h2 : 16 ≤ x
  · rw [if_neg h1, if_pos h2, if_neg h1, if_pos h2]
  · rcases pk_ix x (n := 16) (by omega) with h3 | h3 | ⟨j, hj, rfl⟩
    · exact absurd h3 h1
    · exact absurd h3 h2
    · rw [nI_clamp (by omega), seg_lo _ (by omega)]
/-- State.find -/
theorem c_find {q aq N : Nat} {rq x2 x3 : Option Nat} {td : Int32} {AR : Nat → Option Nat} {F : Nat → Int32} (s0 : oO h q 9 [zr rq, zr (some aq), zr x2, zr x3, zi td]) (s1 : fz aq ∧ h[aq]? = some (.inl (4, 16, .inr AR))) (s3 : ∀ a, a < 16 → arR h (AR a) F a) (x : Int32) :
    (pA F x = none → f_X9_find N q x (cp h KI KR KA KP) = some none) ∧ ∀ j, pA F x = some j → ∃ y, AR j = some y ∧ f_X9_find N q x (cp h KI KR KA KP) = some (some y) := by
  have g0 : (cp h KI KR KA KP)[q]? = some (.inr (9, [zr rq, zr (some aq), zr x2, zr x3, zi td])) := s0.c
  have g1 : (cp h KI KR KA KP)[aq]? = some (.inl (4, 16, .inr AR)) := (cp_hi (fz_19 s1.1)).trans s1.2
  unfold f_X9_find
  rw [fgR g0 rfl, Option.bind_some, flen g1 (by omega), Option.bind_some, Option.bind_some]
  rcases pk_ix x (n := 16) (by omega) with h1 | h1 | ⟨i, hi, rfl⟩
  · rw [if_pos h1]
    refine ⟨fun _ => rfl, fun j hj => ?_⟩
    obtain ⟨e1, rfl, -⟩ := pA_some hj
    exact absurd h1 (nI_pos (by omega))
  · by_cases h0 : x < 0
    · rw [if_pos h0]
      refine ⟨fun _ => rfl, fun j hj => ?_⟩
      obtain ⟨e1, rfl, -⟩ := pA_some hj
      exact absurd h0 (nI_pos (by omega))
    · rw [if_neg h0, if_pos h1]
      refine ⟨fun _ => rfl, fun j hj => ?_⟩
      obtain ⟨e1, rfl, -⟩ := pA_some hj
      exact absurd h1 (nI_ge (by omega) (by omega))
  · rw [if_neg (nI_pos (by omega)), if_neg (nI_ge hi (by omega)), fldR g1 hi (by omega), Option.bind_some]
    have w := s3 i hi
    refine ⟨fun hp => ?_, fun j hj => ?_⟩
    · cases hA : AR i with
      | none => rfl
      | some y =>
        rw [hA] at w
        obtain ⟨⟨cl, e1, e2⟩, -⟩ := w
        unfold pA at hp
        rw [if_neg (nI_pos (by omega)), if_neg (show ¬ (16 : Int32) ≤ nI i from nI_ge (b := 16) (by omega) (by omega)), nI_clamp (by omega), if_neg (by rw [e1]; exact nI_nm (by omega))] at hp
        cases hp
    · obtain ⟨e1, e2, e3⟩ := pA_some hj
      have hij : i = j := (nI_eq (by omega) (by omega)).mp e2
      subst hij
      cases hA : AR i with
      | none => rw [hA] at w; exact absurd w e3
      | some y => exact ⟨y, rfl, rfl⟩
end view
theorem op_state {h : zH} {N : Nat} (H : INX h) (x : Int32) : OPr (f_X11_state N 0 x) (f_X12_state N 27 x) h := by
  obtain ⟨KI, KR, KA, KP, I, A, c, q, H⟩ := H
  obtain ⟨hl, hC, hM, i1, i2, i3, i4, i5, i6, i7, i8, i9⟩ := id H
  obtain ⟨rq, aq, lq, nq, AR, s0, s1, s2, s3, s4, ⟨b1, b2, b3, n, f1, f2, f3, w0, w1, w2, w3, z1, z2, z3, z4⟩, s6⟩ := id i5
  rw [seg_lo _ (by omega)] at z1
  have cx : ∀ r, f_X2_stateOf N nq x (cp h KI KR KA KP) = some r → f_X11_state N 0 x (cp h KI KR KA KP) = some r := by
    intro r hr
    unfold f_X11_state
    rw [cg0_5 hl, Option.bind_some, i4, fgR s0.c rfl, Option.bind_some, fk w0.c, Option.bind_some, hr, Option.bind_some]
  unfold f_X2_stateOf at cx
  rw [fgR w0.c rfl, Option.bind_some, flen w2.c (by omega), Option.bind_some, Option.bind_some] at cx
  have mx : f_X12_state N 27 x (mp h I A) = if x < 0 then some (-1) else if nI n ≤ x then some (-1) else (zld (mp h I A) 0 (some 28) (6873 + x)).bind fun x4 => some x4 := by
    unfold f_X12_state
    simp (disch := omega) only [mg0 hl, ml0L hl, Option.bind_some, z1]
  by_cases h1 : x < 0
  · exact OPr.of H (r := -1) (cx _ (by rw [if_pos h1])) (by rw [mx, if_pos h1])
  by_cases h2 : nI n ≤ x
  · exact OPr.of H (r := -1) (cx _ (by rw [if_neg h1, if_pos h2])) (by rw [mx, if_neg h1, if_pos h2])
  rcases pk_ix x (n := n) (by omega) with h3 | h3 | ⟨j, hj, rfl⟩
  · exact absurd h3 h1
  · exact absurd h3 h2
  · refine OPr.of H (r := A 0 (6873 + j)) (cx _ ?_) ?_
    · rw [if_neg h1, if_neg h2, fld_ w2.c hj (by omega), Option.bind_some, (z3 j hj).2.1, seg_lo _ (by omega)]
    · rw [mx, if_neg h1, if_neg h2]
      simp (disch := omega) only [la_l, ml0 hl, Option.bind_some]
