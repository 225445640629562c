/-! ===== of ===== -/
def awTo (F : Nat → Int32) : Nat → Int32
  | 0 => 0
  | l + 1 => awTo F l + F (2 + 3 * l) * F (3 + 3 * l)
theorem awTo.cg {F F' : Nat → Int32} (q : ∀ j, j < 125 → F' j = F j) : ∀ {l : Nat}, l < 30 → awTo F' l = awTo F l
  | 0, _ => rfl
  | l + 1, hl => by rw [awTo, awTo, awTo.cg q (by omega), q _ (by omega), q _ (by omega)]
def ofF (F : Nat → Int32) (x : Int32) : Int32 := if x = 0 then F 1 else if x = 1 then nI (tE F) else if x = 2 then awTo F (min (gL F) 4) else if x = 3 then F 14 else if x = 4 then F 115 else if x = 5 then F 122 else if x = 6 then F 123 else if x = 7 then F 124 else -1
theorem ofF.cg {F F' : Nat → Int32} (q : ∀ j, j < 125 → F' j = F j) (x : Int32) : ofF F' x = ofF F x := by
  unfold ofF
  rw [q 1 (by omega), q 14 (by omega), q 115 (by omega), q 122 (by omega), q 123 (by omega), q 124 (by omega), tE.cg q, gL.cg q, awTo.cg q (by omega)]
section tell
variable {H : zH} {F : Nat → Int32} {r N : Nat}
theorem g_countArrows (w : rR H (some r) F) (hN : 5 ≤ N) : f_X6_countArrows N r H = some (awTo F (min (gL F) 4)) := by
  obtain ⟨w, a1, a2, a3, a4, a5, a6, a7, a8, f1, f2, f3, f4, f5, f6, f7, f8, q0, q1, q2, q3, q4, q5, q6, q7, q8, z1, z2, z3, z4⟩ := w
  have h4 := (wf_L w).2.2
  have go : ∀ (k n l : Nat), k < n → l + k = gL F → f_X6_countArrows_4 N n r (awTo F l) (nI l) H = some (awTo F (gL F)) := by
    intro k
    induction k with
    | zero =>
      intro n l h0 h1
      obtain ⟨n, rfl⟩ : ∃ m, n = m + 1 := ⟨n - 1, by omega⟩
      rw [f_X6_countArrows_4, show l = gL F by omega]
      exact bS (fgI q0.2 rfl) (iT (by rw [(wf_L w).1]; exact Int32.le_refl _) rfl)
    | succ k ih =>
      intro n l h0 h1
      obtain ⟨n, rfl⟩ : ∃ m, n = m + 1 := ⟨n - 1, by omega⟩
      rw [f_X6_countArrows_4]
      refine bS (fgI q0.2 rfl) (iF (by rw [(wf_L w).1]; exact nI_ge (by omega) (by omega)) (bS (fgR q0.2 rfl) (bS (fld_ q4.2 (by omega) (by omega)) (bS (fgR q0.2 rfl) (bS (fld_ q5.2 (by omega) (by omega)) ?_)))))
      rw [(z2 l (by omega)).1, (z2 l (by omega)).2.1, la_r]
      exact ih n (l + 1) (by omega) (by omega)
  rw [Nat.min_eq_left h4]
  exact go (gL F) N 0 (by omega) (by omega)
theorem g_setting (w : rR H (some r) F) {i : Nat} (hi : i < 3) : f_X6_setting N r (nI i) H = some (F (122 + i)) := by
  obtain ⟨w, a1, a2, a3, a4, a5, a6, a7, a8, f1, f2, f3, f4, f5, f6, f7, f8, q0, q1, q2, q3, q4, q5, q6, q7, q8, z1, z2, z3, z4⟩ := w
  obtain ⟨x, w9, w10⟩ := w.2.2.2.2 i hi
  unfold f_X6_setting f_X6_isSet
  refine bS (fk q0.2) ?_
  have hs : ∀ {v}, (if f8 i = -1 then some (0 : Int32) else some 1) = some v → f_X6_isSet N r (nI i) H = some v := fun hv => iF (nI_pos (by omega)) (bS (fgR q0.2 rfl) (bS (flen q8.2 (by omega)) (iF (nI_ge hi (by omega)) (bS (fgR q0.2 rfl) (bS (fld_ q8.2 hi (by omega)) hv)))))
  rcases z4 i hi with ⟨e1, e2⟩ | e1
  · rw [e2]
    exact bS (hs (if_pos e1)) (iT rfl rfl)
  · refine bS (hs (if_neg ?_)) (iF (by decide) (bS (fgR q0.2 rfl) (bS (fld_ q8.2 hi (by omega)) (by rw [e1]))))
    rw [e1, w9]
    exact nI_nm (by omega)
theorem g_tell (w : rR H (some r) F) (hN : 5 ≤ N) (x : Int32) : f_X6_tell N r x H = some (ofF F x) := by
  have gE := g_countEnds w hN
  have gA := g_countArrows w hN
  have gS := fun i (hi : i < 3) => g_setting (N := N) w hi
  obtain ⟨w, a1, a2, a3, a4, a5, a6, a7, a8, f1, f2, f3, f4, f5, f6, f7, f8, q0, -⟩ := w
  unfold f_X6_tell ofF
  by_cases k0 : x = 0
  · rw [if_pos k0, if_pos k0]; exact bS (fgI q0.2 rfl) rfl
  rw [if_neg k0, if_neg k0]
  by_cases k1 : x = 1
  · rw [if_pos k1, if_pos k1]; exact bS (fk q0.2) (bS gE rfl)
  rw [if_neg k1, if_neg k1]
  by_cases k2 : x = 2
  · rw [if_pos k2, if_pos k2]; exact bS (fk q0.2) (bS gA rfl)
  rw [if_neg k2, if_neg k2]
  by_cases k3 : x = 3
  · rw [if_pos k3, if_pos k3]; exact bS (fgI q0.2 rfl) rfl
  rw [if_neg k3, if_neg k3]
  by_cases k4 : x = 4
  · rw [if_pos k4, if_pos k4]; exact bS (fgI q0.2 rfl) rfl
  rw [if_neg k4, if_neg k4]
  by_cases k5 : x = 5
  · rw [if_pos k5, if_pos k5]; exact bS (fk q0.2) (bS (gS 0 (by omega)) rfl)
  rw [if_neg k5, if_neg k5]
  by_cases k6 : x = 6
  · rw [if_pos k6, if_pos k6]; exact bS (fk q0.2) (bS (gS 1 (by omega)) rfl)
  rw [if_neg k6, if_neg k6]
  by_cases k7 : x = 7
  · rw [if_pos k7, if_pos k7]; exact bS (fk q0.2) (bS (gS 2 (by omega)) rfl)
  rw [if_neg k7, if_neg k7]
end tell
section mof
variable {h : zH} {I : Nat → Int32} {A : Nat → Nat → Int32} {N : Nat}
theorem m_of_18 (hl : 46 ≤ h.length) (w : wfR (A 0)) (x : Int32) : ∀ (k n l : Nat), k < n → l + k = gL (A 0) → f_X12_of_18 N n 27 x (nI (endsTo (A 0) l)) (awTo (A 0) l) (nI l) (mp h I A) = some (ofF (A 0) x) := by
  have h4 := (wf_L w).2.2
  intro k
  induction k with
  | zero =>
    intro n l h0 h1
    obtain ⟨n, rfl⟩ : ∃ m, n = m + 1 := ⟨n - 1, by omega⟩
    rw [f_X12_of_18, show l = gL (A 0) by omega]
    simp (disch := omega) only [mg0 hl, ml0L hl, Option.bind_some]
    rw [if_pos (by rw [(wf_L w).1]; exact Int32.le_refl _)]
    unfold ofF
    rw [Nat.min_eq_left h4, tE_eq w]
    simp only [apply_ite some]
  | succ k ih =>
    intro n l h0 h1
    obtain ⟨n, rfl⟩ : ∃ m, n = m + 1 := ⟨n - 1, by omega⟩
    rw [f_X12_of_18]
    simp (disch := omega) only [mg0 hl, ml0L hl, ml0 hl, lm_l, la_l, la_r, Option.bind_some]
    have e1 : nI (endsTo (A 0) l) + A 0 (2 + 3 * l) = nI (endsTo (A 0) (l + 1)) := by rw [(wf_e w (by omega)).1, nI_add]; rfl
    rw [if_neg (by rw [(wf_L w).1]; exact nI_ge (by omega) (by omega)), show 2 + 3 * l + 1 = 3 + 3 * l by omega, e1]
    exact ih n (l + 1) (by omega) (by omega)
theorem m_of (hl : 46 ≤ h.length) (hN : 5 ≤ N) (w : wfR (A 0)) (x : Int32) : f_X12_of N 27 x (mp h I A) = some (ofF (A 0) x) := by
  have h4 := (wf_L w).2.2
  unfold f_X12_of
  refine bS (mg0 hl) (bS (ml0 hl (j := 0) (by omega)) (iF ?_ (m_of_18 hl w x (gL (A 0)) N 0 (by omega) (by omega))))
  show ¬ A 0 0 = 0
  rw [w.1]; decide
theorem m_of1 (hl : 46 ≤ h.length) (hN : 5 ≤ N) (w : wfR (A 0)) : f_X12_of N 27 1 (mp h I A) = some (nI (tE (A 0))) := m_of hl hN w 1
end mof
theorem op_of {h : zH} {N : Nat} (hN : 21000 ≤ N) (H : INX h) (x : Int32) : OPr (f_X11_of N 0 x) (f_X12_of N 27 x) h := by
  obtain ⟨KI, KR, KA, KP, I, A, c, q, H⟩ := H
  obtain ⟨hl, hC, hM, i1, i2, i3, i4, i5, i6, i7, i8, i9⟩ := id H
  obtain ⟨rq, aq, lq, nq, AR, s0, s1, s2, s3, s4, s5, s6⟩ := id i5
  have hq5 : zgR (cp h KI KR KA KP) 11 (some 0) 5 = some (some q) := (cg0_5 hl).trans (congrArg some i4)
  cases rq with
  | none =>
    refine OPr.of H (r := -1) (bS hq5 (bS (fgR s0.c rfl) (iT rfl rfl))) (bS (mg0 hl) (bS (ml0 hl (j := 0) (by omega)) (iT ?_ rfl)))
    exact (seg_lo _ (j := 0) (by omega)).symm.trans s2
  | some r =>
    have s2' : rR (cp h KI KR KA KP) (some r) (seg (A 0) 0) := s2.mono cp0k
    have rk : zck (cp h KI KR KA KP) 6 (some r) = some r := by obtain ⟨w, a1, a2, a3, a4, a5, a6, a7, a8, f1, f2, f3, f4, f5, f6, f7, f8, q0, -⟩ := s2'; exact fk q0.2
    have wd : wfR (A 0) := wfR.cg (sg125 _) s2.1
    exact OPr.of H (bS hq5 (bS (fgR s0.c rfl) (iF (by simp) (bS hq5 (bS (fgR s0.c rfl) (bS rk (bS (g_tell s2' (by omega) x) rfl))))))) (by rw [m_of hl (by omega) wd, ofF.cg (sg125 _)])
