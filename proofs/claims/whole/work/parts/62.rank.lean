/-! ===== ahead, rank ===== -/
section ah
variable {h X : zH} {I : Nat → Int32} {A : Nat → Nat → Int32} {N a b na nb ma mb sa sb : Nat}
theorem offs_both (hl : 46 ≤ h.length) (wa : shV X sa (A 0) a na ma) (wb : shV X sb (A 0) b nb mb) (ha : a < 16) (hb : b < 16) (t : Int32) : ∀ (j k f1 : Nat), k + j = 8 → j < f1 → ∃ o, f_X6_compareOffs_2 N f1 (some sa) (some sb) (nI k) X = some o ∧ (o = 0 ∨ o = 1 ∨ o = -1) ∧ ∀ (K : Nat → Int32 → Int32 → Int32 → Int32 → zH → Option Int32) (f2 : Nat), j + 1 < f2 → f_X12_ahead_131 N K f2 27 (nI a) (nI b) 0 t (nI k) (mp h I A) = K 27 (nI a) (nI b) o (t + 1) (mp h I A) := by
  intro j
  induction j with
  | zero =>
    intro k f1 h1 h2
    obtain ⟨f1, rfl⟩ : ∃ m, f1 = m + 1 := ⟨f1 - 1, by omega⟩
    rw [show k = 8 by omega, f_X6_compareOffs_2]
    refine ⟨0, iT (by decide) rfl, Or.inl rfl, fun K f2 h3 => ?_⟩
    obtain ⟨f2, rfl⟩ : ∃ m, f2 = m + 1 := ⟨f2 - 1, by omega⟩
    rw [f_X12_ahead_131]
    exact iT (by decide) rfl
  | succ j ih =>
    intro k f1 h1 h2
    obtain ⟨f1, rfl⟩ : ∃ m, f1 = m + 1 := ⟨f1 - 1, by omega⟩
    obtain ⟨x1, y1, c1, d1, r1⟩ := sq_both (I := I) (N := N) hl wa ha (k := k) (by omega)
    obtain ⟨x2, y2, c2, d2, r2⟩ := sq_both (I := I) (N := N) hl wb hb (k := k) (by omega)
    obtain ⟨e1, e2⟩ := r1.cmp r2
    obtain ⟨e3, e4⟩ := r2.cmp r1
    rw [f_X6_compareOffs_2]
    have k8 : ¬ (8 : Int32) ≤ nI k := nI_ge (b := 8) (by omega) (by omega)
    by_cases hx : x1 = x2
    · obtain ⟨o, o1, o2, o3⟩ := ih (k + 1) f1 (by omega) (by omega)
      refine ⟨o, iF k8 (bS wa.ck (bS c1 (bS wb.ck (bS c2 (iT hx (by rw [la_r]; exact o1)))))), o2, fun K f2 h3 => ?_⟩
      obtain ⟨f2, rfl⟩ : ∃ m, f2 = m + 1 := ⟨f2 - 1, by omega⟩
      have hy : y1 = y2 := e1.mp hx
      rw [f_X12_ahead_131]
      refine iF k8 (iT rfl (bS (mck hl) (bS d1 (bS (mck hl) (bS d2 (iT (by rw [hy]; exact Int32.le_refl _) (bS (mck hl) (bS d1 (bS (mck hl) (bS d2 (iT (by rw [hy]; exact Int32.le_refl _) ?_)))))))))))
      rw [la_r]
      exact o3 K f2 (by omega)
    · have stop : ∀ (K : Nat → Int32 → Int32 → Int32 → Int32 → zH → Option Int32) (f2 : Nat) (o : Int32), 0 < f2 → o ≠ 0 → f_X12_ahead_131 N K f2 27 (nI a) (nI b) o t (nI k + 1) (mp h I A) = K 27 (nI a) (nI b) o (t + 1) (mp h I A) := by
        intro K f2 o h3 h4
        obtain ⟨f2, rfl⟩ : ∃ m, f2 = m + 1 := ⟨f2 - 1, by omega⟩
        rw [f_X12_ahead_131]
        by_cases h5 : (8 : Int32) ≤ nI k + 1
        · exact iT h5 rfl
        · exact iF h5 (iF h4 rfl)
      by_cases hle : x2 ≤ x1
      · refine ⟨-1, iF k8 (bS wa.ck (bS c1 (bS wb.ck (bS c2 (iF hx (bS wa.ck (bS c1 (bS wb.ck (bS c2 (iT hle rfl)))))))))), Or.inr (Or.inr rfl), fun K f2 h3 => ?_⟩
        obtain ⟨f2, rfl⟩ : ∃ m, f2 = m + 1 := ⟨f2 - 1, by omega⟩
        have hn : ¬ y1 ≤ y2 := fun z => hx (Int32.le_antisymm (e4.mpr z) hle)
        rw [f_X12_ahead_131]
        exact iF k8 (iT rfl (bS (mck hl) (bS d1 (bS (mck hl) (bS d2 (iT (e2.mp hle) (bS (mck hl) (bS d1 (bS (mck hl) (bS d2 (iF hn (stop K f2 (-1) (by omega) (by decide)))))))))))))
      · refine ⟨1, iF k8 (bS wa.ck (bS c1 (bS wb.ck (bS c2 (iF hx (bS wa.ck (bS c1 (bS wb.ck (bS c2 (iF hle rfl)))))))))), Or.inr (Or.inl rfl), fun K f2 h3 => ?_⟩
        obtain ⟨f2, rfl⟩ : ∃ m, f2 = m + 1 := ⟨f2 - 1, by omega⟩
        rw [f_X12_ahead_131]
        exact iF k8 (iT rfl (bS (mck hl) (bS d1 (bS (mck hl) (bS d2 (iF (fun z => hle (e2.mpr z)) (stop K f2 1 (by omega) (by decide))))))))
theorem ah_both {r : Nat} {F : Nat → Int32} (hl : 46 ≤ h.length) (hN : 21000 ≤ N) (wr : rR X (some r) F) (q : ∀ j, j < 6898 → F j = A 0 j) (wa : shV X sa (A 0) a na ma) (wb : shV X sb (A 0) b nb mb) (ha : a < 16) (hb : b < 16) (hpa : A 0 (125 + a) ≠ -1) (hpb : A 0 (125 + b) ≠ -1) :
    ∃ o, f_X6_compare N r (some sa) (some sb) X = some o ∧ (o = 0 ∨ o = 1 ∨ o = -1) ∧ f_X12_ahead N 27 (nI a) (nI b) (mp h I A) = some o := by
  obtain ⟨w, a1, a2, a3, a4, a5, a6, a7, a8, f1, f2, f3, f4, f5, f6, f7, f8, q0, q1, q2, q3, q4, q5, q6, q7, q8, z1, z2, z3, z4⟩ := wr
  have wd : wfR (A 0) := wfR.cg (fun j hj => (q j (by omega)).symm) w
  obtain ⟨ts, t1, t2, t3⟩ := wd.2.2.2.1
  have eF : F 115 = nI ts := (q 115 (by omega)).trans t1
  have ma0 := m_isAr (N := N) (I := I) (A := A) hl ha
  rw [if_neg hpa] at ma0
  have mb0 := m_isAr (N := N) (I := I) (A := A) hl hb
  rw [if_neg hpb] at mb0
  have ez : ¬ (1 : Int32) = 0 := by decide
  have d0 : ¬ A 0 0 = 0 := by rw [wd.1]; decide
  have m115 : zld (mp h I A) 0 (some 28) 115 = some (nI ts) := by rw [ml0L hl 115 (by decide)]; exact congrArg some t1
  have go : ∀ (k t fu1 fu2 : Nat) (o : Int32), t + k = ts → k < fu1 → k < fu2 → (o = 0 ∨ o = 1 ∨ o = -1) → ∃ o', f_X6_compare_15 N fu1 r (some sa) (some sb) o (nI t) X = some o' ∧ (o' = 0 ∨ o' = 1 ∨ o' = -1) ∧ f_X12_ahead_46 N fu2 27 (nI a) (nI b) o (nI t) (mp h I A) = some o' := by
    intro k
    induction k with
    | zero =>
      intro t fu1 fu2 o h1 h2 h3 h4
      obtain ⟨fu1, rfl⟩ : ∃ m, fu1 = m + 1 := ⟨fu1 - 1, by omega⟩
      obtain ⟨fu2, rfl⟩ : ∃ m, fu2 = m + 1 := ⟨fu2 - 1, by omega⟩
      rw [f_X6_compare_15, f_X12_ahead_46, show t = ts by omega]
      exact ⟨o, bS (fgI q0.2 rfl) (iT (by rw [eF]; exact Int32.le_refl _) rfl), h4, bS (mg0 hl) (bS m115 (iT (Int32.le_refl _) rfl))⟩
    | succ k ih =>
      intro t fu1 fu2 o h1 h2 h3 h4
      obtain ⟨fu1, rfl⟩ : ∃ m, fu1 = m + 1 := ⟨fu1 - 1, by omega⟩
      obtain ⟨fu2, rfl⟩ : ∃ m, fu2 = m + 1 := ⟨fu2 - 1, by omega⟩
      rw [f_X6_compare_15, f_X12_ahead_46]
      have g1 : ¬ F 115 ≤ nI t := by rw [eF]; exact nI_ge (by omega) (by omega)
      have g2 : ¬ nI ts ≤ nI t := nI_ge (by omega) (by omega)
      by_cases h0 : o = 0
      · subst h0
        obtain ⟨kd, k1, k2⟩ := t3 t (by omega)
        have e7 : f7 t = nI kd := by rw [z3 t (by rw [eF, nI_clamp (by omega)]; omega), q _ (by omega), k1]
        have l7 : zld X 0 (some a7) (nI t) = some (nI kd) := by rw [fld_ q7.2 (by omega) (by omega), e7]
        have lt : zld (mp h I A) 0 (some 28) ((116 : Int32) + nI t) = some (nI kd) := by rw [la_l, ml0 hl (by omega), k1]
        by_cases c21 : kd = 21
        · obtain ⟨u, u1, u2, u3⟩ := wa.last (N := N) ha
          obtain ⟨v, v1, v2, v3⟩ := wb.last (N := N) hb
          obtain ⟨Fa, -, -, p1, p2, p3, p4, -⟩ := id wa
          obtain ⟨Fb, -, -, r1, r2, r3, r4, -⟩ := id wb
          obtain ⟨o', x1, x2, x3⟩ := ih (t + 1) fu1 fu2 (cmpS u v) (by omega) (by omega) (by omega) (cmpS_3 u v)
          have m1 := m_lastEnd (N := N) (I := I) hl (by omega) ha p1 p2 p4 p3
          have m2 := m_lastEnd (N := N) (I := I) hl (by omega) hb r1 r2 r4 r3
          rw [u2] at m1
          rw [v2] at m2
          refine ⟨o', bS (fgI q0.2 rfl) (iF g1 (iT rfl (bS (fgR q0.2 rfl) (bS l7 (bS (a := cmpS u v) (iT (by rw [c21]; rfl) (bS wa.ck (bS u3 (bS wb.ck (bS v3 (bS (g_cmp u1 v1) rfl)))))) (by rw [la_r]; exact x1)))))), x2, bS (mg0 hl) (bS m115 (iF g2 (iT rfl (bS (mg0 hl) (bS lt (iT (by rw [c21]; rfl) (bS (mck hl) (bS m1 (bS (mck hl) (bS m2 (bS (m_sgn u1 v1) (by rw [la_r]; exact x3))))))))))))⟩
        have n21 : ¬ nI kd = 21 := fun z => c21 ((nI_eq (b := 21) (by omega) (by omega)).mp z)
        by_cases c22 : kd = 22
        · obtain ⟨o1, p1, p2, p3⟩ := offs_both (I := I) (N := N) hl wa wb ha hb (nI t) 8 0 N (by omega) (by omega)
          obtain ⟨o', x1, x2, x3⟩ := ih (t + 1) fu1 fu2 o1 (by omega) (by omega) (by omega) p2
          have p4 := p3 (fun l0 l1 l2 l3 l4 h => f_X12_ahead_46 N fu2 l0 l1 l2 l3 l4 h) N (by omega)
          refine ⟨o', bS (fgI q0.2 rfl) (iF g1 (iT rfl (bS (fgR q0.2 rfl) (bS l7 (bS (a := o1) (iF n21 (iT (by rw [c22]; rfl) (bS p1 rfl))) (by rw [la_r]; exact x1)))))), x2, bS (mg0 hl) (bS m115 (iF g2 (iT rfl (bS (mg0 hl) (bS lt (iF n21 (iT (nI_le (a := 21) (by omega) (by omega)) (p4.trans ?_))))))))⟩
          show f_X12_ahead_46 N fu2 27 (nI a) (nI b) o1 (nI t + 1) (mp h I A) = some o'
          rw [la_r]; exact x3
        · have n22 : ¬ nI kd = 22 := fun z => c22 ((nI_eq (b := 22) (by omega) (by omega)).mp z)
          obtain ⟨Fa, -, -, p1, p2, p3, p4, -⟩ := id wa
          obtain ⟨Fb, -, -, r1, r2, r3, r4, -⟩ := id wb
          have ca := wa.cnt ha (N := N) (by omega) (nI kd)
          have cb := wb.cnt hb (N := N) (by omega) (nI kd)
          have m1 := m_most (N := N) (I := I) hl (by omega) ha p1 p4 p3 (nI kd)
          have m2 := m_most (N := N) (I := I) hl (by omega) hb r1 r4 r3 (nI kd)
          have u1 := cnN_le (fun j => A 0 (157 + 288 * a + j)) (nI kd) (aT (A 0) na)
          have v1 := cnN_le (fun j => A 0 (157 + 288 * b + j)) (nI kd) (aT (A 0) nb)
          obtain ⟨o', x1, x2, x3⟩ := ih (t + 1) fu1 fu2 (cmpS (cnN (fun j => A 0 (157 + 288 * a + j)) (nI kd) (aT (A 0) na)) (cnN (fun j => A 0 (157 + 288 * b + j)) (nI kd) (aT (A 0) nb))) (by omega) (by omega) (by omega) (cmpS_3 _ _)
          refine ⟨o', bS (fgI q0.2 rfl) (iF g1 (iT rfl (bS (fgR q0.2 rfl) (bS l7 (bS (a := cmpS (cnN (fun j => A 0 (157 + 288 * a + j)) (nI kd) (aT (A 0) na)) (cnN (fun j => A 0 (157 + 288 * b + j)) (nI kd) (aT (A 0) nb))) (iF n21 (iF n22 (bS wa.ck (bS ca (bS wb.ck (bS cb (bS (g_cmp (by omega) (by omega)) rfl))))))) (by rw [la_r]; exact x1)))))), x2, bS (mg0 hl) (bS m115 (iF g2 (iT rfl (bS (mg0 hl) (bS lt (iF n21 (iF (nI_ge (b := 21) (by omega) (by omega)) (bS (mck hl) (bS m1 (bS (mck hl) (bS m2 (bS (m_sgn (by omega) (by omega)) (by rw [la_r]; exact x3)))))))))))))⟩
      · exact ⟨o, bS (fgI q0.2 rfl) (iF g1 (iF h0 rfl)), h4, bS (mg0 hl) (bS m115 (iF g2 (iF h0 rfl)))⟩
  obtain ⟨u, u1, u2, u3⟩ := wa.tot ha (N := N) (by omega)
  obtain ⟨v, v1, v2, v3⟩ := wb.tot hb (N := N) (by omega)
  obtain ⟨Fa, -, -, p1, p2, p3, p4, -⟩ := id wa
  obtain ⟨Fb, -, -, r1, r2, r3, r4, -⟩ := id wb
  have m1 := m_total (N := N) (I := I) hl (by omega) ha p1 p4 p3
  have m2 := m_total (N := N) (I := I) hl (by omega) hb r1 r4 r3
  rw [u2] at m1
  rw [v2] at m2
  obtain ⟨o', x1, x2, x3⟩ := go ts 0 N N (cmpS u v) (by omega) (by omega) (by omega) (cmpS_3 u v)
  exact ⟨o', bS wa.ck (bS u3 (bS wb.ck (bS v3 (bS (g_cmp u1 v1) x1)))), x2, bS (mck hl) (bS ma0 (iF ez (bS (mck hl) (bS mb0 (iF ez (bS (mg0 hl) (bS (ml0 hl (j := 0) (by omega)) (iF d0 (bS (mck hl) (bS m1 (bS (mck hl) (bS m2 (bS (m_sgn u1 v1) x3)))))))))))))⟩
end ah
/-- an archer of the class as ahead needs them -/
theorem ar_view {h : zH} {KI : Nat → Int32} {KR : Nat → Option Nat} {KA : Nat → Nat → Int32} {KP : Nat → Option Nat} {d : Nat → Int32} {rq : Option Nat} {y j : Nat} (hj : j < 16) (s2 : rR h rq (seg d 0)) (w : arR h (some y) (seg d 0) j) : ∃ sh n m, zgR (cp h KI KR KA KP) 0 (some y) 1 = some (some sh) ∧ shV (cp h KI KR KA KP) sh d j n m ∧ d (125 + j) ≠ -1 := by
  obtain ⟨⟨cl, c1, c2⟩, sh, sc, y0, ws, wc⟩ := w
  obtain ⟨n, n1, n2, n3, n4, n5⟩ := ws.okE s2
  obtain ⟨m, m1, m2, -⟩ := g_countOffs (N := 0) ws
  refine ⟨sh, n, m, fgR y0.c rfl, ⟨seg d 0, ws.mono cp0k, fun j hj => seg_lo _ hj, by rw [← n1, seg_lo _ (by omega)], n2, by rw [aT_seg]; exact n3, n4.seg, by rw [← m1, seg_lo _ (by omega)], m2⟩, ?_⟩
  rw [← seg_lo d (j := 125 + j) (by omega), c1]
  exact nI_nm (by omega)
theorem op_ahead {h : zH} {N : Nat} (hN : 21000 ≤ N) (H : INX h) (x z : Int32) : OPr (f_X11_ahead N 0 x z) (f_X12_ahead N 27 x z) h := by
  obtain ⟨KI, KR, KA, KP, I, A, c, q, H⟩ := H
  obtain ⟨hl, hC, hM, i1, i2, i3, i4, i5, i6, i7, i8, i9⟩ := id H
  obtain ⟨rq, aq, lq, nq, AR, s0, s1, s2, s3, s4, s5, s6⟩ := id i5
  have hq5 : zgR (cp h KI KR KA KP) 11 (some 0) 5 = some (some q) := (cg0_5 hl).trans (congrArg some i4)
  have hf := fun x => c_find (N := N) (KI := KI) (KR := KR) (KA := KA) (KP := KP) s0 s1 s3 x
  have ez : (1 : Int32) ≠ 0 := by decide
  cases hp : pA (A 0) x with
  | none =>
    refine OPr.of H (r := -2) ?_ (bS (mck hl) (bS (m_isA0 hl hp) (iT rfl rfl)))
    cases hp2 : pA (A 0) z with
    | none => exact bS hq5 (bS (fk s0.c) (bS ((hf x).1 (by rw [pA_seg]; exact hp)) (bS hq5 (bS (fk s0.c) (bS ((hf z).1 (by rw [pA_seg]; exact hp2)) (iT rfl rfl))))))
    | some j2 =>
      obtain ⟨y, e1, e2⟩ := (hf z).2 j2 (by rw [pA_seg]; exact hp2)
      exact bS hq5 (bS (fk s0.c) (bS ((hf x).1 (by rw [pA_seg]; exact hp)) (bS hq5 (bS (fk s0.c) (bS e2 (iT rfl rfl))))))
  | some j =>
    obtain ⟨y, e1, e2⟩ := (hf x).2 j (by rw [pA_seg]; exact hp)
    cases hp2 : pA (A 0) z with
    | none => exact OPr.of H (r := -2) (bS hq5 (bS (fk s0.c) (bS e2 (bS hq5 (bS (fk s0.c) (bS ((hf z).1 (by rw [pA_seg]; exact hp2)) (iF (by simp) (iT rfl rfl)))))))) (bS (mck hl) (bS (m_isA hl hp) (iF ez (bS (mck hl) (bS (m_isA0 hl hp2) (iT rfl rfl))))))
    | some j2 =>
      obtain ⟨y2, e3, e4⟩ := (hf z).2 j2 (by rw [pA_seg]; exact hp2)
      cases rq with
      | none =>
        refine OPr.of H (r := -2) (bS hq5 (bS (fk s0.c) (bS e2 (bS hq5 (bS (fk s0.c) (bS e4 (iF (by simp) (iF (by simp) (bS hq5 (bS (fgR s0.c rfl) (iT rfl rfl))))))))))) (bS (mck hl) (bS (m_isA hl hp) (iF ez (bS (mck hl) (bS (m_isA hl hp2) (iF ez (bS (mg0 hl) (bS (ml0 hl (j := 0) (by omega)) (iT ?_ rfl)))))))))
        exact (seg_lo _ (j := 0) (by omega)).symm.trans s2
      | some r =>
        obtain ⟨hj, rfl, -⟩ := pA_some hp
        obtain ⟨hj2, rfl, -⟩ := pA_some hp2
        obtain ⟨sa, na, ma, v1, v2, v3⟩ := ar_view (KI := KI) (KR := KR) (KA := KA) (KP := KP) hj s2 (by rw [← e1]; exact s3 j hj)
        obtain ⟨sb, nb, mb, v4, v5, v6⟩ := ar_view (KI := KI) (KR := KR) (KA := KA) (KP := KP) hj2 s2 (by rw [← e3]; exact s3 j2 hj2)
        have s2' : rR (cp h KI KR KA KP) (some r) (seg (A 0) 0) := s2.mono cp0k
        have rk : zck (cp h KI KR KA KP) 6 (some r) = some r := by obtain ⟨w, a1, a2, a3, a4, a5, a6, a7, a8, f1, f2, f3, f4, f5, f6, f7, f8, q0, -⟩ := s2'; exact fk q0.2
        obtain ⟨o, o1, o2, o3⟩ := ah_both (I := I) hl hN s2' (fun j hj => seg_lo _ hj) v2 v5 hj hj2 v3 v6
        exact OPr.of H (r := o) (bS hq5 (bS (fk s0.c) (bS e2 (bS hq5 (bS (fk s0.c) (bS e4 (iF (by simp) (iF (by simp) (bS hq5 (bS (fgR s0.c rfl) (iF (by simp) (bS hq5 (bS (fgR s0.c rfl) (bS v1 (bS v4 (bS rk (bS o1 rfl))))))))))))))))) o3
theorem op_rank {h : zH} {N : Nat} (hN : 21000 ≤ N) (H : INX h) (x : Int32) : OPr (f_X11_rank N 0 x) (f_X12_rank N 27 x) h := by
  obtain ⟨KI, KR, KA, KP, I, A, c, q, H⟩ := H
  obtain ⟨hl, hC, hM, i1, i2, i3, i4, i5, i6, i7, i8, i9⟩ := id H
  obtain ⟨rq, aq, lq, nq, AR, s0, s1, s2, s3, s4, s5, s6⟩ := id i5
  have hq5 : zgR (cp h KI KR KA KP) 11 (some 0) 5 = some (some q) := (cg0_5 hl).trans (congrArg some i4)
  have hf := fun x => c_find (N := N) (KI := KI) (KR := KR) (KA := KA) (KP := KP) s0 s1 s3 x
  have ez : (1 : Int32) ≠ 0 := by decide
  cases hp : pA (A 0) x with
  | none => exact OPr.of H (r := -1) (bS hq5 (bS (fk s0.c) (bS ((hf x).1 (by rw [pA_seg]; exact hp)) (iT rfl rfl)))) (bS (mck hl) (bS (m_isA0 hl hp) (iT rfl rfl)))
  | some j =>
    obtain ⟨y, e1, e2⟩ := (hf x).2 j (by rw [pA_seg]; exact hp)
    cases rq with
    | none =>
      refine OPr.of H (r := -1) (bS hq5 (bS (fk s0.c) (bS e2 (iF (by simp) (bS hq5 (bS (fgR s0.c rfl) (iT rfl rfl))))))) (bS (mck hl) (bS (m_isA hl hp) (iF ez (bS (mg0 hl) (bS (ml0 hl (j := 0) (by omega)) (iT ?_ rfl))))))
      exact (seg_lo _ (j := 0) (by omega)).symm.trans s2
    | some r =>
      obtain ⟨hj, rfl, -⟩ := pA_some hp
      obtain ⟨sa, na, ma, v1, v2, v3⟩ := ar_view (KI := KI) (KR := KR) (KA := KA) (KP := KP) hj s2 (by rw [← e1]; exact s3 j hj)
      have s2' : rR (cp h KI KR KA KP) (some r) (seg (A 0) 0) := s2.mono cp0k
      have wd : wfR (A 0) := wfR.cg (sg125 _) s2.1
      have d0 : ¬ A 0 0 = 0 := by rw [wd.1]; decide
      have rk : zck (cp h KI KR KA KP) 6 (some r) = some r := by obtain ⟨w, a1, a2, a3, a4, a5, a6, a7, a8, f1, f2, f3, f4, f5, f6, f7, f8, q0, -⟩ := s2'; exact fk q0.2
      have go : ∀ (k b fu1 fu2 : Nat) (n : Int32), b + k = 16 → k < fu1 → k < fu2 → ∃ v, f_X11_rank_30 N fu1 0 (some y) n (nI b) (cp h KI KR KA KP) = some v ∧ f_X12_rank_23 N fu2 27 (nI j) n (nI b) (mp h I A) = some v := by
        intro k
        induction k with
        | zero =>
          intro b fu1 fu2 n h1 h2 h3
          obtain ⟨fu1, rfl⟩ : ∃ m, fu1 = m + 1 := ⟨fu1 - 1, by omega⟩
          obtain ⟨fu2, rfl⟩ : ∃ m, fu2 = m + 1 := ⟨fu2 - 1, by omega⟩
          rw [f_X11_rank_30, f_X12_rank_23, show b = 16 by omega]
          exact ⟨n, iT (by decide) rfl, iT (by decide) rfl⟩
        | succ k ih =>
          intro b fu1 fu2 n h1 h2 h3
          obtain ⟨fu1, rfl⟩ : ∃ m, fu1 = m + 1 := ⟨fu1 - 1, by omega⟩
          obtain ⟨fu2, rfl⟩ : ∃ m, fu2 = m + 1 := ⟨fu2 - 1, by omega⟩
          rw [f_X11_rank_30, f_X12_rank_23, la_r]
          have k16 : ¬ (16 : Int32) ≤ nI b := nI_ge (b := 16) (by omega) (by omega)
          obtain ⟨p, p1, p2⟩ := ih (b + 1) fu1 fu2 n (by omega) (by omega) (by omega)
          cases hpb : pA (A 0) (nI b) with
          | none => exact ⟨p, iF k16 (bS hq5 (bS (fk s0.c) (bS ((hf (nI b)).1 (by rw [pA_seg]; exact hpb)) (iT rfl p1)))), iF k16 (bS (mck hl) (bS (m_isA0 hl hpb) (iT rfl p2)))⟩
          | some b' =>
            obtain ⟨y2, e3, e4⟩ := (hf (nI b)).2 b' (by rw [pA_seg]; exact hpb)
            obtain ⟨hb', hbe, -⟩ := pA_some hpb
            have hbb : b = b' := (nI_eq (by omega) (by omega)).mp hbe
            subst hbb
            obtain ⟨sb, nb, mb, v4, v5, v6⟩ := ar_view (KI := KI) (KR := KR) (KA := KA) (KP := KP) hb' s2 (by rw [← e3]; exact s3 b hb')
            obtain ⟨o, o1, o2, o3⟩ := ah_both (I := I) hl hN s2' (fun j hj => seg_lo _ hj) v5 v2 hb' hj v6 v3
            by_cases ho : o = 1
            · obtain ⟨p, p1, p2⟩ := ih (b + 1) fu1 fu2 (n + 1) (by omega) (by omega) (by omega)
              exact ⟨p, iF k16 (bS hq5 (bS (fk s0.c) (bS e4 (iF (by simp) (bS hq5 (bS (fgR s0.c rfl) (bS v4 (bS v1 (bS rk (bS o1 (iF (by rw [ho]; decide) p1))))))))))), iF k16 (bS (mck hl) (bS (m_isA hl hpb) (iF ez (bS (mck hl) (bS o3 (iT ho p2))))))⟩
            · have ho2 : o ≤ 0 := by
                rcases o2 with o2 | o2 | o2
                · rw [o2]; decide
                · exact absurd o2 ho
                · rw [o2]; decide
              exact ⟨p, iF k16 (bS hq5 (bS (fk s0.c) (bS e4 (iF (by simp) (bS hq5 (bS (fgR s0.c rfl) (bS v4 (bS v1 (bS rk (bS o1 (iT ho2 p1))))))))))), iF k16 (bS (mck hl) (bS (m_isA hl hpb) (iF ez (bS (mck hl) (bS o3 (iF ho p2))))))⟩
      obtain ⟨p, p1, p2⟩ := go 16 0 N N 1 (by omega) (by omega) (by omega)
      exact OPr.of H (r := p) (bS hq5 (bS (fk s0.c) (bS e2 (iF (by simp) (bS hq5 (bS (fgR s0.c rfl) (iF (by simp) p1))))))) (bS (mck hl) (bS (m_isA hl hp) (iF ez (bS (mg0 hl) (bS (ml0 hl (j := 0) (by omega)) (iF d0 p2))))))
