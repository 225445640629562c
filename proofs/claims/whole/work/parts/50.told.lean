/-! ===== told, value, of ===== -/
def totF (F : Nat → Int32) (a n : Nat) : Int32 := sN (fun j => F (157 + 288 * a + j)) 0 (aT F n)
def lastF (F : Nat → Int32) (a n : Nat) : Int32 := if n = 0 then 0 else sN (fun j => F (157 + 288 * a + j)) (aT F (n - 1)) (aT F n - aT F (n - 1))
theorem sg125 (d : Nat → Int32) : ∀ j, j < 125 → d j = seg d 0 j := fun j hj => (seg_lo _ (by omega)).symm
theorem tE.cg {F F' : Nat → Int32} (q : ∀ j, j < 125 → F' j = F j) : tE F' = tE F := by unfold tE; rw [gL.cg q, endsTo.cg q (by omega)]
theorem okE.seg {d : Nat → Int32} {n : Nat} (w : okE (seg d 0) n) : okE d n := by
  rcases w with w | ⟨w, hn⟩
  · exact Or.inl w
  · exact Or.inr ⟨wfR.cg (sg125 d) w, by rw [tE.cg (sg125 d)]; exact hn⟩
theorem aT_seg (d : Nat → Int32) (n : Nat) : aT d n = aT (seg d 0) n := aT.cg (sg125 d) n
theorem totF_seg (d : Nat → Int32) {a n : Nat} (ha : a < 16) (h : aT (seg d 0) n ≤ 288) : totF d a n = totF (seg d 0) a n := by
  unfold totF
  rw [aT_seg d]
  refine sN_cg (fun j h1 h2 => ?_)
  rw [seg_lo _ (by omega)]
theorem lastF_seg (d : Nat → Int32) {a n : Nat} (ha : a < 16) (h : aT (seg d 0) n ≤ 288) : lastF d a n = lastF (seg d 0) a n := by
  unfold lastF
  by_cases h0 : n = 0
  · rw [if_pos h0, if_pos h0]
  · rw [if_neg h0, if_neg h0, aT_seg d n, aT_seg d (n - 1)]
    have h3 := aT_mono (seg d 0) (n := n - 1) (m := n) (by omega)
    refine sN_cg (fun j h1 h2 => ?_)
    rw [seg_lo _ (by omega)]
section shots
variable {H : zH} {F : Nat → Int32} {sh a n N : Nat}
theorem shR.okE (w : shR H sh F a) {rq : Option Nat} (wr : rR H rq F) : ∃ n, F (141 + a) = nI n ∧ n ≤ 48 ∧ aT F n ≤ 288 ∧ okE F n ∧ (n ≠ 0 → ∃ r, rq = some r) := by
  obtain ⟨b1, b2, b3, n, m, s1, s2, s3, q0, q1, q2, q3, z1, z2, z3, z4, z5, z6, z7⟩ := w
  refine ⟨n, z1, z2.1, z2.2, ?_⟩
  cases rq with
  | none =>
    have h0 := (z3 wr).1
    exact ⟨Or.inl h0, fun h => absurd h0 h⟩
  | some r => exact ⟨Or.inr ⟨wr.1, z4 wr.1.1⟩, fun _ => ⟨r, rfl⟩⟩
theorem g_total (w : shR H sh F a) (hn : F (141 + a) = nI n) (h48 : n ≤ 48) (hN : 60 ≤ N) : f_X8_total N sh H = some (totF F a n) := by
  obtain ⟨b1, b2, b3, n', m, s1, s2, s3, q0, q1, q2, q3, z1, z2, z3, z4, z5, z6, z7⟩ := w
  have : n' = n := (nI_eq (by omega) (by omega)).mp (z1.symm.trans hn)
  subst this
  have e0 : totF F a n' = sN s2 0 (aT F n') := sN_cg (fun j h1 h2 => (z5 j (by omega)).1.symm)
  have go : ∀ (k m e : Nat), k < m → e + k = n' → f_X8_total_13 N m (sN s2 0 (aT F e)) (some b1) (nI n') (nI e) H = some (sN s2 0 (aT F n')) := by
    intro k
    induction k with
    | zero =>
      intro m e h0 h1
      obtain ⟨m, rfl⟩ : ∃ x, m = x + 1 := ⟨m - 1, by omega⟩
      rw [f_X8_total_13, show e = n' by omega]
      exact iT (Int32.le_refl _) rfl
    | succ k ih =>
      intro m e h0 h1
      obtain ⟨m, rfl⟩ : ∃ x, m = x + 1 := ⟨m - 1, by omega⟩
      rw [f_X8_total_13]
      refine iF (nI_ge (by omega) (by omega)) (bS (fld_ q1.2 (by omega) (by omega)) ?_)
      have h3 := aT_mono F (n := e) (m := e + 1) (by omega)
      have e1 : sN s2 0 (aT F e) + s1 e = sN s2 0 (aT F (e + 1)) := by
        have := sN_split s2 0 (aT F e) (aT F (e + 1) - aT F e)
        rw [show aT F e + (aT F (e + 1) - aT F e) = aT F (e + 1) by omega, Nat.zero_add] at this
        rw [z6 e (by omega), this]
      rw [e1, la_r]
      exact ih m (e + 1) (by omega) (by omega)
  rw [e0]
  exact bS (fgR q0.2 rfl) (bS (flen q1.2 (by omega)) (go n' N 0 (by omega) (by omega)))
theorem g_lastSum (w : shR H sh F a) (hn : F (141 + a) = nI n) (h48 : n ≤ 48) : f_X8_lastSum N sh H = some (lastF F a n) := by
  obtain ⟨b1, b2, b3, n', m, s1, s2, s3, q0, q1, q2, q3, z1, z2, z3, z4, z5, z6, z7⟩ := w
  have : n' = n := (nI_eq (by omega) (by omega)).mp (z1.symm.trans hn)
  subst this
  unfold lastF f_X8_lastSum
  refine bS (fgR q0.2 rfl) (bS (flen q1.2 (by omega)) ?_)
  by_cases h0 : n' = 0
  · rw [if_pos h0, h0]; rfl
  · obtain ⟨e, rfl⟩ : ∃ x, n' = x + 1 := ⟨n' - 1, by omega⟩
    rw [if_neg h0]
    refine iF (fun z => h0 ((nI_eq (b := 0) (by omega) (by omega)).mp z)) (bS (fgR q0.2 rfl) (bS (fgR q0.2 rfl) (bS (flen q1.2 (by omega)) ?_)))
    rw [nI_pred, fld_ q1.2 (by omega) (by omega), Option.bind_some, z6 e (by omega)]
    have h3 := aT_mono F (n := e) (m := e + 1) (by omega)
    refine congrArg some (sN_cg (fun j h1 h2 => (z5 j (by omega)).1))
theorem g_counted (w : shR H sh F a) (hn : F (141 + a) = nI n) (h48 : n ≤ 48) (x : Int32) : f_X8_counted N sh x H = if x < 0 then some (-1) else if nI (aT F n) ≤ x then some (-1) else some (F (157 + 288 * a + x.toNatClampNeg)) := by
  obtain ⟨b1, b2, b3, n', m, s1, s2, s3, q0, q1, q2, q3, z1, z2, z3, z4, z5, z6, z7⟩ := w
  have : n' = n := (nI_eq (by omega) (by omega)).mp (z1.symm.trans hn)
  subst this
  unfold f_X8_counted
  by_cases h1 : x < 0
  · rw [if_pos h1, if_pos h1]
  · rw [if_neg h1, if_neg h1]
    refine bS (fgR q0.2 rfl) (bS (flen q2.2 (by omega)) ?_)
    by_cases h2 : nI (aT F n') ≤ x
    · rw [if_pos h2, if_pos h2]
    · rw [if_neg h2, if_neg h2]
      rcases pk_ix x (n := aT F n') (by omega) with h3 | h3 | ⟨k, hk, rfl⟩
      · exact absurd h3 h1
      · exact absurd h3 h2
      · refine bS (fgR q0.2 rfl) (bS (fld_ q2.2 hk (by omega)) ?_)
        rw [nI_clamp (by omega), (z5 k hk).1]
theorem g_countOffs (w : shR H sh F a) : ∃ m, F (4765 + a) = nI m ∧ m ≤ 8 ∧ f_X8_countOffs N sh H = some (nI m) := by
  obtain ⟨b1, b2, b3, n', m, s1, s2, s3, q0, q1, q2, q3, z1, z2, z3, z4, z5, z6, z7, z8, z9⟩ := w
  exact ⟨m, z7, z8, bS (fgR q0.2 rfl) (bS (flen q3.2 (by omega)) rfl)⟩
end shots
section mtot
variable {h : zH} {I : Nat → Int32} {A : Nat → Nat → Int32} {N a n : Nat}
theorem ld141 (hl : 46 ≤ h.length) (ha : a < 16) (hn : A 0 (141 + a) = nI n) : zld (mp h I A) 0 (some 28) ((141 : Int32) + nI a) = some (nI n) := by rw [la_l, ml0 hl (by omega), hn]
theorem m_total (hl : 46 ≤ h.length) (hN : 300 ≤ N) (ha : a < 16) (hn : A 0 (141 + a) = nI n) (w : okE (A 0) n) (h288 : aT (A 0) n ≤ 288) : f_X12_total N 27 (nI a) (mp h I A) = some (totF (A 0) a n) := by
  have h1 := m_sum (N := N) (I := I) (A := A) hl hN ha (i := 0) (k := aT (A 0) n) (by omega)
  rw [Nat.zero_add] at h1
  unfold f_X12_total
  exact bS (mg0 hl) (bS (ld141 hl ha hn) (bS (mck hl) (bS (m_arrowsOf hl (by omega) w) (bS (mck hl) (bS h1 rfl)))))
theorem m_lastEnd (hl : 46 ≤ h.length) (hN : 300 ≤ N) (ha : a < 16) (hn : A 0 (141 + a) = nI n) (h48 : n ≤ 48) (w : okE (A 0) n) (h288 : aT (A 0) n ≤ 288) : f_X12_lastEnd N 27 (nI a) (mp h I A) = some (lastF (A 0) a n) := by
  unfold lastF f_X12_lastEnd
  refine bS (mg0 hl) (bS (ld141 hl ha hn) ?_)
  by_cases h0 : n = 0
  · rw [if_pos h0, h0]; rfl
  · obtain ⟨e, rfl⟩ : ∃ x, n = x + 1 := ⟨n - 1, by omega⟩
    rw [if_neg h0]
    have h3 := aT_mono (A 0) (n := e) (m := e + 1) (by omega)
    have h1 := m_sum (N := N) (I := I) (A := A) hl hN ha (i := aT (A 0) e) (k := aT (A 0) (e + 1) - aT (A 0) e) (by omega)
    rw [show aT (A 0) e + (aT (A 0) (e + 1) - aT (A 0) e) = aT (A 0) (e + 1) by omega] at h1
    have we : okE (A 0) e := by
      rcases w with w | ⟨w, w2⟩
      · exact absurd w h0
      · exact Or.inr ⟨w, by omega⟩
    refine iF (fun z => h0 ((nI_eq (b := 0) (by omega) (by omega)).mp z)) (bS (mck hl) ?_)
    rw [nI_pred]
    exact bS (m_arrowsOf hl (by omega) we) (bS (mck hl) (bS (m_arrowsOf hl (by omega) w) (bS (mck hl) (bS h1 rfl))))
end mtot
theorem op_value {h : zH} {N : Nat} (hN : 21000 ≤ N) (H : INX h) (x k : Int32) : OPr (f_X11_value N 0 x k) (f_X12_value N 27 x k) h := by
  obtain ⟨KI, KR, KA, KP, I, A, c, q, H⟩ := H
  obtain ⟨hl, hC, hM, i1, i2, i3, i4, i5, i6, i7, i8, i9⟩ := id H
  obtain ⟨rq, aq, lq, nq, AR, s0, s1, s2, s3, s4, s5, s6⟩ := id i5
  have hq5 : zgR (cp h KI KR KA KP) 11 (some 0) 5 = some (some q) := (cg0_5 hl).trans (congrArg some i4)
  have hf := c_find (N := N) (KI := KI) (KR := KR) (KA := KA) (KP := KP) s0 s1 s3 x
  have ez : (1 : Int32) ≠ 0 := by decide
  cases hp : pA (A 0) x with
  | none =>
    refine OPr.of H (r := -1) ?_ ?_
    · exact bS hq5 (bS (fk s0.c) (bS (hf.1 (by rw [pA_seg]; exact hp)) (iT rfl rfl)))
    · exact bS (mck hl) (bS (m_isA0 hl hp) (iT rfl rfl))
  | some j =>
    obtain ⟨y, e1, e2⟩ := hf.2 j (by rw [pA_seg]; exact hp)
    obtain ⟨hj, rfl, hcl⟩ := pA_some hp
    have w := s3 j hj
    rw [e1] at w
    obtain ⟨⟨cl, c1, c2⟩, sh, sc, y0, ws, wc⟩ := w
    obtain ⟨n, n1, n2, n3, n4, n5⟩ := ws.okE s2
    have ws' : shR (cp h KI KR KA KP) sh (seg (A 0) 0) j := ws.mono cp0k
    have ys : zck (cp h KI KR KA KP) 8 (some sh) = some sh := by obtain ⟨b1, b2, b3, n, m, f1, f2, f3, q0, -⟩ := ws'; exact fk q0.2
    have n1' : A 0 (141 + j) = nI n := by rw [← n1, seg_lo _ (by omega)]
    have mar := m_arrowsOf (N := N) (I := I) (h := h) hl (by omega) n4.seg
    rw [aT_seg] at mar
    have gc := g_counted (N := N) ws' n1 n2 k
    have cx : ∀ {v}, f_X8_counted N sh k (cp h KI KR KA KP) = some v → f_X11_value N 0 (nI j) k (cp h KI KR KA KP) = some v := fun hv => bS hq5 (bS (fk s0.c) (bS e2 (iF (by simp) (bS (fgR y0.c rfl) (bS ys (bS hv rfl))))))
    by_cases h1 : k < 0
    · exact OPr.of H (r := -1) (cx (gc.trans (if_pos h1))) (bS (mck hl) (bS (m_isA hl hp) (iF ez (iT h1 rfl))))
    by_cases h2 : nI (aT (seg (A 0) 0) n) ≤ k
    · exact OPr.of H (r := -1) (cx (gc.trans ((if_neg h1).trans (if_pos h2)))) (bS (mck hl) (bS (m_isA hl hp) (iF ez (iF h1 (bS (mg0 hl) (bS (ld141 hl hj n1') (bS (mck hl) (bS mar (iT h2 rfl)))))))))
    rcases pk_ix k (n := aT (seg (A 0) 0) n) (by omega) with h3 | h3 | ⟨i, hi, rfl⟩
    · exact absurd h3 h1
    · exact absurd h3 h2
    refine OPr.of H (r := A 0 (157 + 288 * j + i)) (cx (gc.trans ((if_neg h1).trans ((if_neg h2).trans ?_)))) (bS (mck hl) (bS (m_isA hl hp) (iF ez (iF h1 (bS (mg0 hl) (bS (ld141 hl hj n1') (bS (mck hl) (bS mar (iF h2 (bS (mg0 hl) (bS ?_ rfl)))))))))))
    · rw [nI_clamp (by omega), seg_lo _ (by omega)]
    · rw [lm_l, la_l, nI_add, ml0 hl (by omega)]
theorem op_told {h : zH} {N : Nat} (hN : 21000 ≤ N) (H : INX h) (x k : Int32) : OPr (f_X11_told N 0 x k) (f_X12_told N 27 x k) h := by
  obtain ⟨KI, KR, KA, KP, I, A, c, q, H⟩ := H
  obtain ⟨hl, hC, hM, i1, i2, i3, i4, i5, i6, i7, i8, i9⟩ := id H
  obtain ⟨rq, aq, lq, nq, AR, s0, s1, s2, s3, s4, s5, s6⟩ := id i5
  have hq5 : zgR (cp h KI KR KA KP) 11 (some 0) 5 = some (some q) := (cg0_5 hl).trans (congrArg some i4)
  have hf := c_find (N := N) (KI := KI) (KR := KR) (KA := KA) (KP := KP) s0 s1 s3 x
  have ez : (1 : Int32) ≠ 0 := by decide
  cases hp : pA (A 0) x with
  | none =>
    refine OPr.of H (r := -1) ?_ ?_
    · exact bS hq5 (bS (fk s0.c) (bS (hf.1 (by rw [pA_seg]; exact hp)) (iT rfl rfl)))
    · exact bS (mck hl) (bS (m_isA0 hl hp) (iT rfl rfl))
  | some j =>
    obtain ⟨y, e1, e2⟩ := hf.2 j (by rw [pA_seg]; exact hp)
    obtain ⟨hj, rfl, hcl⟩ := pA_some hp
    have w := s3 j hj
    rw [e1] at w
    obtain ⟨⟨cl, c1, c2⟩, sh, sc, y0, ws, b, m, f, w0, w1, z1, z2, z3⟩ := w
    obtain ⟨n, n1, n2, n3, n4, n5⟩ := ws.okE s2
    have ws' : shR (cp h KI KR KA KP) sh (seg (A 0) 0) j := ws.mono cp0k
    have ys : zck (cp h KI KR KA KP) 8 (some sh) = some sh := by obtain ⟨b1, b2, b3, n, m, f1, f2, f3, q0, -⟩ := ws'; exact fk q0.2
    have n1' : A 0 (141 + j) = nI n := by rw [← n1, seg_lo _ (by omega)]
    have h288 : aT (A 0) n ≤ 288 := by rw [aT_seg]; exact n3
    have cx : ∀ {v}, _ = some v → f_X11_told N 0 (nI j) k (cp h KI KR KA KP) = some v := fun hv => bS hq5 (bS (fk s0.c) (bS e2 (iF (by simp) hv)))
    have mx : ∀ {v}, _ = some v → f_X12_told N 27 (nI j) k (mp h I A) = some v := fun hv => bS (mck hl) (bS (m_isA hl hp) (iF ez hv))
    by_cases k0 : k = 0
    · refine OPr.of H (r := A 0 (125 + j)) (cx (iT k0 (bS (fgI y0.c rfl) ?_))) (mx (iT k0 (bS (mg0 hl) (bS ?_ rfl))))
      · rw [seg_lo _ (by omega)]
      · rw [la_l, ml0 hl (by omega)]
    by_cases k1 : k = 1
    · exact OPr.of H (r := nI n) (cx (iF k0 (iT k1 (bS (fgR y0.c rfl) (bS ys (bS (g_cEnds ws' n1 n2) rfl)))))) (mx (iF k0 (iT k1 (bS (mg0 hl) (bS (ld141 hl hj n1') rfl)))))
    by_cases k2 : k = 2
    · exact OPr.of H (r := totF (A 0) j n) (cx (iF k0 (iF k1 (iT k2 (bS (fgR y0.c rfl) (bS ys (bS (g_total ws' n1 n2 (by omega)) (by rw [totF_seg _ hj n3])))))))) (mx (iF k0 (iF k1 (iT k2 (bS (mck hl) (bS (m_total hl (by omega) hj n1' n4.seg h288) rfl))))))
    by_cases k3 : k = 3
    · exact OPr.of H (r := lastF (A 0) j n) (cx (iF k0 (iF k1 (iF k2 (iT k3 (bS (fgR y0.c rfl) (bS ys (bS (g_lastSum ws' n1 n2) (by rw [lastF_seg _ hj n3]))))))))) (mx (iF k0 (iF k1 (iF k2 (iT k3 (bS (mck hl) (bS (m_lastEnd hl (by omega) hj n1' n2 n4.seg h288) rfl)))))))
    by_cases k4 : k = 4
    · obtain ⟨m, m1, m2, m3⟩ := g_countOffs (N := N) ws'
      refine OPr.of H (r := nI m) (cx (iF k0 (iF k1 (iF k2 (iF k3 (iT k4 (bS (fgR y0.c rfl) (bS ys (bS m3 rfl))))))))) (mx (iF k0 (iF k1 (iF k2 (iF k3 (iT k4 (bS (mg0 hl) (bS ?_ rfl))))))))
      rw [la_l, ml0 hl (by omega), ← m1, seg_lo _ (by omega)]
    by_cases k5 : k = 5
    · refine OPr.of H (r := nI m) (cx (iF k0 (iF k1 (iF k2 (iF k3 (iF k4 (iT k5 (bS (fgR y0.c rfl) (bS (fk w0.c) (bS (g_scount w0.c w1.c z2) rfl)))))))))) (mx (iF k0 (iF k1 (iF k2 (iF k3 (iF k4 (iT k5 (bS (mg0 hl) (bS ?_ rfl)))))))))
      rw [la_l, ml0 hl (by omega), ← z1, seg_lo _ (by omega)]
    by_cases k6 : k = 6
    · obtain ⟨b1, b2, b3, ln, f1, f2, f3, l0, l1, l2, l3, y1, y2, y3, y4, y5, y6⟩ := s5
      have ml : zld (mp h I A) 0 (some 28) ((6881 : Int32) + nI j) = some (seg (A 0) 0 (6881 + j)) := by rw [la_l, ml0 hl (by omega), seg_lo _ (by omega)]
      have fin : f_X2_placeOf N nq (nI j) (cp h KI KR KA KP) = some (seg (A 0) 0 (6881 + j)) := by
        rcases g_placeOf (N := N) (l0.c (KI := KI) (KR := KR) (KA := KA) (KP := KP)) l3.c y2 (by omega) (nI j) with ⟨p0, p1, p2, p3⟩ | ⟨p1, p2⟩
        · rw [p3, (y6 j hj p0 p1).mp p2]
        · rcases y5 j hj with v1 | ⟨p, v1, v2⟩
          · rw [p2, v1]
          · exact absurd ((y6 j hj p v1).mpr v2) (p1 p v1)
      exact OPr.of H (cx (iF k0 (iF k1 (iF k2 (iF k3 (iF k4 (iF k5 (iT k6 (bS hq5 (bS (fgR s0.c rfl) (bS (fk l0.c) (bS fin rfl)))))))))))) (mx (iF k0 (iF k1 (iF k2 (iF k3 (iF k4 (iF k5 (iT k6 (bS (mg0 hl) (bS ml rfl)))))))))) 
    · exact OPr.of H (cx (iF k0 (iF k1 (iF k2 (iF k3 (iF k4 (iF k5 (iF k6 rfl)))))))) (mx (iF k0 (iF k1 (iF k2 (iF k3 (iF k4 (iF k5 (iF k6 rfl))))))))
