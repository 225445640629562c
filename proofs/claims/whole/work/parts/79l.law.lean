/-! ===== the law's loop ===== -/
theorem INX.c0 {h : zH} (H : INX h) : zck h 11 (some 0) = some 0 := by
  obtain ⟨KI, KR, KA, KP, I, A, c, q, H⟩ := H
  have := ck0 (KI := KI) (KR := KR) (KA := KA) (KP := KP) H.1
  rwa [H.2.1.eq] at this
theorem INX.m27 {h : zH} (H : INX h) : zck h 12 (some 27) = some 27 := by
  obtain ⟨KI, KR, KA, KP, I, A, c, q, H⟩ := H
  exact H.2.2.1.ck H.1
set_option maxHeartbeats 4000000 in
theorem law_loop {N nS : Nat} {xS : Nat → Int32} (hN : 1000000 ≤ N) (hS : nS ≤ 3072) : ∀ (m i fuel : Nat) (h : zH), INX h → nS < i + 6 * m + 6 → i ≤ 4000 → m < fuel → ∃ h', f_L_law_18 N nS xS fuel (some 0) (some 27) (nI i) h = some (1, h') ∧ h'.length ≤ h.length + 200 * m ∧ zsl h' ≤ zsl h + 6000 * m := by
  intro m
  induction m with
  | zero =>
    intro i fuel h H h1 h2 h3
    obtain ⟨fuel, rfl⟩ : ∃ x, fuel = x + 1 := ⟨fuel - 1, by omega⟩
    refine ⟨h, ?_, by omega, by omega⟩
    rw [f_L_law_18]
    refine iT ?_ rfl
    rw [Int32.lt_iff_toInt_lt, show (6 : Int32) = nI 6 from rfl, pk_sub_toInt (by omega) (by omega), nI_toInt (by omega)]
    omega
  | succ m ih =>
    intro i fuel h H h1 h2 h3
    obtain ⟨fuel, rfl⟩ : ∃ x, fuel = x + 1 := ⟨fuel - 1, by omega⟩
    by_cases he : nS < i + 6
    · refine ⟨h, ?_, by omega, by omega⟩
      rw [f_L_law_18]
      refine iT ?_ rfl
      rw [Int32.lt_iff_toInt_lt, show (6 : Int32) = nI 6 from rfl, pk_sub_toInt (by omega) (by omega), nI_toInt (by omega)]
      omega
    have hn : ¬ (nI nS - (6 : Int32)) < nI i := by
      rw [Int32.lt_iff_toInt_lt, show (6 : Int32) = nI 6 from rfl, pk_sub_toInt (by omega) (by omega), nI_toInt (by omega)]
      omega
    have sc : ∀ k, k < 6 → zsc nS xS (nI (i + k)) = some (xS (i + k)) := fun k hk => by
      unfold zsc
      rw [nI_clamp (by omega)]
      exact if_neg (fun z => z.elim (nI_pos (by omega)) (by omega))
    have s0 : zsc nS xS (nI i) = some (xS i) := sc 0 (by omega)
    have s1 : zsc nS xS (nI i + 1) = some (xS (i + 1)) := by rw [la_r]; exact sc 1 (by omega)
    have s2 : zsc nS xS (nI i + 2) = some (xS (i + 2)) := by rw [la_r]; exact sc 2 (by omega)
    have s3 : zsc nS xS (nI i + 3) = some (xS (i + 3)) := by rw [la_r]; exact sc 3 (by omega)
    have s4 : zsc nS xS (nI i + 4) = some (xS (i + 4)) := by rw [la_r]; exact sc 4 (by omega)
    have s5 : zsc nS xS (nI i + 5) = some (xS (i + 5)) := by rw [la_r]; exact sc 5 (by omega)
    have ih6 : ∀ g : zH, INX g → ∃ h', f_L_law_18 N nS xS fuel (some 0) (some 27) (nI i + 6) g = some (1, h') ∧ h'.length ≤ g.length + 200 * m ∧ zsl h' ≤ zsl g + 6000 * m := fun g hg => by
      rw [la_r]; exact ih (i + 6) fuel g hg (by omega) (by omega) (by omega)
    rw [f_L_law_18]
    by_cases c0 : (xS i &&& (31 : Int32)) = (0 : Int32)
    · obtain ⟨r, g1, g2, a, b, H2, l1, l2, ck⟩ := (op_feed (N := N) (by omega) H (xS (i + 1)) (xS (i + 2)) (xS (i + 3)) (xS (i + 4)) (xS (i + 5))).q
      obtain ⟨h', e, x1, x2⟩ := ih6 g2 H2
      exact ⟨h', iF hn (bS s0 (iT c0 (bS s1 (bS s2 (bS s3 (bS s4 (bS s5 (bS H.c0 (zS a (bS s1 (bS s2 (bS s3 (bS s4 (bS s5 (bS ck (zS b (iT rfl e))))))))))))))))), by omega, by omega⟩
    by_cases c1 : (xS i &&& (31 : Int32)) = (1 : Int32)
    · obtain ⟨r, g1, g2, a, b, H2, l1, l2, ck⟩ := (op_end (N := N) H (xS (i + 1))).q
      obtain ⟨h', e, x1, x2⟩ := ih6 g2 H2
      exact ⟨h', iF hn (bS s0 (iF c0 (iT c1 (bS s1 (bS H.c0 (zS a (bS s1 (bS ck (zS b (iT rfl e)))))))))), by omega, by omega⟩
    by_cases c2 : (xS i &&& (31 : Int32)) = (2 : Int32)
    · obtain ⟨r, g1, g2, a, b, H2, l1, l2, ck⟩ := (op_round (N := N) (by omega) H )
      obtain ⟨h', e, x1, x2⟩ := ih6 g2 H2
      exact ⟨h', iF hn (bS s0 (iF c0 (iF c1 (iT c2 (bS H.c0 (zS a (bS ck (zS b (iT rfl e))))))))), by omega, by omega⟩
    by_cases c3 : (xS i &&& (31 : Int32)) = (3 : Int32)
    · obtain ⟨r, a, b⟩ := (op_fault (N := N) H (xS (i + 1)))
      obtain ⟨h', e, x1, x2⟩ := ih6 h H
      exact ⟨h', iF hn (bS s0 (iF c0 (iF c1 (iF c2 (iT c3 (bS s1 (bS H.c0 (bS a (bS s1 (bS H.m27 (bS b (iT rfl e)))))))))))), by omega, by omega⟩
    by_cases c4 : (xS i &&& (31 : Int32)) = (4 : Int32)
    · obtain ⟨r, a, b⟩ := (op_of (N := N) (by omega) H (xS (i + 1)))
      obtain ⟨h', e, x1, x2⟩ := ih6 h H
      exact ⟨h', iF hn (bS s0 (iF c0 (iF c1 (iF c2 (iF c3 (iT c4 (bS s1 (bS H.c0 (bS a (bS s1 (bS H.m27 (bS b (iT rfl e))))))))))))), by omega, by omega⟩
    by_cases c5 : (xS i &&& (31 : Int32)) = (5 : Int32)
    · obtain ⟨r, g1, g2, a, b, H2, l1, l2, ck⟩ := (op_archer (N := N) (by omega) H (xS (i + 1))).q
      obtain ⟨h', e, x1, x2⟩ := ih6 g2 H2
      exact ⟨h', iF hn (bS s0 (iF c0 (iF c1 (iF c2 (iF c3 (iF c4 (iT c5 (bS s1 (bS H.c0 (zS a (bS s1 (bS ck (zS b (iT rfl e)))))))))))))), by omega, by omega⟩
    by_cases c6 : (xS i &&& (31 : Int32)) = (6 : Int32)
    · obtain ⟨r, g1, g2, a, b, H2, l1, l2, ck⟩ := (op_leave (N := N) (by omega) H (xS (i + 1))).q
      obtain ⟨h', e, x1, x2⟩ := ih6 g2 H2
      exact ⟨h', iF hn (bS s0 (iF c0 (iF c1 (iF c2 (iF c3 (iF c4 (iF c5 (iT c6 (bS s1 (bS H.c0 (zS a (bS s1 (bS ck (zS b (iT rfl e))))))))))))))), by omega, by omega⟩
    by_cases c7 : (xS i &&& (31 : Int32)) = (7 : Int32)
    · obtain ⟨r, a, b⟩ := (op_told (N := N) (by omega) H (xS (i + 1)) (xS (i + 2)))
      obtain ⟨h', e, x1, x2⟩ := ih6 h H
      exact ⟨h', iF hn (bS s0 (iF c0 (iF c1 (iF c2 (iF c3 (iF c4 (iF c5 (iF c6 (iT c7 (bS s1 (bS s2 (bS H.c0 (bS a (bS s1 (bS s2 (bS H.m27 (bS b (iT rfl e)))))))))))))))))), by omega, by omega⟩
    by_cases c8 : (xS i &&& (31 : Int32)) = (8 : Int32)
    · obtain ⟨r, g1, g2, a, b, H2, l1, l2, ck⟩ := (op_arrow (N := N) H (xS (i + 1)) (xS (i + 2)) (xS (i + 3))).q
      obtain ⟨h', e, x1, x2⟩ := ih6 g2 H2
      exact ⟨h', iF hn (bS s0 (iF c0 (iF c1 (iF c2 (iF c3 (iF c4 (iF c5 (iF c6 (iF c7 (iT c8 (bS s1 (bS s2 (bS s3 (bS H.c0 (zS a (bS s1 (bS s2 (bS s3 (bS ck (zS b (iT rfl e))))))))))))))))))))), by omega, by omega⟩
    by_cases c9 : (xS i &&& (31 : Int32)) = (9 : Int32)
    · obtain ⟨r, g1, g2, a, b, H2, l1, l2, ck⟩ := (op_shoot (N := N) (by omega) H (xS (i + 1))).q
      obtain ⟨h', e, x1, x2⟩ := ih6 g2 H2
      exact ⟨h', iF hn (bS s0 (iF c0 (iF c1 (iF c2 (iF c3 (iF c4 (iF c5 (iF c6 (iF c7 (iF c8 (iT c9 (bS s1 (bS H.c0 (zS a (bS s1 (bS ck (zS b (iT rfl e)))))))))))))))))), by omega, by omega⟩
    by_cases c10 : (xS i &&& (31 : Int32)) = (10 : Int32)
    · obtain ⟨r, a, b⟩ := (op_value (N := N) (by omega) H (xS (i + 1)) (xS (i + 2)))
      obtain ⟨h', e, x1, x2⟩ := ih6 h H
      exact ⟨h', iF hn (bS s0 (iF c0 (iF c1 (iF c2 (iF c3 (iF c4 (iF c5 (iF c6 (iF c7 (iF c8 (iF c9 (iT c10 (bS s1 (bS s2 (bS H.c0 (bS a (bS s1 (bS s2 (bS H.m27 (bS b (iT rfl e))))))))))))))))))))), by omega, by omega⟩
    by_cases c11 : (xS i &&& (31 : Int32)) = (11 : Int32)
    · obtain ⟨r, g1, g2, a, b, H2, l1, l2, ck⟩ := (op_take (N := N) (by omega) H (xS (i + 1))).q
      obtain ⟨h', e, x1, x2⟩ := ih6 g2 H2
      exact ⟨h', iF hn (bS s0 (iF c0 (iF c1 (iF c2 (iF c3 (iF c4 (iF c5 (iF c6 (iF c7 (iF c8 (iF c9 (iF c10 (iT c11 (bS s1 (bS H.c0 (zS a (bS s1 (bS ck (zS b (iT rfl e)))))))))))))))))))), by omega, by omega⟩
    by_cases c12 : (xS i &&& (31 : Int32)) = (12 : Int32)
    · obtain ⟨r, g1, g2, a, b, H2, l1, l2, ck⟩ := (op_off (N := N) (by omega) H (xS (i + 1)) (xS (i + 2)) (xS (i + 3)) (xS (i + 4))).q
      obtain ⟨h', e, x1, x2⟩ := ih6 g2 H2
      exact ⟨h', iF hn (bS s0 (iF c0 (iF c1 (iF c2 (iF c3 (iF c4 (iF c5 (iF c6 (iF c7 (iF c8 (iF c9 (iF c10 (iF c11 (iT c12 (bS s1 (bS s2 (bS s3 (bS s4 (bS H.c0 (zS a (bS s1 (bS s2 (bS s3 (bS s4 (bS ck (zS b (iT rfl e))))))))))))))))))))))))))), by omega, by omega⟩
    by_cases c13 : (xS i &&& (31 : Int32)) = (13 : Int32)
    · obtain ⟨r, a, b⟩ := (op_ahead (N := N) (by omega) H (xS (i + 1)) (xS (i + 2)))
      obtain ⟨h', e, x1, x2⟩ := ih6 h H
      exact ⟨h', iF hn (bS s0 (iF c0 (iF c1 (iF c2 (iF c3 (iF c4 (iF c5 (iF c6 (iF c7 (iF c8 (iF c9 (iF c10 (iF c11 (iF c12 (iT c13 (bS s1 (bS s2 (bS H.c0 (bS a (bS s1 (bS s2 (bS H.m27 (bS b (iT rfl e)))))))))))))))))))))))), by omega, by omega⟩
    by_cases c14 : (xS i &&& (31 : Int32)) = (14 : Int32)
    · obtain ⟨r, a, b⟩ := (op_rank (N := N) (by omega) H (xS (i + 1)))
      obtain ⟨h', e, x1, x2⟩ := ih6 h H
      exact ⟨h', iF hn (bS s0 (iF c0 (iF c1 (iF c2 (iF c3 (iF c4 (iF c5 (iF c6 (iF c7 (iF c8 (iF c9 (iF c10 (iF c11 (iF c12 (iF c13 (iT c14 (bS s1 (bS H.c0 (bS a (bS s1 (bS H.m27 (bS b (iT rfl e))))))))))))))))))))))), by omega, by omega⟩
    by_cases c15 : (xS i &&& (31 : Int32)) = (15 : Int32)
    · obtain ⟨r, g1, g2, a, b, H2, l1, l2, ck⟩ := (op_today (N := N) (by omega) H (xS (i + 1))).q
      obtain ⟨h', e, x1, x2⟩ := ih6 g2 H2
      exact ⟨h', iF hn (bS s0 (iF c0 (iF c1 (iF c2 (iF c3 (iF c4 (iF c5 (iF c6 (iF c7 (iF c8 (iF c9 (iF c10 (iF c11 (iF c12 (iF c13 (iF c14 (iT c15 (bS s1 (bS H.c0 (zS a (bS s1 (bS ck (zS b (iT rfl e)))))))))))))))))))))))), by omega, by omega⟩
    by_cases c16 : (xS i &&& (31 : Int32)) = (16 : Int32)
    · obtain ⟨r, g1, g2, a, b, H2, l1, l2, ck⟩ := (op_score (N := N) (by omega) H (xS (i + 1)) (xS (i + 2)) (xS (i + 3))).q
      obtain ⟨h', e, x1, x2⟩ := ih6 g2 H2
      exact ⟨h', iF hn (bS s0 (iF c0 (iF c1 (iF c2 (iF c3 (iF c4 (iF c5 (iF c6 (iF c7 (iF c8 (iF c9 (iF c10 (iF c11 (iF c12 (iF c13 (iF c14 (iF c15 (iT c16 (bS s1 (bS s2 (bS s3 (bS H.c0 (zS a (bS s1 (bS s2 (bS s3 (bS ck (zS b (iT rfl e))))))))))))))))))))))))))))), by omega, by omega⟩
    by_cases c17 : (xS i &&& (31 : Int32)) = (17 : Int32)
    · obtain ⟨r, g1, g2, a, b, H2, l1, l2, ck⟩ := (op_strike (N := N) (by omega) H (xS (i + 1)) (xS (i + 2))).q
      obtain ⟨h', e, x1, x2⟩ := ih6 g2 H2
      exact ⟨h', iF hn (bS s0 (iF c0 (iF c1 (iF c2 (iF c3 (iF c4 (iF c5 (iF c6 (iF c7 (iF c8 (iF c9 (iF c10 (iF c11 (iF c12 (iF c13 (iF c14 (iF c15 (iF c16 (iT c17 (bS s1 (bS s2 (bS H.c0 (zS a (bS s1 (bS s2 (bS ck (zS b (iT rfl e)))))))))))))))))))))))))))), by omega, by omega⟩
    by_cases c18 : (xS i &&& (31 : Int32)) = (18 : Int32)
    · obtain ⟨r, g1, g2, a, b, H2, l1, l2, ck⟩ := (op_law (N := N) (by omega) H (xS (i + 1)) (xS (i + 2)) (xS (i + 3))).q
      obtain ⟨h', e, x1, x2⟩ := ih6 g2 H2
      exact ⟨h', iF hn (bS s0 (iF c0 (iF c1 (iF c2 (iF c3 (iF c4 (iF c5 (iF c6 (iF c7 (iF c8 (iF c9 (iF c10 (iF c11 (iF c12 (iF c13 (iF c14 (iF c15 (iF c16 (iF c17 (iT c18 (bS s1 (bS s2 (bS s3 (bS H.c0 (zS a (bS s1 (bS s2 (bS s3 (bS ck (zS b (iT rfl e))))))))))))))))))))))))))))))), by omega, by omega⟩
    by_cases c19 : (xS i &&& (31 : Int32)) = (19 : Int32)
    · obtain ⟨r, a, b⟩ := (op_kind (N := N) (by omega) H (xS (i + 1)) (xS (i + 2)) (xS (i + 3)))
      obtain ⟨h', e, x1, x2⟩ := ih6 h H
      exact ⟨h', iF hn (bS s0 (iF c0 (iF c1 (iF c2 (iF c3 (iF c4 (iF c5 (iF c6 (iF c7 (iF c8 (iF c9 (iF c10 (iF c11 (iF c12 (iF c13 (iF c14 (iF c15 (iF c16 (iF c17 (iF c18 (iT c19 (bS s1 (bS s2 (bS s3 (bS H.c0 (bS a (bS s1 (bS s2 (bS s3 (bS H.m27 (bS b (iT rfl e)))))))))))))))))))))))))))))))), by omega, by omega⟩
    by_cases c20 : (xS i &&& (31 : Int32)) = (20 : Int32)
    · obtain ⟨r, g1, g2, a, b, H2, l1, l2, ck⟩ := (op_bay (N := N) (by omega) H (xS (i + 1))).q
      obtain ⟨h', e, x1, x2⟩ := ih6 g2 H2
      exact ⟨h', iF hn (bS s0 (iF c0 (iF c1 (iF c2 (iF c3 (iF c4 (iF c5 (iF c6 (iF c7 (iF c8 (iF c9 (iF c10 (iF c11 (iF c12 (iF c13 (iF c14 (iF c15 (iF c16 (iF c17 (iF c18 (iF c19 (iT c20 (bS s1 (bS H.c0 (zS a (bS s1 (bS ck (zS b (iT rfl e))))))))))))))))))))))))))))), by omega, by omega⟩
    by_cases c21 : (xS i &&& (31 : Int32)) = (21 : Int32)
    · obtain ⟨r, g1, g2, a, b, H2, l1, l2, ck⟩ := (op_layout (N := N) hN H )
      obtain ⟨h', e, x1, x2⟩ := ih6 g2 H2
      exact ⟨h', iF hn (bS s0 (iF c0 (iF c1 (iF c2 (iF c3 (iF c4 (iF c5 (iF c6 (iF c7 (iF c8 (iF c9 (iF c10 (iF c11 (iF c12 (iF c13 (iF c14 (iF c15 (iF c16 (iF c17 (iF c18 (iF c19 (iF c20 (iT c21 (bS H.c0 (zS a (bS ck (zS b (iT rfl e)))))))))))))))))))))))))))), by omega, by omega⟩
    by_cases c22 : (xS i &&& (31 : Int32)) = (22 : Int32)
    · obtain ⟨r, a, b⟩ := (op_on (N := N) (by omega) H (xS (i + 1)))
      obtain ⟨h', e, x1, x2⟩ := ih6 h H
      exact ⟨h', iF hn (bS s0 (iF c0 (iF c1 (iF c2 (iF c3 (iF c4 (iF c5 (iF c6 (iF c7 (iF c8 (iF c9 (iF c10 (iF c11 (iF c12 (iF c13 (iF c14 (iF c15 (iF c16 (iF c17 (iF c18 (iF c19 (iF c20 (iF c21 (iT c22 (bS s1 (bS H.c0 (bS a (bS s1 (bS H.m27 (bS b (iT rfl e))))))))))))))))))))))))))))))), by omega, by omega⟩
    by_cases c23 : (xS i &&& (31 : Int32)) = (23 : Int32)
    · obtain ⟨r, g1, g2, a, b, H2, l1, l2, ck⟩ := (op_lane (N := N) (by omega) H (xS (i + 1)) (xS (i + 2))).q
      obtain ⟨h', e, x1, x2⟩ := ih6 g2 H2
      exact ⟨h', iF hn (bS s0 (iF c0 (iF c1 (iF c2 (iF c3 (iF c4 (iF c5 (iF c6 (iF c7 (iF c8 (iF c9 (iF c10 (iF c11 (iF c12 (iF c13 (iF c14 (iF c15 (iF c16 (iF c17 (iF c18 (iF c19 (iF c20 (iF c21 (iF c22 (iT c23 (bS s1 (bS s2 (bS H.c0 (zS a (bS s1 (bS s2 (bS ck (zS b (iT rfl e)))))))))))))))))))))))))))))))))), by omega, by omega⟩
    by_cases c24 : (xS i &&& (31 : Int32)) = (24 : Int32)
    · obtain ⟨r, a, b⟩ := (op_state (N := N) H (xS (i + 1)))
      obtain ⟨h', e, x1, x2⟩ := ih6 h H
      exact ⟨h', iF hn (bS s0 (iF c0 (iF c1 (iF c2 (iF c3 (iF c4 (iF c5 (iF c6 (iF c7 (iF c8 (iF c9 (iF c10 (iF c11 (iF c12 (iF c13 (iF c14 (iF c15 (iF c16 (iF c17 (iF c18 (iF c19 (iF c20 (iF c21 (iF c22 (iF c23 (iT c24 (bS s1 (bS H.c0 (bS a (bS s1 (bS H.m27 (bS b (iT rfl e))))))))))))))))))))))))))))))))), by omega, by omega⟩
    by_cases c25 : (xS i &&& (31 : Int32)) = (25 : Int32)
    · obtain ⟨r, g1, g2, a, b, H2, l1, l2, ck⟩ := (op_undo (N := N) (by omega) H).q
      obtain ⟨h', e, x1, x2⟩ := ih6 g2 H2
      exact ⟨h', iF hn (bS s0 (iF c0 (iF c1 (iF c2 (iF c3 (iF c4 (iF c5 (iF c6 (iF c7 (iF c8 (iF c9 (iF c10 (iF c11 (iF c12 (iF c13 (iF c14 (iF c15 (iF c16 (iF c17 (iF c18 (iF c19 (iF c20 (iF c21 (iF c22 (iF c23 (iF c24 (iT c25 (bS H.c0 (zS a (bS ck (zS b (iT rfl e)))))))))))))))))))))))))))))))), by omega, by omega⟩
    obtain ⟨h', e, x1, x2⟩ := ih6 h H
    exact ⟨h', iF hn (bS s0 (iF c0 ( iF c1 ( iF c2 ( iF c3 ( iF c4 ( iF c5 ( iF c6 ( iF c7 ( iF c8 ( iF c9 ( iF c10 ( iF c11 ( iF c12 ( iF c13 ( iF c14 ( iF c15 ( iF c16 ( iF c17 ( iF c18 ( iF c19 ( iF c20 ( iF c21 ( iF c22 ( iF c23 ( iF c24 (iF c25 e))))))))))))))))))))))))))), by omega, by omega⟩
theorem law_go {N nS : Nat} {xS : Nat → Int32} {h' : zH} (hN : 100 ≤ N) (e : f_L_law_18 N nS xS N (some 0) (some 27) (nI 0) (mp mH0 Iz (va_up Az 0 (iD 16))) = some (1, h')) : f_L_law N nS xS [] = some (1, h') := by
  show (f_X11_init N 0 [.inr (11, [zr none, zr none, zr none, zr none, zi 0, zr none])]).bind (fun h2 => znw h2 (.inr (12, [zr none, zi 0, zr none, zi 0, zi 0, zi 0, zi 0, zi 0, zi 0, zi 0, zi 0, zi 0, zi 0, zr none, zr none, zr none, zr none, zr none, zr none, zr none, zr none, zr none, zr none, zi 0, zr none, zr none, zr none, zr none, zi 0, zr none, zr none])) fun a2 h3 => (f_X12_init N a2 h3).bind fun h4 => f_L_law_18 N nS xS N (some 0) (some a2) (0 : Int32) h4) = some (1, h')
  rw [c_new N, Option.bind_some]
  unfold znw
  rw [show cH0.length = 27 from rfl]
  dsimp only
  rw [m_new N, m_made hN, Option.bind_some]
  exact e
theorem zpure0 : ∀ (nS : Nat) (xS : Nat → Int32), nS ≤ 3072 → ∃ (N : Nat) (h' : zH), f_L_law N nS xS [] = some (1, h') ∧ h'.length ≤ 600000 ∧ zsl h' ≤ 7302250 := by
  intro nS xS hS
  obtain ⟨N, hN⟩ : ∃ N : Nat, 1000000 ≤ N := ⟨1000000, Nat.le_refl _⟩
  obtain ⟨h', e, l, z⟩ := law_loop (N := N) (nS := nS) (xS := xS) hN hS 512 0 N (mp mH0 Iz (va_up Az 0 (iD 16))) in_start (by omega) (by omega) (by omega)
  refine ⟨N, h', law_go (by omega) e, ?_, ?_⟩
  · rw [mp_len] at l
    have : mH0.length = 46 := rfl
    omega
  · rw [zsl_mp mhz] at z
    have : zsl mH0 ≤ 100000 := Nat.le_of_ble_eq_true rfl
    omega
