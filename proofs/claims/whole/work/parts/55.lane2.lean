/-! ===== lane ===== -/
theorem nI3 {n : Nat} (h : n ≤ 2) : n = 0 ∨ n = 1 ∨ n = 2 := by omega
theorem g_may {H : zH} {nq b1 b2 n N j s0 : Nat} {x3 : zV} {f1 f2 : Nat → Int32} (w0 : H[nq]? = some (.inr (2, [zr (some b1), zr (some b2), x3]))) (w1 : H[b1]? = some (.inl (0, n, .inl f1))) (w2 : H[b2]? = some (.inl (0, n, .inl f2))) (hn : n ≤ 8) (hj : j < n) (hs : f2 j = nI s0) (hs2 : s0 ≤ 2) (hN : 20 ≤ N) (s : Int32) :
    ∃ v, f_X2_mayBecome N nq (nI j) s H = some v ∧ ((v = 0 ∧ (¬ (s = 0 ∨ s = 1 ∨ s = 2) ∨ (s = nI s0 ∨ nI s0 + s = 3) ∨ (s0 = 0 ∧ ∃ t, s = nI t ∧ 0 < t ∧ t ≤ 2 ∧ ∃ k, k < n ∧ f1 k = f1 j ∧ f2 k = nI (3 - t)))) ∨ (v = 1 ∧ ∃ t, s = nI t ∧ t ≤ 2 ∧ t ≠ s0 ∧ s0 + t ≠ 3 ∧ ¬ (0 < t ∧ ∃ k, k < n ∧ f1 k = f1 j ∧ f2 k = nI (3 - t)))) := by
  have st : f_X2_stateOf N nq (nI j) H = some (nI s0) := iF (nI_pos (by omega)) (bS (fgR w0 rfl) (bS (flen w2 (by omega)) (iF (nI_ge hj (by omega)) (bS (fgR w0 rfl) (bS (fld_ w2 hj (by omega)) (by rw [hs]))))))
  have any : ∀ v : Nat, (∃ k, k < n ∧ f1 k = f1 j ∧ f2 k = nI v) → f_X2_isAnyOfBay N nq (nI j) (nI v) H = some 1 := by
    intro v ⟨k, k1, k2⟩
    obtain ⟨t, t1, t2, t3⟩ := exFst (fun k => f1 k = f1 j ∧ f2 k = nI v) n
    have ht : t < n := Classical.byContradiction (fun z => t2 k (by omega) k2)
    refine iF (nI_pos (by omega)) (bS (fgR w0 rfl) (bS (flen w1 (by omega)) (iT (nI_lt hj (by omega)) ?_)))
    have := g_any (N := N) w0 w1 w2 hn hj t1 t2 t3 t 0 N (by omega) (by omega) (by omega)
    rw [if_pos ht] at this
    exact this
  have nany : ∀ v : Nat, ¬ (∃ k, k < n ∧ f1 k = f1 j ∧ f2 k = nI v) → f_X2_isAnyOfBay N nq (nI j) (nI v) H = some 0 := by
    intro v nk
    refine iF (nI_pos (by omega)) (bS (fgR w0 rfl) (bS (flen w1 (by omega)) (iT (nI_lt hj (by omega)) ?_)))
    have := g_any (N := N) w0 w1 w2 hn hj (Nat.le_refl n) (fun k hk z => nk ⟨k, hk, z⟩) (fun z => by omega) n 0 N (by omega) (by omega) (by omega)
    rw [if_neg (by omega)] at this
    exact this
  unfold f_X2_mayBecome
  rw [fk w0, Option.bind_some, st, Option.bind_some]
  rcases nI3 hs2 with rfl | rfl | rfl
  · rw [if_pos (show nI 0 = (0 : Int32) from rfl)]
    by_cases a1 : s = 1
    · subst a1
      rw [if_pos rfl, Option.bind_some]
      by_cases ha : ∃ k, k < n ∧ f1 k = f1 j ∧ f2 k = nI 2
      · refine ⟨0, bS (any 2 ha) (iF (by decide) (iF (by decide) rfl)), Or.inl ⟨rfl, Or.inr (Or.inr ⟨rfl, 1, rfl, by omega, by omega, ha⟩)⟩⟩
      · exact ⟨1, bS (nany 2 ha) (iT rfl rfl), Or.inr ⟨rfl, 1, rfl, by omega, by omega, by omega, fun z => ha z.2⟩⟩
    · rw [if_neg a1]
      unfold f_X2_mayBecome_46
      by_cases a2 : s = 2
      · subst a2
        rw [if_pos rfl, fk w0, Option.bind_some]
        by_cases ha : ∃ k, k < n ∧ f1 k = f1 j ∧ f2 k = nI 1
        · refine ⟨0, bS (any 1 ha) (iF (by decide) rfl), Or.inl ⟨rfl, Or.inr (Or.inr ⟨rfl, 2, rfl, by omega, by omega, ha⟩)⟩⟩
        · exact ⟨1, bS (nany 1 ha) (iT rfl rfl), Or.inr ⟨rfl, 2, rfl, by omega, by omega, by omega, fun z => ha z.2⟩⟩
      · refine ⟨0, if_neg a2, Or.inl ⟨rfl, ?_⟩⟩
        by_cases a0 : s = 0
        · exact Or.inr (Or.inl (Or.inl a0))
        · exact Or.inl (by rintro (z | z | z) <;> contradiction)
  · rw [if_neg (by decide), if_pos (by decide)]
    unfold f_X2_mayBecome_66
    by_cases a0 : s = 0
    · subst a0
      exact ⟨1, if_pos rfl, Or.inr ⟨rfl, 0, rfl, by omega, by omega, by omega, fun z => by omega⟩⟩
    · refine ⟨0, if_neg a0, Or.inl ⟨rfl, ?_⟩⟩
      by_cases a1 : s = 1
      · exact Or.inr (Or.inl (Or.inl a1))
      by_cases a2 : s = 2
      · exact Or.inr (Or.inl (Or.inr (by rw [a2]; decide)))
      · exact Or.inl (by rintro (z | z | z) <;> contradiction)
  · rw [if_neg (by decide), if_neg (by decide), if_pos (by decide)]
    unfold f_X2_mayBecome_66
    by_cases a0 : s = 0
    · subst a0
      exact ⟨1, if_pos rfl, Or.inr ⟨rfl, 0, rfl, by omega, by omega, by omega, fun z => by omega⟩⟩
    · refine ⟨0, if_neg a0, Or.inl ⟨rfl, ?_⟩⟩
      by_cases a1 : s = 1
      · exact Or.inr (Or.inl (Or.inr (by rw [a1]; decide)))
      by_cases a2 : s = 2
      · exact Or.inr (Or.inl (Or.inl a2))
      · exact Or.inl (by rintro (z | z | z) <;> contradiction)
theorem op_lane {h : zH} {N : Nat} (hN : 21000 ≤ N) (H : INX h) (x s : Int32) : OPo (f_X11_lane N 0 x s) (f_X12_lane N 27 x s) h := by
  obtain ⟨KI, KR, KA, KP, I, A, c, q, H⟩ := H
  obtain ⟨hl, hC, hM, i1, i2, i3, i4, i5, i6, i7, i8, i9⟩ := id H
  obtain ⟨rq, aq, lq, nq, AR, s0, s1, s2, s3, s4, ⟨b1, b2, b3, n, f1, f2, f3, w0, w1, w2, w3, z1, z2, z3, z4, z5, z6⟩, s6⟩ := id i5
  have hq5 : zgR (cp h KI KR KA KP) 11 (some 0) 5 = some (some q) := (cg0_5 hl).trans (congrArg some i4)
  have hn : A 0 6864 = nI n := (seg_lo _ (j := 6864) (by omega)).symm.trans z1
  have z1' : ∀ {h1 : zH}, 46 ≤ h1.length → zld (mp h1 I A) 0 (some 28) 6864 = some (nI n) := fun hl1 => by rw [ml0L hl1 6864 (by decide)]; exact congrArg some hn
  have cx : ∀ {v}, f_X2_mayBecome N nq x s (cp h KI KR KA KP) = some v → v = 0 → f_X11_lane N 0 x s (cp h KI KR KA KP) = some (-1, cp h KI KR KA KP) := fun hr h0 => bS hq5 (bS (fgR s0.c rfl) (bS (fk w0.c) (bS hr (iT h0 rfl))))
  have out : f_X2_stateOf N nq x (cp h KI KR KA KP) = some (-1) → f_X2_mayBecome N nq x s (cp h KI KR KA KP) = some 0 := fun hv => bS (fk w0.c) (bS hv (iF (by decide) (iF (by decide) (iF (by decide) rfl))))
  by_cases h1 : x < 0
  · exact OPo.same H (r := -1) (cx (out (iT h1 rfl)) rfl) (iT h1 rfl)
  by_cases h2 : nI n ≤ x
  · exact OPo.same H (r := -1) (cx (out (iF h1 (bS (fgR w0.c rfl) (bS (flen w2.c (by omega)) (iT h2 rfl))))) rfl) (iF h1 (bS (mg0 hl) (bS (z1' hl) (iT h2 rfl))))
  rcases pk_ix x (n := n) (by omega) with h3 | h3 | ⟨j, hj, rfl⟩
  · exact absurd h3 h1
  · exact absurd h3 h2
  obtain ⟨y1, y2, y3, ⟨so, y4, y5⟩⟩ := z3 j hj
  have ls : ∀ {h1 : zH}, 46 ≤ h1.length → zld (mp h1 I A) 0 (some 28) ((6873 : Int32) + nI j) = some (nI so) := fun hl1 => by rw [la_l, ml0 hl1 (by omega), ← y4, seg_lo _ (by omega)]
  have sA : ∀ k, k < n → A 0 (6865 + k) = f1 k ∧ A 0 (6873 + k) = f2 k := fun k hk => by
    rw [(z3 k hk).1, (z3 k hk).2.1, seg_lo _ (by omega), seg_lo _ (by omega)]; exact ⟨rfl, rfl⟩
  obtain ⟨v, v1, v2⟩ := g_may (N := N) (w0.c (KI := KI) (KR := KR) (KA := KA) (KP := KP)) w1.c w2.c z2 hj (y2.trans y4) y5 (by omega) s
  have mx : ∀ {h1 : zH} {r}, 46 ≤ h1.length → ¬ s < 0 → s ≤ 2 → (if nI so = s then some (((-1) : Int32), mp h1 I A) else if (nI so + s) = (3 : Int32) then some (((-1) : Int32), mp h1 I A) else f_X12_lane_55 N N 27 (nI j) s (nI so) (0 : Int32) (mp h1 I A)) = r → f_X12_lane N 27 (nI j) s (mp h1 I A) = r := fun hl1 e1 e2 hr => iF h1 (bS (mg0 hl1) (bS (z1' hl1) (iF h2 (iF e1 (iT e2 (bS (mg0 hl1) (bS (ls hl1) hr)))))))
  rcases v2 with ⟨v0, v2⟩ | ⟨v0, t, rfl, t1, t2, t3, t4⟩
  · refine OPo.same H (r := -1) (cx v1 v0) ?_
    by_cases e1 : s < 0
    · exact iF h1 (bS (mg0 hl) (bS (z1' hl) (iF h2 (iT e1 rfl))))
    by_cases e2 : s ≤ 2
    · refine mx hl e1 e2 ?_
      by_cases e3 : nI so = s
      · exact iT e3 rfl
      by_cases e4 : nI so + s = 3
      · exact iF e3 (iT e4 rfl)
      refine iF e3 (iF e4 ?_)
      rcases v2 with v2 | (v2 | v2) | ⟨u0, t, rfl, t1, t2, k, k1, k2, k3⟩
      · exfalso
        apply v2
        obtain ⟨m, m1, m2⟩ := nI_of2 (M := 2) (n := 2) (by decide) e1 e2
        rcases nI3 m1 with rfl | rfl | rfl
        · exact Or.inl m2
        · exact Or.inr (Or.inl m2)
        · exact Or.inr (Or.inr m2)
      · exact absurd v2.symm e3
      · exact absurd v2 e4
      · obtain ⟨t', p1, p2, p3⟩ := exFst (fun k => 0 < t ∧ A 0 (6865 + k) = A 0 (6865 + j) ∧ A 0 (6873 + k) = nI (3 - t)) n
        have ht : t' < n := Classical.byContradiction (fun z => p2 k (by omega) ⟨t1, by rw [(sA k k1).1, (sA j hj).1]; exact k2, by rw [(sA k k1).2]; exact k3⟩)
        have := m_lane_55 (N := N) (was := nI so) hl hN i3 i2 hn z2 hj t2 p1 p2 p3 t' 0 N (by omega) (by omega) (by omega)
        rw [if_pos ht] at this
        exact this
    · exact iF h1 (bS (mg0 hl) (bS (z1' hl) (iF h2 (iF e1 (iF e2 rfl)))))
  · have g0 : ∀ {ns : List zE} {KI : Nat → Int32} {KR : Nat → Option Nat} {KA : Nat → Nat → Int32} {KP : Nat → Option Nat}, (cp (h ++ ns) KI KR KA KP)[nq]? = some (.inr (2, [zr (some b1), zr (some b2), zr (some b3)])) := n_old (fz_19 w0.1) w0.2
    have g2 : ∀ {ns : List zE} {KI : Nat → Int32} {KR : Nat → Option Nat} {KA : Nat → Nat → Int32} {KP : Nat → Option Nat}, (cp (h ++ ns) KI KR KA KP)[b2]? = some (.inl (0, n, .inl f2)) := n_old (fz_19 w2.1) w2.2
    have kk := kept.cp (h := h) (ns := [.inr (9, [zr rq, zr (some (h.length + 1)), zr (some lq), zr (some (h.length + 3)), zi (seg (A 0) 0 6897)]), .inl (4, 16, .inr AR), .inl (0, n, .inl (upd f2 j (nI t))), .inr (2, [zr (some b1), zr (some (h.length + 2)), zr (some b3)])]) (KI := upd KI 0 (nI (kpC c))) (KR := va_up KR 0 (some (h.length + 0))) (KA := KA) (KP := kpP KP c q)
    have st : f_X2_stateOf N nq (nI j) (cp h KI KR KA KP) = some (nI so) := iF h1 (bS (fgR w0.c rfl) (bS (flen w2.c (by omega)) (iF h2 (bS (fgR w0.c rfl) (bS (fld_ w2.c hj (by omega)) (by rw [y2, y4]))))))
    refine OPo.chg H (r := nI so) (d' := upd (kpD (A 0) c) (6873 + j) (nI t)) (ns := [.inr (9, [zr rq, zr (some (h.length + 1)), zr (some lq), zr (some (h.length + 3)), zi (seg (A 0) 0 6897)]), .inl (4, 16, .inr AR), .inl (0, n, .inl (upd f2 j (nI t))), .inr (2, [zr (some b1), zr (some (h.length + 2)), zr (some b3)])]) ?_ (fun h1' hl1 => ?_) ?_ ?_ (by simp) (by simp [zsl, zsz]; omega)
    · refine bS hq5 (bS (fgR s0.c rfl) (bS (fk w0.c) (bS v1 (iF (by rw [v0]; decide) (bS hq5 (bS (fgR s0.c rfl) (bS (fk w0.c) (bS st (bS (ck0 hl) (zS (c_chg H (by omega) s0 s1) (bS (n_R hl (i := 0) rfl rfl) (bS (fk g0) ?_))))))))))))
      refine zS (show f_X2_withState N nq (nI j) (nI t) _ = some _ from bS (fgR g0 rfl) (n_cl hl g2 2 rfl (iF h1 (bS (n_ln hl (i := 2) rfl (by omega)) (iF h2 (bS (n_st hl (i := 2) rfl hj (by omega)) (nS hl 3 rfl (bS (fgR g0 rfl) (bS (fgR g0 rfl) (bS (bS (n_u hl (i := 3) rfl (Nat.le_of_ble_eq_true rfl)) (bS (n_u hl (i := 3) rfl (Nat.le_of_ble_eq_true rfl)) (bS (n_u hl (i := 3) rfl (Nat.le_of_ble_eq_true rfl)) rfl))) rfl))))))))) ) ?_
      exact bS (n_u hl (i := 0) rfl (Nat.le_of_ble_eq_true rfl)) rfl
    · refine mx hl1 (nI_pos (by omega)) ((nI_leI (b := 2) (by omega) (by omega)).mpr t1) (iF (fun z => t2 ((nI_eq (by omega) (by omega)).mp z).symm) (iF (fun z => ?_) ?_))
      · rw [nI_add] at z
        exact t3 ((nI_eq (b := 3) (by omega) (by omega)).mp z)
      · have := m_lane_55 (N := N) (was := nI so) hl1 hN i3 i2 hn z2 hj t1 (Nat.le_refl n) (fun k hk z => t4 ⟨z.1, k, hk, by rw [← (sA k hk).1, ← (sA j hj).1]; exact z.2.1, by rw [← (sA k hk).2]; exact z.2.2⟩) (fun z => by omega) n 0 N (by omega) (by omega) (by omega)
        rw [if_neg (by omega)] at this
        exact this
    · intro i hi
      rw [seg_upi _ (by omega) hi]
    · rw [seg_up0 _ (by omega), seg_kp0]
      have nu : ∀ p, p ≠ 6873 + j → upd (seg (A 0) 0) (6873 + j) (nI t) p = seg (A 0) 0 p := fun p hp => up_ne _ _ hp
      refine SR.putL (F := seg (A 0) 0) hl s2 s3 s4 s6 rfl rfl (fun p hp => nu p (by omega)) ?_
      refine ⟨b1, h.length + 2, b3, n, f1, upd f2 j (nI t), f3, ⟨fz_new hl 3, (n_get hl).trans rfl⟩, w1.mono kk, ⟨fz_new hl 2, (n_get hl).trans rfl⟩, w3.mono kk, by rw [nu _ (by omega)]; exact z1, z2, fun k hk => ?_, fun p hp => ?_, fun a ha => ?_, fun a ha p hp => ?_⟩
      · obtain ⟨u1, u2, u3, u4⟩ := z3 k hk
        rw [nu (6865 + k) (by omega)]
        refine ⟨u1, ?_, u3, ?_⟩
        · by_cases hkj : k = j
          · subst hkj; rw [up_at, up_at]
          · rw [up_ne _ _ hkj, nu _ (by omega)]; exact u2
        · by_cases hkj : k = j
          · subst hkj; exact ⟨t, up_at _ _ _, t1⟩
          · rw [nu _ (by omega)]; exact u4
      · rcases z4 p hp with u | ⟨a, u1, u2, u3⟩
        · exact Or.inl u
        · exact Or.inr ⟨a, u1, u2, by rw [nu _ (by omega)]; exact u3⟩
      · rw [nu _ (by omega)]; exact z5 a ha
      · rw [nu _ (by omega)]; exact z6 a ha p hp
