/-! ===== kind ===== -/
def th (d kn st day known : Int32) : Bool := decide (¬ day < d ∧ ¬ d ≤ day - 365 ∧ ¬ known < kn ∧ (st = -1 ∨ ¬ st ≤ known))
def scA (a k : Nat) : Nat := 4925 + 4 * (30 * a + k)
def cntF (D : Nat → Int32) (a : Nat) (day known least : Int32) : Nat → Int32
  | 0 => 0
  | k + 1 => if th (D (scA a k)) (D (scA a k + 2)) (D (scA a k + 3)) day known = true ∧ ¬ D (scA a k + 1) < least then cntF D a day known least k + 1 else cntF D a day known least k
section ckind
variable {H : zH} {sc b n N k a : Nat} {f D : Nat → Int32} {day known least : Int32}
theorem g_stands (w0 : H[sc]? = some (.inr (7, [zr (some b)]))) (w1 : H[b]? = some (.inl (0, n * 4, .inl f))) (hn : n ≤ 30) (hk : k < n) : f_X7_standsFor N sc (nI k * 4) day known H = some (if th (f (k * 4)) (f (k * 4 + 2)) (f (k * 4 + 3)) day known = true then 1 else 0) := by
  have l0 : zld H 0 (some b) (nI k * 4 + 0) = some (f (k * 4)) := by rw [lm_r, la_r]; exact fld_ w1 (j := k * 4) (by omega) (by omega)
  have l2 : zld H 0 (some b) (nI k * 4 + 2) = some (f (k * 4 + 2)) := by rw [lm_r, la_r]; exact fld_ w1 (by omega) (by omega)
  have l3 : zld H 0 (some b) (nI k * 4 + 3) = some (f (k * 4 + 3)) := by rw [lm_r, la_r]; exact fld_ w1 (by omega) (by omega)
  have ez : ¬ (1 : Int32) = 0 := by decide
  have z64 : ∀ s : Int32, f_X7_standsFor_64 N sc (nI k * 4) known 0 s H = some 0 := fun s => iT rfl rfl
  have z33 : f_X7_standsFor_33 N sc (nI k * 4) known 0 H = some 0 := by
    refine bS (fgR w0 rfl) (bS l3 ?_)
    by_cases h1 : f (k * 4 + 3) = -1
    · exact iT h1 (z64 0)
    · refine iF h1 (bS (fgR w0 rfl) (bS l3 ?_))
      by_cases h2 : known < f (k * 4 + 3)
      · exact iT h2 (z64 0)
      · exact iF h2 (z64 1)
  generalize hV : (if th (f (k * 4)) (f (k * 4 + 2)) (f (k * 4 + 3)) day known = true then (1 : Int32) else 0) = V
  have v0 : ¬ th (f (k * 4)) (f (k * 4 + 2)) (f (k * 4 + 3)) day known = true → V = 0 := fun z => by rw [← hV]; exact if_neg z
  have v1 : th (f (k * 4)) (f (k * 4 + 2)) (f (k * 4 + 3)) day known = true → V = 1 := fun z => by rw [← hV]; exact if_pos z
  unfold th at v0 v1
  clear hV
  by_cases h1 : day < f (k * 4)
  · rw [v0 (by simp [h1])]
    exact bS (fgR w0 rfl) (bS l0 (iT h1 z33))
  by_cases h2 : f (k * 4) ≤ day - 365
  · rw [v0 (by simp [h2])]
    exact bS (fgR w0 rfl) (bS l0 (iF h1 (bS (fgR w0 rfl) (bS l0 (iT h2 z33)))))
  refine bS (fgR w0 rfl) (bS l0 (iF h1 (bS (fgR w0 rfl) (bS l0 (iF h2 (bS (fgR w0 rfl) (bS l3 ?_)))))))
  by_cases h3 : known < f (k * 4 + 2)
  · rw [v0 (by simp [h3])]
    have e0 : ∀ s : Int32, f_X7_standsFor_64 N sc (nI k * 4) known 1 s H = some 0 := fun s => iF ez (bS (fgR w0 rfl) (bS l2 (iT h3 rfl)))
    by_cases h4 : f (k * 4 + 3) = -1
    · exact iT h4 (e0 0)
    · refine iF h4 (bS (fgR w0 rfl) (bS l3 ?_))
      by_cases h5 : known < f (k * 4 + 3)
      · exact iT h5 (e0 0)
      · exact iF h5 (e0 1)
  · have e1 : f_X7_standsFor_64 N sc (nI k * 4) known 1 0 H = some 1 := iF ez (bS (fgR w0 rfl) (bS l2 (iF h3 (iT rfl rfl))))
    have e0 : f_X7_standsFor_64 N sc (nI k * 4) known 1 1 H = some 0 := iF ez (bS (fgR w0 rfl) (bS l2 (iF h3 (iF ez rfl))))
    by_cases h4 : f (k * 4 + 3) = -1
    · rw [v1 (by simp [h1, h2, h3, h4])]
      exact iT h4 e1
    · refine iF h4 (bS (fgR w0 rfl) (bS l3 ?_))
      by_cases h5 : known < f (k * 4 + 3)
      · rw [v1 (by simp [h1, h2, h3, h5])]
        exact iT h5 e1
      · rw [v0 (by simp [h4, Int32.not_lt.mp h5])]
        exact iF h5 e0
theorem g_countFor (w0 : H[sc]? = some (.inr (7, [zr (some b)]))) (w1 : H[b]? = some (.inl (0, n * 4, .inl f))) (hn : n ≤ 30) (hN : 40 ≤ N) (hz : ∀ k, k < n → ∀ i, i < 4 → f (k * 4 + i) = D (scA a k + i)) : f_X7_countFor N sc day known least H = some (cntF D a day known least n) := by
  have go : ∀ (j b' fuel : Nat), b' + j = n → j < fuel → f_X7_countFor_6 N fuel sc day known least (cntF D a day known least b') (nI b') H = some (cntF D a day known least n) := by
    intro j
    induction j with
    | zero =>
      intro b' fuel h1 h2
      obtain ⟨fuel, rfl⟩ : ∃ m, fuel = m + 1 := ⟨fuel - 1, by omega⟩
      rw [f_X7_countFor_6, show b' = n by omega]
      exact bS (fk w0) (bS (g_scount w0 w1 hn) (iT (Int32.le_refl _) rfl))
    | succ j ih =>
      intro b' fuel h1 h2
      obtain ⟨fuel, rfl⟩ : ∃ m, fuel = m + 1 := ⟨fuel - 1, by omega⟩
      have hb : b' < n := by omega
      have e0 : f (b' * 4) = D (scA a b') := hz b' hb 0 (by omega)
      have e1 := hz b' hb 1 (by omega)
      have e2 := hz b' hb 2 (by omega)
      have e3 := hz b' hb 3 (by omega)
      have st := g_stands (N := N) (day := day) (known := known) w0 w1 hn hb
      rw [e0, e2, e3] at st
      have nx := ih (b' + 1) fuel (by omega) (by omega)
      rw [cntF] at nx
      rw [f_X7_countFor_6]
      refine bS (fk w0) (bS (g_scount w0 w1 hn) (iF (nI_ge hb (by omega)) (bS (fk w0) (bS st ?_))))
      by_cases t1 : th (D (scA a b')) (D (scA a b' + 2)) (D (scA a b' + 3)) day known = true
      · rw [if_pos t1]
        refine iF (by decide) (bS (fgR w0 rfl) (bS (fldx (j := b' * 4 + 1) (by rw [lm_r, la_r]) w1 (by omega) (by omega)) ?_))
        rw [e1]
        by_cases t2 : D (scA a b' + 1) < least
        · rw [if_neg (fun z => z.2 t2)] at nx
          refine iT t2 ?_
          rw [la_r]; exact nx
        · rw [if_pos ⟨t1, t2⟩] at nx
          refine iF t2 ?_
          rw [la_r]; exact nx
      · rw [if_neg (fun z => t1 z.1)] at nx
        rw [if_neg t1]
        refine iT rfl ?_
        rw [la_r]; exact nx
  exact go n 0 N (by omega) (by omega)
end ckind
section mkind
variable {h : zH} {I : Nat → Int32} {A : Nat → Nat → Int32} {N n a l : Nat} {day known : Int32} {K : Nat → Int32 → Int32 → Int32 → Int32 → zH → Option Int32}
theorem m_kind_46 (hl : 46 ≤ h.length) (ha : a < 16) (hL : l < 6) (hn : A 0 (4909 + a) = nI n) (h30 : n ≤ 30) : ∀ (j b fuel : Nat), b + j = n → j < fuel →
    f_X12_kind_46 N K fuel 27 (nI a) day known (nI l) (cntF (A 0) a day known (A 0 (6846 + 3 * l + 2)) b) (nI b) (mp h I A) = if cntF (A 0) a day known (A 0 (6846 + 3 * l + 2)) n < A 0 (6846 + 3 * l + 1) then K 27 (nI a) day known (nI l + 1) (mp h I A) else some (A 0 (6846 + 3 * l)) := by
  have lw1 : zld (mp h I A) 0 (some 28) (((6846 : Int32) + ((3 : Int32) * nI l)) + (1 : Int32)) = some (A 0 (6846 + 3 * l + 1)) := by rw [lm_l, la_l, la_r, ml0 hl (by omega)]
  have lw0 : zld (mp h I A) 0 (some 28) ((6846 : Int32) + ((3 : Int32) * nI l)) = some (A 0 (6846 + 3 * l)) := by rw [lm_l, la_l, ml0 hl (by omega)]
  have lw2 : zld (mp h I A) 0 (some 28) (((6846 : Int32) + ((3 : Int32) * nI l)) + (2 : Int32)) = some (A 0 (6846 + 3 * l + 2)) := by rw [lm_l, la_l, la_r, ml0 hl (by omega)]
  have lc : zld (mp h I A) 0 (some 28) ((4909 : Int32) + nI a) = some (nI n) := by rw [la_l, ml0 hl (by omega), hn]
  intro j
  induction j with
  | zero =>
    intro b fuel h1 h2
    obtain ⟨fuel, rfl⟩ : ∃ m, fuel = m + 1 := ⟨fuel - 1, by omega⟩
    rw [f_X12_kind_46, show b = n by omega]
    refine bS (mg0 hl) (bS lc (iT (Int32.le_refl _) (bS (mg0 hl) (bS lw1 ?_))))
    by_cases c1 : cntF (A 0) a day known (A 0 (6846 + 3 * l + 2)) n < A 0 (6846 + 3 * l + 1)
    · rw [if_pos c1, if_pos c1]
    · rw [if_neg c1, if_neg c1]
      exact bS (mg0 hl) (bS lw0 rfl)
  | succ j ih =>
    intro b fuel h1 h2
    obtain ⟨fuel, rfl⟩ : ∃ m, fuel = m + 1 := ⟨fuel - 1, by omega⟩
    have eA : (4925 : Int32) + ((4 : Int32) * (((30 : Int32) * nI a) + nI b)) = nI (scA a b) := by rw [lm_l, nI_add, lm_l, la_l]; rfl
    have hs : scA a b + 4 < 34490 := by unfold scA; omega
    have l0 : zld (mp h I A) 0 (some 28) (nI (scA a b)) = some (A 0 (scA a b)) := ml0 hl (by omega)
    have l1 : zld (mp h I A) 0 (some 28) (nI (scA a b) + 1) = some (A 0 (scA a b + 1)) := by rw [la_r, ml0 hl (by omega)]
    have l2 : zld (mp h I A) 0 (some 28) (nI (scA a b) + 2) = some (A 0 (scA a b + 2)) := by rw [la_r, ml0 hl (by omega)]
    have l3 : zld (mp h I A) 0 (some 28) (nI (scA a b) + 3) = some (A 0 (scA a b + 3)) := by rw [la_r, ml0 hl (by omega)]
    have nx := ih (b + 1) fuel (by omega) (by omega)
    rw [cntF] at nx
    rw [f_X12_kind_46, eA]
    refine bS (mg0 hl) (bS lc (iF (nI_ge (by omega) (by omega)) (bS (mg0 hl) (bS l0 ?_))))
    have no : ¬ th (A 0 (scA a b)) (A 0 (scA a b + 2)) (A 0 (scA a b + 3)) day known = true → f_X12_kind_145 N (fun l0 l1 l2 l3 l4 l5 l6 h => f_X12_kind_46 N K fuel l0 l1 l2 l3 l4 l5 l6 h) 27 (nI a) day known (nI l) (cntF (A 0) a day known (A 0 (6846 + 3 * l + 2)) b) (nI b) (nI (scA a b)) (mp h I A) = if cntF (A 0) a day known (A 0 (6846 + 3 * l + 2)) n < A 0 (6846 + 3 * l + 1) then K 27 (nI a) day known (nI l + 1) (mp h I A) else some (A 0 (6846 + 3 * l)) := by
      intro t1
      rw [if_neg (fun z => t1 z.1)] at nx
      unfold f_X12_kind_145 f_X12_kind_146
      refine iT rfl ?_
      rw [la_r]; exact nx
    have yes : th (A 0 (scA a b)) (A 0 (scA a b + 2)) (A 0 (scA a b + 3)) day known = true → f_X12_kind_141 N (fun l0 l1 l2 l3 l4 l5 l6 h => f_X12_kind_46 N K fuel l0 l1 l2 l3 l4 l5 l6 h) 27 (nI a) day known (nI l) (cntF (A 0) a day known (A 0 (6846 + 3 * l + 2)) b) (nI b) (nI (scA a b)) (mp h I A) = if cntF (A 0) a day known (A 0 (6846 + 3 * l + 2)) n < A 0 (6846 + 3 * l + 1) then K 27 (nI a) day known (nI l + 1) (mp h I A) else some (A 0 (6846 + 3 * l)) := by
      intro t1
      unfold f_X12_kind_141 f_X12_kind_146
      refine iF (by decide) (bS (mg0 hl) (bS l1 (bS (mg0 hl) (bS lw2 ?_))))
      by_cases t2 : A 0 (scA a b + 1) < A 0 (6846 + 3 * l + 2)
      · rw [if_neg (fun z => z.2 t2)] at nx
        refine iT t2 ?_
        rw [la_r]; exact nx
      · rw [if_pos ⟨t1, t2⟩] at nx
        refine iF t2 ?_
        rw [la_r]; exact nx
    by_cases c1 : day < A 0 (scA a b)
    · exact iT c1 (no (by unfold th; simp [c1]))
    refine iF c1 (bS (mg0 hl) (bS l0 ?_))
    by_cases c2 : A 0 (scA a b) ≤ day - 365
    · exact iT c2 (no (by unfold th; simp [c2]))
    refine iF c2 (bS (mg0 hl) (bS l2 ?_))
    by_cases c3 : known < A 0 (scA a b + 2)
    · exact iT c3 (no (by unfold th; simp [c3]))
    refine iF c3 (bS (mg0 hl) (bS l3 ?_))
    by_cases c4 : A 0 (scA a b + 3) = -1
    · exact iT c4 (yes (by unfold th; simp [c1, c2, c3, c4]))
    refine iF c4 (bS (mg0 hl) (bS l3 ?_))
    by_cases c5 : A 0 (scA a b + 3) ≤ known
    · exact iT c5 (no (by unfold th; simp [c4, c5]))
    · exact iF c5 (yes (by unfold th; simp [c1, c2, c3, c5]))
end mkind
theorem op_kind {h : zH} {N : Nat} (hN : 21000 ≤ N) (H : INX h) (x day known : Int32) : OPr (f_X11_kind N 0 x day known) (f_X12_kind N 27 x day known) h := by
  obtain ⟨KI, KR, KA, KP, I, A, c, q, H⟩ := H
  obtain ⟨hl, hC, hM, i1, i2, i3, i4, i5, i6, i7, i8, i9⟩ := id H
  obtain ⟨rq, aq, lq, nq, AR, s0, s1, s2, s3, ⟨lb, ln, lf, l0, l1, l2, l3, l4⟩, s5, s6⟩ := id i5
  have hq5 : zgR (cp h KI KR KA KP) 11 (some 0) 5 = some (some q) := (cg0_5 hl).trans (congrArg some i4)
  have hf := c_find (N := N) (KI := KI) (KR := KR) (KA := KA) (KP := KP) s0 s1 s3 x
  have ez : (1 : Int32) ≠ 0 := by decide
  have dy : ∀ (y : Int32) (H1 H2 : zH), ∃ v, f_X11_isDay N y H1 = some v ∧ f_X12_isDay N y H2 = some v := by
    intro y H1 H2
    unfold f_X11_isDay f_X12_isDay
    by_cases a1 : y < 0
    · exact ⟨0, if_pos a1, if_pos a1⟩
    by_cases a2 : 36500 < y
    · exact ⟨0, iF a1 (iT a2 rfl), iF a1 (iT a2 rfl)⟩
    · exact ⟨1, iF a1 (iF a2 rfl), iF a1 (iF a2 rfl)⟩
  cases hp : pA (A 0) x with
  | none =>
    refine OPr.of H (r := -1) ?_ ?_
    · exact bS hq5 (bS (fk s0.c) (bS (hf.1 (by rw [pA_seg]; exact hp)) (iT rfl rfl)))
    · exact bS (mck hl) (bS (m_isA0 hl hp) (iT rfl rfl))
  | some j =>
    obtain ⟨y, e1, e2⟩ := hf.2 j (by rw [pA_seg]; exact hp)
    obtain ⟨hj, rfl, hcl⟩ := pA_some hp
    have w := s3 j hj
    rw [e1] at w
    obtain ⟨⟨cl, c1, c2⟩, sh, sc, y0, ws, b, n, f, w0, w1, z1, z2, z3⟩ := w
    have hz : ∀ k, k < n → ∀ i, i < 4 → f (k * 4 + i) = A 0 (scA j k + i) := fun k hk i hi => by
      rw [z3 k hk i hi, seg_lo _ (by omega)]; rfl
    have hn : A 0 (4909 + j) = nI n := by rw [← z1, seg_lo _ (by omega)]
    have hln : A 0 6845 = nI ln := (seg_lo _ (j := 6845) (by omega)).symm.trans l2
    have hlf : ∀ k, k < ln → ∀ i, i < 3 → lf (k * 3 + i) = A 0 (6846 + 3 * k + i) := fun k hk i hi => by
      rw [l4 k hk i hi, seg_lo _ (by omega)]
    obtain ⟨d1, d2, d3⟩ := dy day (cp h KI KR KA KP) (mp h I A)
    obtain ⟨k1, k2, k3⟩ := dy known (cp h KI KR KA KP) (mp h I A)
    by_cases hd : d1 = 0
    · exact OPr.of H (r := -1) (bS hq5 (bS (fk s0.c) (bS e2 (iF (by simp) (bS d2 (iT hd rfl)))))) (bS (mck hl) (bS (m_isA hl hp) (iF ez (bS d3 (iT hd rfl)))))
    by_cases hk : k1 = 0
    · exact OPr.of H (r := -1) (bS hq5 (bS (fk s0.c) (bS e2 (iF (by simp) (bS d2 (iF hd (bS k2 (iT hk rfl)))))))) (bS (mck hl) (bS (m_isA hl hp) (iF ez (bS d3 (iF hd (bS k3 (iT hk rfl)))))))
    have ct : f_X1_count N lq (cp h KI KR KA KP) = some (nI ln) := by
      refine bS (fgR l0.c rfl) (bS (flen l1.c (by omega)) ?_)
      rw [show (3 : Int32) = nI 3 from rfl, pk_div (by omega) (by omega) (by omega), Nat.mul_div_cancel _ (by omega)]
    have m45 : zld (mp h I A) 0 (some 28) 6845 = some (nI ln) := by rw [ml0L hl 6845 (by decide)]; exact congrArg some hln
    have go : ∀ (k l f1 f2 : Nat), l + k = ln → k < f1 → k < f2 → ∃ r, f_X1_classOf_3 N f1 lq (some sc) day known (nI l) (cp h KI KR KA KP) = some r ∧ f_X12_kind_27 N f2 27 (nI j) day known (nI l) (mp h I A) = some r := by
      intro k
      induction k with
      | zero =>
        intro l f1 f2 h1 h2 h3
        obtain ⟨f1, rfl⟩ : ∃ m, f1 = m + 1 := ⟨f1 - 1, by omega⟩
        obtain ⟨f2, rfl⟩ : ∃ m, f2 = m + 1 := ⟨f2 - 1, by omega⟩
        rw [f_X1_classOf_3, f_X12_kind_27, show l = ln by omega]
        exact ⟨0, bS (fk l0.c) (bS ct (iT (Int32.le_refl _) rfl)), bS (mg0 hl) (bS m45 (iT (Int32.le_refl _) rfl))⟩
      | succ k ih =>
        intro l f1 f2 h1 h2 h3
        obtain ⟨f1, rfl⟩ : ∃ m, f1 = m + 1 := ⟨f1 - 1, by omega⟩
        obtain ⟨f2, rfl⟩ : ∃ m, f2 = m + 1 := ⟨f2 - 1, by omega⟩
        obtain ⟨r, r1, r2⟩ := ih (l + 1) f1 f2 (by omega) (by omega) (by omega)
        have hL : l < ln := by omega
        have x0 : lf (l * 3) = A 0 (6846 + 3 * l) := hlf l hL 0 (by omega)
        have x1 := hlf l hL 1 (by omega)
        have x2 := hlf l hL 2 (by omega)
        have cf := g_countFor (N := N) (D := A 0) (a := j) (day := day) (known := known) (least := A 0 (6846 + 3 * l + 2)) (w0.c (KI := KI) (KR := KR) (KA := KA) (KP := KP)) w1.c z2 (by omega) hz
        have mk := m_kind_46 (N := N) (I := I) (day := day) (known := known) (l := l) (K := fun l0 l1 l2 l3 l4 h => f_X12_kind_27 N f2 l0 l1 l2 l3 l4 h) hl hj (by omega) hn z2 n 0 N (by omega) (by omega)
        have y2 : zld (cp h KI KR KA KP) 0 (some lb) (nI l * 3 + 2) = some (A 0 (6846 + 3 * l + 2)) := by rw [fldx (j := l * 3 + 2) (by rw [lm_r, la_r]) l1.c (by omega) (by omega), x2]
        have y1 : zld (cp h KI KR KA KP) 0 (some lb) (nI l * 3 + 1) = some (A 0 (6846 + 3 * l + 1)) := by rw [fldx (j := l * 3 + 1) (by rw [lm_r, la_r]) l1.c (by omega) (by omega), x1]
        have y0 : zld (cp h KI KR KA KP) 0 (some lb) (nI l * 3 + 0) = some (A 0 (6846 + 3 * l)) := by rw [fldx (j := l * 3) (by rw [lm_r, la_r]; rfl) l1.c (by omega) (by omega), x0]
        rw [f_X1_classOf_3, f_X12_kind_27]
        by_cases cc : cntF (A 0) j day known (A 0 (6846 + 3 * l + 2)) n < A 0 (6846 + 3 * l + 1)
        · rw [if_pos cc] at mk
          refine ⟨r, bS (fk l0.c) (bS ct (iF (nI_ge hL (by omega)) (bS (fgR l0.c rfl) (bS y2 (bS (fk w0.c) (bS cf (bS (fgR l0.c rfl) (bS y1 (iT cc ?_))))))))), bS (mg0 hl) (bS m45 (iF (nI_ge hL (by omega)) (mk.trans ?_)))⟩
          · rw [la_r]; exact r1
          · show f_X12_kind_27 N f2 27 (nI j) day known (nI l + 1) (mp h I A) = some r
            rw [la_r]; exact r2
        · rw [if_neg cc] at mk
          exact ⟨_, bS (fk l0.c) (bS ct (iF (nI_ge hL (by omega)) (bS (fgR l0.c rfl) (bS y2 (bS (fk w0.c) (bS cf (bS (fgR l0.c rfl) (bS y1 (iF cc (bS (fgR l0.c rfl) (bS y0 rfl))))))))))), bS (mg0 hl) (bS m45 (iF (nI_ge hL (by omega)) mk))⟩
    obtain ⟨r, r1, r2⟩ := go ln 0 N N (by omega) (by omega) (by omega)
    exact OPr.of H (r := r) (bS hq5 (bS (fk s0.c) (bS e2 (iF (by simp) (bS d2 (iF hd (bS k2 (iF hk (bS hq5 (bS (fgR s0.c rfl) (bS (fgR y0.c rfl) (bS (fk l0.c) (bS r1 rfl))))))))))))) (bS (mck hl) (bS (m_isA hl hp) (iF ez (bS d3 (iF hd (bS k3 (iF hk r2)))))))
