/-! ===== on, lane ===== -/
theorem m_isAr {h : zH} {I : Nat → Int32} {A : Nat → Nat → Int32} {N b : Nat} (hl : 46 ≤ h.length) (hb : b < 16) : f_X12_isArcher N 27 (nI b) (mp h I A) = some (if A 0 (125 + b) = -1 then 0 else 1) := by
  rw [m_isArcher hl]
  unfold pA
  rw [if_neg (nI_pos (by omega)), if_neg (show ¬ (16 : Int32) ≤ nI b from nI_ge (b := 16) (by omega) (by omega)), nI_clamp (by omega)]
  split <;> rfl
theorem m_on_22 {h : zH} {I : Nat → Int32} {A : Nat → Nat → Int32} {N t : Nat} {x : Int32} (hl : 46 ≤ h.length) (ht : t ≤ 16) (h1 : ∀ a, a < t → A 0 (6881 + a) ≠ x) (h2 : t < 16 → A 0 (125 + t) ≠ -1 ∧ A 0 (6881 + t) = x) : ∀ (m b fuel : Nat), t - b = m → b ≤ t → m < fuel →
    f_X12_on_22 N fuel 27 x (nI b) (mp h I A) = some (if t < 16 then nI t else -1) := by
  intro m
  induction m with
  | zero =>
    intro b fuel q1 q2 q3
    obtain ⟨fuel, rfl⟩ : ∃ n', fuel = n' + 1 := ⟨fuel - 1, by omega⟩
    have hb : b = t := by omega
    subst hb
    rw [f_X12_on_22]
    by_cases hb : b < 16
    · obtain ⟨e1, e2⟩ := h2 hb
      rw [if_pos hb]
      refine iF (nI_ge (b := 16) hb (by omega)) (bS (mck hl) (bS (m_isAr hl hb) (iF (by rw [if_neg e1]; decide) (bS (mg0 hl) ?_))))
      rw [la_l, ml0 hl (by omega), Option.bind_some]
      exact iT e2 rfl
    · rw [if_neg hb]
      exact iT (nI_le (a := 16) (by omega) (by omega)) rfl
  | succ m ih =>
    intro b fuel q1 q2 q3
    obtain ⟨fuel, rfl⟩ : ∃ n', fuel = n' + 1 := ⟨fuel - 1, by omega⟩
    rw [f_X12_on_22, ← ih (b + 1) fuel (by omega) (by omega) (by omega), nI_1]
    refine iF (nI_ge (b := 16) (by omega) (by omega)) (bS (mck hl) (bS (m_isAr hl (by omega)) ?_))
    by_cases hd : A 0 (125 + b) = -1
    · exact iT (if_pos hd) rfl
    · refine iF (by rw [if_neg hd]; decide) (bS (mg0 hl) ?_)
      rw [la_l, ml0 hl (by omega), Option.bind_some]
      exact iF (h1 b (by omega)) rfl
theorem op_on {h : zH} {N : Nat} (hN : 21000 ≤ N) (H : INX h) (x : Int32) : OPr (f_X11_on N 0 x) (f_X12_on N 27 x) h := by
  obtain ⟨KI, KR, KA, KP, I, A, c, q, H⟩ := H
  obtain ⟨hl, hC, hM, i1, i2, i3, i4, i5, i6, i7, i8, i9⟩ := id H
  obtain ⟨rq, aq, lq, nq, AR, s0, s1, s2, s3, s4, ⟨b1, b2, b3, n, f1, f2, f3, w0, w1, w2, w3, z1, z2, z3, z4, z5, z6⟩, s6⟩ := id i5
  have hq5 : zgR (cp h KI KR KA KP) 11 (some 0) 5 = some (some q) := (cg0_5 hl).trans (congrArg some i4)
  have z1' : zld (mp h I A) 0 (some 28) 6864 = some (nI n) := by rw [ml0L hl 6864 (by decide)]; exact congrArg some ((seg_lo _ (j := 6864) (by omega)).symm.trans z1)
  have cx : ∀ {r}, f_X2_seatedOn N nq x (cp h KI KR KA KP) = some r → f_X11_on N 0 x (cp h KI KR KA KP) = some r := fun hr => bS hq5 (bS (fgR s0.c rfl) (bS (fk w0.c) (bS hr rfl)))
  by_cases h1 : x < 0
  · exact OPr.of H (r := -1) (cx (iT h1 rfl)) (iT h1 rfl)
  have e2 : (2 : Int32) * nI n = nI (n * 2) := by rw [lm_l]; exact congrArg nI (Nat.mul_comm 2 n)
  by_cases h2 : nI (n * 2) ≤ x
  · exact OPr.of H (r := -1) (cx (iF h1 (bS (fgR w0.c rfl) (bS (flen w3.c (by omega)) (iT h2 rfl))))) (iF h1 (bS (mg0 hl) (bS z1' (iF (by rw [e2]; exact Int32.not_lt.mpr h2) rfl))))
  rcases pk_ix x (n := n * 2) (by omega) with h3 | h3 | ⟨p, hp, rfl⟩
  · exact absurd h3 h1
  · exact absurd h3 h2
  refine OPr.of H (r := f3 p) (cx (iF h1 (bS (fgR w0.c rfl) (bS (flen w3.c (by omega)) (iF h2 (bS (fgR w0.c rfl) (bS (fld_ w3.c hp (by omega)) rfl))))))) (iF h1 (bS (mg0 hl) (bS z1' (iT (by rw [e2]; exact Int32.not_le.mp h2) ?_))))
  rcases z4 p hp with v | ⟨a, v1, v2, v3⟩
  · rw [v, show (-1 : Int32) = (if 16 < 16 then nI 16 else -1) from rfl]
    refine m_on_22 hl (Nat.le_refl _) (fun a ha z => ?_) (fun z => by omega) 16 0 N rfl (by omega) (by omega)
    have u := (z6 a ha p hp).mpr (by rw [seg_lo _ (by omega)]; exact z)
    rw [v] at u
    exact nI_nm (by omega) u.symm
  · rw [v2, show nI a = (if a < 16 then nI a else -1) from (if_pos v1).symm]
    refine m_on_22 hl (by omega) (fun a' ha z => ?_) (fun _ => ⟨by rw [← seg_lo (A 0) (j := 125 + a) (by omega)]; exact v3, by rw [← seg_lo (A 0) (j := 6881 + a) (by omega)]; exact (z6 a v1 p hp).mp v2⟩) a 0 N (by omega) (by omega) (by omega)
    have u := (z6 a' (by omega) p hp).mpr (by rw [seg_lo _ (by omega)]; exact z)
    have u2 := (nI_eq (by omega) (by omega)).mp (v2.symm.trans u)
    omega
/-- a State with another line -/
theorem SR.putL {h : zH} {ns : List zE} {KI : Nat → Int32} {KR : Nat → Option Nat} {KA : Nat → Nat → Int32} {KP : Nat → Option Nat} {rq : Option Nat} {lq nq : Nat} {AR : Nat → Option Nat} {F F' : Nat → Int32} (hl : 46 ≤ h.length) (s2 : rR h rq F) (s3 : ∀ b, b < 16 → arR h (AR b) F b) (s4 : lwR h lq F) (s6 : ∃ t, F 6897 = nI t ∧ t ≤ 36500)
    (h0 : ns[0]? = some (.inr (9, [zr rq, zr (some (h.length + 1)), zr (some lq), zr (some nq), zi (F 6897)]))) (h1 : ns[1]? = some (.inl (4, 16, .inr AR))) (hF : ∀ j, ¬ (6864 ≤ j ∧ j < 6897) → F' j = F j) (hL : lnR (cp (h ++ ns) KI KR KA KP) nq F') : SR (cp (h ++ ns) KI KR KA KP) (h.length + 0) F' := by
  have kk := kept.cp (h := h) (ns := ns) (KI := KI) (KR := KR) (KA := KA) (KP := KP)
  have e0 : F' 6897 = F 6897 := hF _ (by omega)
  exact ⟨rq, h.length + 1, lq, nq, AR, ⟨fz_new hl 0, by rw [e0]; exact (n_get hl).trans h0⟩, ⟨fz_new hl 1, (n_get hl).trans h1⟩, (s2.mono kk).cg (fun j hj => hF j (by omega)), fun b hb => ((s3 b hb).mono kk).cg (fun j hj => hF j (by unfold regA at hj; omega)), (s4.mono kk).cg (fun j h5 h6 => hF j (by omega)), hL, by rw [e0]; exact s6⟩
theorem g_any {H : zH} {nq b1 b2 n N j t v : Nat} {x3 : zV} {f1 f2 : Nat → Int32} (w0 : H[nq]? = some (.inr (2, [zr (some b1), zr (some b2), x3]))) (w1 : H[b1]? = some (.inl (0, n, .inl f1))) (w2 : H[b2]? = some (.inl (0, n, .inl f2))) (hn : n ≤ 8) (hj : j < n) (ht : t ≤ n) (h1 : ∀ k, k < t → ¬ (f1 k = f1 j ∧ f2 k = nI v)) (h2 : t < n → f1 t = f1 j ∧ f2 t = nI v) : ∀ (m b fuel : Nat), t - b = m → b ≤ t → m < fuel →
    f_X2_isAnyOfBay_17 N fuel nq (nI j) (nI v) (nI b) H = some (if t < n then 1 else 0) := by
  intro m
  induction m with
  | zero =>
    intro b fuel q1 q2 q3
    obtain ⟨fuel, rfl⟩ : ∃ n', fuel = n' + 1 := ⟨fuel - 1, by omega⟩
    have hb : b = t := by omega
    subst hb
    rw [f_X2_isAnyOfBay_17]
    refine bS (fgR w0 rfl) (bS (flen w1 (by omega)) ?_)
    by_cases hb : b < n
    · obtain ⟨e1, e2⟩ := h2 hb
      rw [if_pos hb]
      exact iF (nI_ge hb (by omega)) (bS (fgR w0 rfl) (bS (fld_ w1 hb (by omega)) (bS (fgR w0 rfl) (bS (fld_ w1 hj (by omega)) (iT e1 (bS (fgR w0 rfl) (bS (fld_ w2 hb (by omega)) (iT e2 rfl))))))))
    · rw [if_neg hb]
      exact iT (nI_le (by omega) (by omega)) rfl
  | succ m ih =>
    intro b fuel q1 q2 q3
    obtain ⟨fuel, rfl⟩ : ∃ n', fuel = n' + 1 := ⟨fuel - 1, by omega⟩
    rw [f_X2_isAnyOfBay_17, ← ih (b + 1) fuel (by omega) (by omega) (by omega), nI_1]
    refine bS (fgR w0 rfl) (bS (flen w1 (by omega)) (iF (nI_ge (by omega) (by omega)) (bS (fgR w0 rfl) (bS (fld_ w1 (by omega) (by omega)) (bS (fgR w0 rfl) (bS (fld_ w1 hj (by omega)) ?_))))))
    by_cases e1 : f1 b = f1 j
    · exact iT e1 (bS (fgR w0 rfl) (bS (fld_ w2 (by omega) (by omega)) (iF (fun e2 => h1 b (by omega) ⟨e1, e2⟩) rfl)))
    · exact iF e1 rfl
section mlane
variable {h : zH} {I : Nat → Int32} {A : Nat → Nat → Int32} {N n j s t c : Nat} {was : Int32}
/-- what lane() does when it may -/
theorem m_lane_end (hl : 46 ≤ h.length) (hN : 21000 ≤ N) (hc : c ≤ 4) (hI : I 1 = nI c) (hj : j < 8) : ((zck (mp h I A) 12 (some 27)).bind fun q1 => (f_X12_keeps N q1 (mp h I A)).bind fun h1 => (zgR h1 12 (some 27) 0).bind fun x3 => (zst h1 0 x3 ((6873 : Int32) + nI j) (nI s)).bind fun h2 => some (was, h2)) = some (was, mp h (upd I 1 (nI (kpC c))) (va_up A 0 (upd (kpD (A 0) c) (6873 + j) (nI s)))) := by
  rw [mck hl, Option.bind_some, m_keeps hl hN hc hI, Option.bind_some]
  simp (disch := omega) only [mg0 hl, ms0 hl, la_l, Option.bind_some, bx_uu, vu_at]
theorem m_lane_55 (hl : 46 ≤ h.length) (hN : 21000 ≤ N) (hc : c ≤ 4) (hI : I 1 = nI c) (hn : A 0 6864 = nI n) (hn8 : n ≤ 8) (hj : j < n) (hs : s ≤ 2) (ht : t ≤ n) (h1 : ∀ k, k < t → ¬ (0 < s ∧ A 0 (6865 + k) = A 0 (6865 + j) ∧ A 0 (6873 + k) = nI (3 - s))) (h2 : t < n → 0 < s ∧ A 0 (6865 + t) = A 0 (6865 + j) ∧ A 0 (6873 + t) = nI (3 - s)) : ∀ (m b fuel : Nat), t - b = m → b ≤ t → m < fuel →
    f_X12_lane_55 N fuel 27 (nI j) (nI s) was (nI b) (mp h I A) = if t < n then some (-1, mp h I A) else some (was, mp h (upd I 1 (nI (kpC c))) (va_up A 0 (upd (kpD (A 0) c) (6873 + j) (nI s)))) := by
  have z1' : zld (mp h I A) 0 (some 28) 6864 = some (nI n) := by rw [ml0L hl 6864 (by decide)]; exact congrArg some hn
  have lb : ∀ k, k < 8 → zld (mp h I A) 0 (some 28) ((6865 : Int32) + nI k) = some (A 0 (6865 + k)) := fun k hk => by rw [la_l, ml0 hl (by omega)]
  have ls : ∀ k, k < 8 → zld (mp h I A) 0 (some 28) ((6873 : Int32) + nI k) = some (A 0 (6873 + k)) := fun k hk => by rw [la_l, ml0 hl (by omega)]
  have e3 : (3 : Int32) - nI s = nI (3 - s) := pk_sub (a := 3) (by omega)
  intro m
  induction m with
  | zero =>
    intro b fuel q1 q2 q3
    obtain ⟨fuel, rfl⟩ : ∃ n', fuel = n' + 1 := ⟨fuel - 1, by omega⟩
    have hb : b = t := by omega
    subst hb
    rw [f_X12_lane_55]
    refine bS (mg0 hl) (bS z1' ?_)
    by_cases hb : b < n
    · obtain ⟨e0, e1, e2⟩ := h2 hb
      rw [if_pos hb]
      exact iF (nI_ge hb (by omega)) (iF (Int32.not_le.mpr (nI_lt (a := 0) e0 (by omega))) (bS (mg0 hl) (bS (lb b (by omega)) (bS (mg0 hl) (bS (lb j (by omega)) (iT e1 (bS (mg0 hl) (bS (ls b (by omega)) (iT (by rw [e2, e3]) rfl)))))))))
    · rw [if_neg hb]
      exact iT (nI_le (by omega) (by omega)) (m_lane_end hl hN hc hI (by omega))
  | succ m ih =>
    intro b fuel q1 q2 q3
    obtain ⟨fuel, rfl⟩ : ∃ n', fuel = n' + 1 := ⟨fuel - 1, by omega⟩
    rw [f_X12_lane_55, ← ih (b + 1) fuel (by omega) (by omega) (by omega), nI_1]
    refine bS (mg0 hl) (bS z1' (iF (nI_ge (by omega) (by omega)) ?_))
    by_cases e0 : 0 < s
    · refine iF (Int32.not_le.mpr (nI_lt (a := 0) e0 (by omega))) (bS (mg0 hl) (bS (lb b (by omega)) (bS (mg0 hl) (bS (lb j (by omega)) ?_))))
      by_cases e1 : A 0 (6865 + b) = A 0 (6865 + j)
      · exact iT e1 (bS (mg0 hl) (bS (ls b (by omega)) (iF (fun z => h1 b (by omega) ⟨e0, e1, by rw [z, e3]⟩) rfl)))
      · exact iF e1 rfl
    · exact iT (by rw [show s = 0 by omega]; decide) rfl
end mlane
