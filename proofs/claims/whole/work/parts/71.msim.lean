/-! ===== layout: the model's search is the search ===== -/
theorem nd_iff {a b : Nat} (ha : a < 2 ^ 30) (hb : b < 2 ^ 30) : (nI a - nI b = 0 ↔ a = b) ∧ (nI a - nI b = 1 ↔ a = b + 1) ∧ (nI a - nI b = -1 ↔ a + 1 = b) := by
  have h := pk_sub_toInt ha hb
  have e0 : (0 : Int32).toInt = 0 := by decide
  have e1 : (1 : Int32).toInt = 1 := by decide
  have e2 : (-1 : Int32).toInt = -1 := by decide
  refine ⟨?_, ?_, ?_⟩
  · rw [← Int32.toInt_inj, h, e0]; omega
  · rw [← Int32.toInt_inj, h, e1]; omega
  · rw [← Int32.toInt_inj, h, e2]; omega
section msim
variable {h : zH} {I : Nat → Int32} {M : Nat → Nat → Int32} {N P A ln i p : Nat} {cb wh : Nat → Int32} {W nm : Nat → Nat}
theorem m_free (hl : 46 ≤ h.length) (hi : i < 16) (hN : 20 ≤ N) (h1 : ∀ k, k < i → wh k = nI (W k)) (h2 : wh i = nI p) (hp : p < 16) (hW : ∀ k, k < i → W k < 16) : ∃ v, f_X12_isFree N 27 (nI i) (mp h I (va_up M 30 wh)) = some v ∧ (v = 0 ↔ ¬ fre i p W) := by
  have lw : ∀ k, k < 16 → zld (mp h I (va_up M 30 wh)) 0 (some 45) (nI k) = some (wh k) := fun k hk => (ml30 hl hk).trans (by rw [vu_at])
  obtain ⟨t, t1, t2, t3⟩ := exFst (fun k => W k = p) i
  have go : ∀ (m b fuel : Nat), t - b = m → b ≤ t → m < fuel → f_X12_isFree_2 N fuel 27 (nI i) (nI b) (mp h I (va_up M 30 wh)) = some (if t < i then 0 else 1) := by
    intro m
    induction m with
    | zero =>
      intro b fuel q1 q2 q3
      obtain ⟨fuel, rfl⟩ : ∃ n', fuel = n' + 1 := ⟨fuel - 1, by omega⟩
      have hb : b = t := by omega
      subst hb
      rw [f_X12_isFree_2]
      by_cases hb : b < i
      · rw [if_pos hb]
        exact iF (nI_ge hb (by omega)) (bS (mg30 hl) (bS (lw b (by omega)) (bS (mg30 hl) (bS (lw i hi) (iT (by rw [h1 b hb, h2, t3 hb]) rfl)))))
      · rw [if_neg hb]
        exact iT (nI_le (by omega) (by omega)) rfl
    | succ m ih =>
      intro b fuel q1 q2 q3
      obtain ⟨fuel, rfl⟩ : ∃ n', fuel = n' + 1 := ⟨fuel - 1, by omega⟩
      rw [f_X12_isFree_2, ← ih (b + 1) fuel (by omega) (by omega) (by omega), nI_1]
      exact iF (nI_ge (by omega) (by omega)) (bS (mg30 hl) (bS (lw b (by omega)) (bS (mg30 hl) (bS (lw i hi) (iF (by rw [h1 b (by omega), h2]; exact fun z => t2 b (by omega) ((nI_eq (by have := hW b (by omega); omega) (by omega)).mp z)) rfl)))))
  refine ⟨_, go t 0 N (by omega) (by omega) (by omega), ?_⟩
  by_cases ht : t < i
  · rw [if_pos ht]
    exact ⟨fun _ z => z t ht (t3 ht), fun _ => rfl⟩
  · rw [if_neg ht]
    exact ⟨fun z => absurd z (by decide), fun z => absurd (fun k hk => t2 k (by omega)) z⟩
theorem m_parted (hl : 46 ≤ h.length) (hi : i < 16) (hN : 20 ≤ N) (h1 : ∀ k, k < i → wh k = nI (W k)) (h2 : wh i = nI p) (hp : p < 16) (hW : ∀ k, k < i → W k < 16) (hm : ∀ k, k ≤ i → M 29 k = nI (nm k) ∧ nm k < 16 ∧ M 0 (125 + nm k) = cb k) : ∃ v, f_X12_isParted N 27 (nI i) (mp h I (va_up M 30 wh)) = some v ∧ (v = 0 ↔ ¬ prt cb i p W) := by
  have lw : ∀ k, k < 16 → zld (mp h I (va_up M 30 wh)) 0 (some 45) (nI k) = some (wh k) := fun k hk => (ml30 hl hk).trans (by rw [vu_at])
  have l29 : ∀ k, k ≤ i → zld (mp h I (va_up M 30 wh)) 0 (some 44) (nI k) = some (nI (nm k)) := fun k hk => (ml29 hl (by omega)).trans (by rw [vu_ne _ _ (by decide), (hm k hk).1])
  have lc : ∀ k, k ≤ i → zld (mp h I (va_up M 30 wh)) 0 (some 28) ((125 : Int32) + nI (nm k)) = some (cb k) := fun k hk => by
    have := (hm k hk).2.1
    rw [la_l, ml0 hl (by omega), vu_ne _ _ (by decide), (hm k hk).2.2]
  obtain ⟨t, t1, t2, t3⟩ := exFst (fun k => cb k = cb i ∧ adj (W k) p) i
  have hd : ∀ b, b < i → (nI (W b) / (2 : Int32) = nI (W b / 2)) ∧ nI (W b) - nI (W b) / (2 : Int32) * (2 : Int32) = nI (W b % 2) := fun b hb => by
    have := hW b hb
    exact ⟨pk_div (d := 2) (by omega) (by omega) (by omega), pk_rem (d := 2) (by omega) (by omega) (by omega)⟩
  have hdp : nI p / (2 : Int32) = nI (p / 2) ∧ nI p - nI p / (2 : Int32) * (2 : Int32) = nI (p % 2) := ⟨pk_div (d := 2) (by omega) (by omega) (by omega), pk_rem (d := 2) (by omega) (by omega) (by omega)⟩
  have step : ∀ b fuel, b < i → f_X12_isParted_2 N (fuel + 1) 27 (nI i) (nI b) (mp h I (va_up M 30 wh)) = if cb b = cb i then (if nI (W b / 2) - nI (p / 2) = 0 then some 0 else if nI (W b / 2) - nI (p / 2) = 1 ∨ nI (W b / 2) - nI (p / 2) = -1 then (if W b % 2 = p % 2 then some 0 else f_X12_isParted_2 N fuel 27 (nI i) (nI (b + 1)) (mp h I (va_up M 30 wh))) else f_X12_isParted_2 N fuel 27 (nI i) (nI (b + 1)) (mp h I (va_up M 30 wh))) else f_X12_isParted_2 N fuel 27 (nI i) (nI (b + 1)) (mp h I (va_up M 30 wh)) := by
    intro b fuel hb
    rw [f_X12_isParted_2, nI_1]
    refine iF (nI_ge hb (by omega)) (bS (mg0 hl) (bS (mg29 hl) (bS (l29 b (by omega)) (bS (lc b (by omega)) (bS (mg0 hl) (bS (mg29 hl) (bS (l29 i (by omega)) (bS (lc i (by omega)) ?_))))))))
    have k73 : f_X12_isParted_73 N (fun l0 l1 l2 h => f_X12_isParted_2 N fuel l0 l1 l2 h) 27 (nI i) (nI b) (mp h I (va_up M 30 wh)) = if W b % 2 = p % 2 then some 0 else f_X12_isParted_2 N fuel 27 (nI i) (nI (b + 1)) (mp h I (va_up M 30 wh)) := by
      refine bS (mg30 hl) (bS (lw b (by omega)) (bS (mg30 hl) (bS (lw i hi) ?_)))
      rw [h1 b hb, h2, (hd b hb).2, hdp.2, nI_1]
      by_cases c : W b % 2 = p % 2
      · rw [if_pos c]
        exact iT (by rw [c]) rfl
      · rw [if_neg c]
        exact iF (fun z => c ((nI_eq (by omega) (by omega)).mp z)) rfl
    by_cases c1 : cb b = cb i
    · rw [if_pos c1, if_pos c1]
      refine bS (mg30 hl) (bS (lw b (by omega)) (bS (mg30 hl) (bS (lw i hi) ?_)))
      rw [h1 b hb, h2, (hd b hb).1, hdp.1]
      by_cases c2 : nI (W b / 2) - nI (p / 2) = 0
      · rw [if_pos c2, if_pos c2]
      rw [if_neg c2, if_neg c2]
      by_cases c3 : nI (W b / 2) - nI (p / 2) = 1
      · rw [if_pos c3, if_pos (Or.inl c3), k73]
      rw [if_neg c3]
      by_cases c4 : nI (W b / 2) - nI (p / 2) = -1
      · rw [if_pos c4, if_pos (Or.inr c4), k73]
      · rw [if_neg c4, if_neg (fun z => z.elim c3 c4)]
    · rw [if_neg c1, if_neg c1]
  have go : ∀ (m b fuel : Nat), t - b = m → b ≤ t → m < fuel → f_X12_isParted_2 N fuel 27 (nI i) (nI b) (mp h I (va_up M 30 wh)) = some (if t < i then 0 else 1) := by
    intro m
    induction m with
    | zero =>
      intro b fuel q1 q2 q3
      obtain ⟨fuel, rfl⟩ : ∃ n', fuel = n' + 1 := ⟨fuel - 1, by omega⟩
      have hb : b = t := by omega
      subst hb
      by_cases hb : b < i
      · obtain ⟨c1, c2⟩ := t3 hb
        have hw := hW b hb
        obtain ⟨d1, d2, d3⟩ := nd_iff (a := W b / 2) (b := p / 2) (by omega) (by omega)
        rw [if_pos hb, step b fuel hb, if_pos c1]
        rcases c2 with c2 | ⟨c2, c3⟩
        · rw [if_pos (d1.mpr c2)]
        · rw [if_neg (fun z => by have := d1.mp z; omega), if_pos (c2.imp d2.mpr d3.mpr), if_pos c3]
      · rw [if_neg hb, f_X12_isParted_2]
        exact iT (nI_le (by omega) (by omega)) rfl
    | succ m ih =>
      intro b fuel q1 q2 q3
      obtain ⟨fuel, rfl⟩ : ∃ n', fuel = n' + 1 := ⟨fuel - 1, by omega⟩
      have hb : b < i := by omega
      have hw := hW b hb
      have nt := t2 b (by omega)
      obtain ⟨d1, d2, d3⟩ := nd_iff (a := W b / 2) (b := p / 2) (by omega) (by omega)
      rw [step b fuel hb, ih (b + 1) fuel (by omega) (by omega) (by omega)]
      by_cases c1 : cb b = cb i
      · rw [if_pos c1, if_neg (fun z => nt ⟨c1, Or.inl (d1.mp z)⟩)]
        by_cases c2 : nI (W b / 2) - nI (p / 2) = 1 ∨ nI (W b / 2) - nI (p / 2) = -1
        · rw [if_pos c2, if_neg (fun z => nt ⟨c1, Or.inr ⟨c2.imp d2.mp d3.mp, z⟩⟩)]
        · rw [if_neg c2]
      · rw [if_neg c1]
  refine ⟨_, go t 0 N (by omega) (by omega) (by omega), ?_⟩
  by_cases ht : t < i
  · rw [if_pos ht]
    exact ⟨fun _ z => z t ht (t3 ht).1 (t3 ht).2, fun _ => rfl⟩
  · rw [if_neg ht]
    exact ⟨fun z => absurd z (by decide), fun z => absurd (fun k hk c1 c2 => t2 k (by omega) ⟨c1, c2⟩) z⟩
end msim
section msim2
variable {I : Nat → Int32} {M : Nat → Nat → Int32} {N P A ln : Nat} {cb : Nat → Int32} {nm : Nat → Nat}
theorem m_sim (hP : P ≤ 16) (hln : M 0 6864 = nI ln) (hPl : P = 2 * ln) (hA : A ≤ 16) (hI : I 28 = nI A) (hm : ∀ k, k < A → M 29 k = nI (nm k) ∧ nm k < 16 ∧ M 0 (125 + nm k) = cb k) (hN : 20 ≤ N) :
    ∀ (n i p : Nat) (W : Nat → Nat) (t : Nat) (r : Int32) (V : Nat → Nat), SQ P A cb n i p W t r V → sI P A i p W t → ∀ (wh : Nat → Int32) (f : Nat), n + 1 < f → (∀ k, k < i → wh k = nI (W k)) → (i < 16 → wh i = nI p - 1) → (∀ k, i < k → k < 16 → wh k = -1) →
    ∃ wh', (r = nI A → ∀ k, k < A → wh' k = nI (V k)) ∧ ∀ h1 : zH, 46 ≤ h1.length → f_X12_layout_88 N f 27 (nI i) (nI t) (mp h1 I (va_up M 30 wh)) = if r = nI A then f_X12_layout_180 N 27 (nI A) (mp h1 I (va_up M 30 wh')) else some (r, mp h1 I (va_up M 30 wh')) := by
  intro n
  induction n with
  | zero => intro i p W t r V e; exact absurd e (by unfold SQ; exact fun z => z)
  | succ n ih =>
    intro i p W t r V e w wh f hf h1 h2 h3
    obtain ⟨w1, w2, w3, w4, w5⟩ := id w
    obtain ⟨f, rfl⟩ : ∃ m, f = m + 1 := ⟨f - 1, by omega⟩
    have m2A : ¬ (-2 : Int32) = nI A := by
      intro z
      have z2 := congrArg Int32.toInt z
      rw [nI_toInt (by omega)] at z2
      have z3 : (-2 : Int32).toInt = -2 := by decide
      omega
    have hd : i < A → ∀ {h1 : zH} {X}, 46 ≤ h1.length → (if nI p = nI P then f_X12_layout_88 N f 27 (nI i + -1) (nI t) (mp h1 I (va_up M 30 (upd wh i (-1)))) else (f_X12_isFree N 27 (nI i) (mp h1 I (va_up M 30 (upd wh i (nI p))))).bind fun x8 => if x8 = 0 then f_X12_layout_88 N f 27 (nI i) (nI t) (mp h1 I (va_up M 30 (upd wh i (nI p)))) else if (nI t + (1 : Int32)) ≤ (20000 : Int32) then (f_X12_isParted N 27 (nI i) (mp h1 I (va_up M 30 (upd wh i (nI p))))).bind fun x9 => if x9 = 0 then f_X12_layout_88 N f 27 (nI i) (nI t + (1 : Int32)) (mp h1 I (va_up M 30 (upd wh i (nI p)))) else f_X12_layout_88 N f 27 (nI i + (1 : Int32)) (nI t + (1 : Int32)) (mp h1 I (va_up M 30 (upd wh i (nI p)))) else some (((-2) : Int32), (mp h1 I (va_up M 30 (upd wh i (nI p)))))) = X → f_X12_layout_88 N (f + 1) 27 (nI i) (nI t) (mp h1 I (va_up M 30 wh)) = X := by
      intro hi h1 X hl1 hX
      rw [f_X12_layout_88]
      have ep : wh i + 1 = nI p := by rw [h2 (by omega), Int32.sub_add_cancel]
      have e2 : (2 : Int32) * M 0 6864 = nI P := by rw [hln, lm_l, hPl]
      refine iF (nI_pos (by omega)) (bS ((mg28 hl1).trans (congrArg some hI)) (iF (nI_ge hi (by omega)) (bS (mg30 hl1) (bS (a := wh i) ((ml30 hl1 (by omega)).trans (by rw [vu_at])) (bS (a := mp h1 I (va_up M 30 (upd wh i (nI p)))) ?_ (bS (mg30 hl1) (bS (a := nI p) ((ml30 hl1 (by omega)).trans (by rw [vu_at, up_at])) (bS (mg0 hl1) (bS (a := M 0 6864) ((ml0L hl1 6864 (by decide)).trans (by rw [vu_ne _ _ (by decide)])) ?_)))))))))
      · rw [ms30 hl1 (by omega), bx_uu, vu_at, ep]
      · rw [e2, ← hX]
        by_cases c : nI p = nI P
        · rw [if_pos c, if_pos c]
          refine bS (mg30 hl1) (bS (a := mp h1 I (va_up M 30 (upd wh i (-1)))) ?_ rfl)
          rw [ms30 hl1 (by omega), bx_uu, vu_at, upd2]
        · rw [if_neg c, if_neg c]
          refine bS (mck hl1) ?_
          refine congrArg (Option.bind _) (funext fun x8 => ?_)
          by_cases c8 : x8 = 0
          · rw [if_pos c8, if_pos c8]
          · rw [if_neg c8, if_neg c8]
            by_cases ct : (nI t + (1 : Int32)) ≤ (20000 : Int32)
            · rw [if_pos ct, if_pos ct]
              exact bS (mck hl1) rfl
            · rw [if_neg ct, if_neg ct]
    have wh1 : ∀ k, k < i → upd wh i (nI p) k = nI (W k) := fun k hk => by rw [up_ne _ _ (by omega)]; exact h1 k hk
    unfold SQ at e
    rcases e with ⟨e1, e2, e3⟩ | ⟨e1, e2, e3, e4⟩ | ⟨i', rfl, e1, e2, e3⟩ | ⟨e1, e2, e3, e4⟩ | ⟨e1, e2, e3, e4, e5⟩ | ⟨e1, e2, e3, e4, e5, e6⟩ | ⟨e1, e2, e3, e4, e5, e6⟩
    · have hi : i = A := by omega
      subst hi
      refine ⟨wh, fun _ k hk => by rw [e3]; exact h1 k hk, fun h1' hl1 => ?_⟩
      rw [if_pos e2, f_X12_layout_88]
      exact iF (nI_pos (by omega)) (bS ((mg28 hl1).trans (congrArg some hI)) (iT (Int32.le_refl _) rfl))
    · have hp : p = P := by omega
      subst e3
      refine ⟨upd wh 0 (-1), fun z => ?_, fun h1' hl1 => ?_⟩
      · rw [e4] at z
        exact absurd z.symm (nI_nm (by omega))
      · refine hd e1 hl1 (iT (by rw [hp]) ?_)
        rw [if_neg (by rw [e4]; exact fun z => nI_nm (by omega) z.symm), e4]
        obtain ⟨f, rfl⟩ : ∃ m, f = m + 1 := ⟨f - 1, by omega⟩
        rw [f_X12_layout_88]
        refine iT (by decide) (iF (by decide) rfl)
    · have hp : p = P := by omega
      obtain ⟨wh', x1, x2⟩ := ih i' (W i' + 1) W t r V e3 w.pop (upd wh (i' + 1) (-1)) f (by omega) (fun k hk => by rw [up_ne _ _ (by omega)]; exact h1 k (by omega)) (fun _ => by rw [up_ne _ _ (by omega), h1 i' (by omega), nI_pred]) (fun k hk hk2 => by
        by_cases c : k = i' + 1
        · rw [c, up_at]
        · rw [up_ne _ _ c]; exact h3 k (by omega) hk2)
      refine ⟨wh', x1, fun h1' hl1 => hd e1 hl1 (iT (by rw [hp]) ?_)⟩
      rw [pk_m1]
      exact x2 h1' hl1
    · obtain ⟨wh', x1, x2⟩ := ih i (p + 1) W t r V e4 (w.next e2 w5) (upd wh i (nI p)) f (by omega) wh1 (fun _ => by rw [up_at, nI_pred]) (fun k hk hk2 => by rw [up_ne _ _ (by omega)]; exact h3 k hk hk2)
      refine ⟨wh', x1, fun h1' hl1 => hd e1 hl1 (iF (fun z => by have := (nI_eq (by omega) (by omega)).mp z; omega) ?_)⟩
      obtain ⟨v, v1, v2⟩ := m_free (N := N) (I := I) (M := M) hl1 (by omega) hN wh1 (up_at _ _ _) (by omega) (fun k hk => by have := w3 k hk; omega)
      exact bS v1 (iT (v2.mpr e3) (x2 h1' hl1))
    · refine ⟨upd wh i (nI p), fun z => absurd (e5.symm.trans z) m2A, fun h1' hl1 => hd e1 hl1 (iF (fun z => by have := (nI_eq (by omega) (by omega)).mp z; omega) ?_)⟩
      obtain ⟨v, v1, v2⟩ := m_free (N := N) (I := I) (M := M) hl1 (by omega) hN wh1 (up_at _ _ _) (by omega) (fun k hk => by have := w3 k hk; omega)
      rw [e5]
      refine bS v1 (iF (fun z => v2.mp z e3) (iF ?_ (if_neg m2A).symm))
      rw [la_r]
      exact nI_ge (a := 20000) (by omega) (by omega)
    · obtain ⟨wh', x1, x2⟩ := ih (i + 1) 0 (va_up W i p) (t + 1) r V e6 (w.put e1 e2 e3 e4) (upd wh i (nI p)) f (by omega) (fun k hk => by
        by_cases c : k = i
        · subst c; rw [vu_at, up_at]
        · rw [vu_ne _ _ c]; exact wh1 k (by omega)) (fun h16 => by rw [up_ne _ _ (by omega), h3 (i + 1) (by omega) h16]; rfl) (fun k hk hk2 => by rw [up_ne _ _ (by omega)]; exact h3 k (by omega) hk2)
      refine ⟨wh', x1, fun h1' hl1 => hd e1 hl1 (iF (fun z => by have := (nI_eq (by omega) (by omega)).mp z; omega) ?_)⟩
      obtain ⟨v, v1, v2⟩ := m_free (N := N) (I := I) (M := M) hl1 (by omega) hN wh1 (up_at _ _ _) (by omega) (fun k hk => by have := w3 k hk; omega)
      obtain ⟨u, u1, u2⟩ := m_parted (N := N) (I := I) (M := M) (cb := cb) (nm := nm) hl1 (by omega) hN wh1 (up_at _ _ _) (by omega) (fun k hk => by have := w3 k hk; omega) (fun k hk => hm k (by omega))
      rw [la_r, la_r]
      exact bS v1 (iF (fun z => v2.mp z e3) (iT ((nI_leI (b := 20000) (by omega) (by omega)).mpr (by omega)) (bS u1 (iF (fun z => u2.mp z e5) (x2 h1' hl1)))))
    · obtain ⟨wh', x1, x2⟩ := ih i (p + 1) W (t + 1) r V e6 (w.next e2 (by omega)) (upd wh i (nI p)) f (by omega) wh1 (fun _ => by rw [up_at, nI_pred]) (fun k hk hk2 => by rw [up_ne _ _ (by omega)]; exact h3 k hk hk2)
      refine ⟨wh', x1, fun h1' hl1 => hd e1 hl1 (iF (fun z => by have := (nI_eq (by omega) (by omega)).mp z; omega) ?_)⟩
      obtain ⟨v, v1, v2⟩ := m_free (N := N) (I := I) (M := M) hl1 (by omega) hN wh1 (up_at _ _ _) (by omega) (fun k hk => by have := w3 k hk; omega)
      obtain ⟨u, u1, u2⟩ := m_parted (N := N) (I := I) (M := M) (cb := cb) (nm := nm) hl1 (by omega) hN wh1 (up_at _ _ _) (by omega) (fun k hk => by have := w3 k hk; omega) (fun k hk => hm k (by omega))
      rw [la_r, la_r]
      exact bS v1 (iF (fun z => v2.mp z e3) (iT ((nI_leI (b := 20000) (by omega) (by omega)).mpr (by omega)) (bS u1 (iT (u2.mpr e5) (x2 h1' hl1)))))
end msim2
