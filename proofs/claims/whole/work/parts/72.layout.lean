/-! ===== layout: begin and end ===== -/
def OPq (fx fm : zH → Option (Int32 × zH)) (h : zH) : Prop := ∃ r h1 h2, fx h = some (r, h1) ∧ fm h1 = some (r, h2) ∧ INX h2 ∧ h2.length ≤ h.length + 200 ∧ zsl h2 ≤ zsl h + 6000 ∧ zck h1 12 (some 27) = some 27
theorem OPo.q {fx fm : zH → Option (Int32 × zH)} {h : zH} (w : OPo fx fm h) : OPq fx fm h := by
  obtain ⟨r, h1, h2, a, b, c, d, e, f⟩ := w
  exact ⟨r, h1, h2, a, b, c, by omega, by omega, f⟩
theorem IN.grow {h : zH} {ns : List zE} {KI : Nat → Int32} {KR : Nat → Option Nat} {KA : Nat → Nat → Int32} {KP : Nat → Option Nat} {I : Nat → Int32} {A : Nat → Nat → Int32} {c q : Nat} (H : IN h KI KR KA KP I A c q) : IN (cp (h ++ ns) KI KR KA KP) KI KR KA KP I A c q := by
  obtain ⟨hl, hC, hM, i1, i2, i3, i4, i5, i6, i7, i8, i9⟩ := H
  refine ⟨by rw [n_len]; omega, CH.of (by rw [List.length_append]; omega), hM.cp, i1, i2, i3, i4, i5.mono kept.cp, fun i hi => ?_, i7, i8, i9⟩
  obtain ⟨p, e1, e2⟩ := i6 i hi
  exact ⟨p, e1, e2.mono kept.cp⟩
def whoF (f D : Nat → Int32) : Nat → Nat → Int32
  | 0 => f
  | b + 1 => if D (125 + b) = -1 then whoF f D b else upd (whoF f D b) (cA D b) (nI b)
def cbF (f D : Nat → Int32) : Nat → Nat → Int32
  | 0 => f
  | b + 1 => if D (125 + b) = -1 then cbF f D b else upd (cbF f D b) (cA D b) (D (125 + b))
theorem whoF_nu (f D : Nat → Int32) : ∀ b k, k < cA D b → whoF f D b k = nI (nuA D b k)
  | 0, k, h => by rw [cA] at h; omega
  | b + 1, k, h => by
    rw [cA] at h
    rw [whoF, nuA]
    by_cases hd : D (125 + b) = -1
    · rw [if_pos hd] at h ⊢
      rw [if_pos hd]
      exact whoF_nu f D b k h
    · rw [if_neg hd] at h ⊢
      rw [if_neg hd]
      by_cases hk : k = cA D b
      · subst hk; rw [up_at, vu_at]
      · rw [up_ne _ _ hk, vu_ne _ _ hk]
        exact whoF_nu f D b k (by omega)
theorem cbF_nu (f D : Nat → Int32) : ∀ b k, k < cA D b → cbF f D b k = D (125 + nuA D b k)
  | 0, k, h => by rw [cA] at h; omega
  | b + 1, k, h => by
    rw [cA] at h
    rw [cbF, nuA]
    by_cases hd : D (125 + b) = -1
    · rw [if_pos hd] at h ⊢
      rw [if_pos hd]
      exact cbF_nu f D b k h
    · rw [if_neg hd] at h ⊢
      rw [if_neg hd]
      by_cases hk : k = cA D b
      · subst hk; rw [up_at, vu_at]
      · rw [up_ne _ _ hk, vu_ne _ _ hk]
        exact cbF_nu f D b k (by omega)
theorem SQ_fin {P A : Nat} {cb : Nat → Int32} (hA : A ≤ 16) : ∀ (n i p : Nat) (W : Nat → Nat) (t : Nat) (r : Int32) (V : Nat → Nat), SQ P A cb n i p W t r V → sI P A i p W t → r = -1 ∨ r = -2 ∨ (r = nI A ∧ (∀ k, k < A → V k < P) ∧ ∀ k k', k < k' → k' < A → V k ≠ V k') := by
  intro n
  induction n with
  | zero => intro i p W t r V e; exact absurd e (by unfold SQ; exact fun z => z)
  | succ n ih =>
    intro i p W t r V e w
    obtain ⟨w1, w2, w3, w4, w5⟩ := id w
    unfold SQ at e
    rcases e with ⟨e1, e2, e3⟩ | ⟨e1, e2, e3, e4⟩ | ⟨i', rfl, e1, e2, e3⟩ | ⟨e1, e2, e3, e4⟩ | ⟨e1, e2, e3, e4, e5⟩ | ⟨e1, e2, e3, e4, e5, e6⟩ | ⟨e1, e2, e3, e4, e5, e6⟩
    · have hi : i = A := by omega
      subst hi
      subst e3
      exact Or.inr (Or.inr ⟨e2, w3, w4⟩)
    · exact Or.inl e4
    · exact ih _ _ _ _ _ _ e3 w.pop
    · exact ih _ _ _ _ _ _ e4 (w.next e2 w5)
    · exact Or.inr (Or.inl e5)
    · exact ih _ _ _ _ _ _ e6 (w.put e1 e2 e3 e4)
    · exact ih _ _ _ _ _ _ e6 (w.next e2 (by omega))
/-- the places written -/
def plF (D : Nat → Int32) (nm V : Nat → Nat) : Nat → Nat → Int32
  | 0 => D
  | b + 1 => upd (plF D nm V b) (6881 + nm b) (nI (V b))
theorem plF_out (D : Nat → Int32) (nm V : Nat → Nat) : ∀ b {p : Nat}, (∀ k, k < b → p ≠ 6881 + nm k) → plF D nm V b p = D p
  | 0, _, _ => rfl
  | b + 1, p, h => by rw [plF, up_ne _ _ (h b (by omega)), plF_out D nm V b (fun k hk => h k (by omega))]
theorem plF_in (D : Nat → Int32) (nm V : Nat → Nat) : ∀ b, (∀ k k', k < k' → k' < b → nm k ≠ nm k') → ∀ k, k < b → plF D nm V b (6881 + nm k) = nI (V k)
  | 0, _, k, hk => by omega
  | b + 1, h, k, hk => by
    rw [plF]
    by_cases hkb : k = b
    · subst hkb; rw [up_at]
    · have := h k b (by omega) (by omega)
      rw [up_ne _ _ (by omega)]
      exact plF_in D nm V b (fun k k' h1 h2 => h k k' h1 (by omega)) k (by omega)
theorem plF_seg0 (D : Nat → Int32) (nm V : Nat → Nat) : ∀ b, (∀ k, k < b → nm k < 16) → seg (plF D nm V b) 0 = plF (seg D 0) nm V b
  | 0, _ => rfl
  | b + 1, h => by
    have := h b (by omega)
    rw [plF, plF, seg_up0 _ (by omega), plF_seg0 D nm V b (fun k hk => h k (by omega))]
theorem plF_segi (D : Nat → Int32) (nm V : Nat → Nat) {i : Nat} (hi : 1 ≤ i) : ∀ b, (∀ k, k < b → nm k < 16) → seg (plF D nm V b) i = seg D i
  | 0, _ => rfl
  | b + 1, h => by
    have := h b (by omega)
    rw [plF, seg_upi _ (by omega) hi, plF_segi D nm V hi b (fun k hk => h k (by omega))]
section mlay
variable {h : zH} {I : Nat → Int32} {M : Nat → Nat → Int32} {N A c : Nat} {nm V : Nat → Nat} {f : Nat → Int32}
theorem m_l20 (hl : 46 ≤ h.length) (hN : 100 ≤ N) : ∀ (j b fuel : Nat), b + j = 16 → j < fuel → f_X12_layout_20 N fuel 27 (nI b) (mp h (upd I 28 (nI (cA (M 0) b))) (va_up M 29 (whoF (M 29) (M 0) b))) = f_X12_layout_69 N N 27 0 0 0 (mp h (upd I 28 (nI (cA (M 0) 16))) (va_up M 29 (whoF (M 29) (M 0) 16))) := by
  intro j
  induction j with
  | zero =>
    intro b fuel h1 h2
    obtain ⟨fuel, rfl⟩ : ∃ x, fuel = x + 1 := ⟨fuel - 1, by omega⟩
    rw [f_X12_layout_20, show b = 16 by omega]
    exact iT (by decide) rfl
  | succ j ih =>
    intro b fuel h1 h2
    obtain ⟨fuel, rfl⟩ : ∃ x, fuel = x + 1 := ⟨fuel - 1, by omega⟩
    have nx := ih (b + 1) fuel (by omega) (by omega)
    rw [cA, whoF] at nx
    have cb := cA_le (M 0) b
    have ia := m_isAr (N := N) (I := upd I 28 (nI (cA (M 0) b))) (A := va_up M 29 (whoF (M 29) (M 0) b)) (b := b) hl (by omega)
    rw [vu_ne _ _ (show 0 ≠ 29 by decide)] at ia
    rw [f_X12_layout_20]
    refine iF (nI_ge (b := 16) (by omega) (by omega)) (bS (mck hl) (bS ia ?_))
    by_cases hd : M 0 (125 + b) = -1
    · rw [if_pos hd] at nx ⊢
      rw [if_pos hd] at nx
      refine iT rfl ?_
      rw [la_r]
      exact nx
    · rw [if_neg hd] at nx ⊢
      rw [if_neg hd] at nx
      refine iF (by decide) (bS (mg29 hl) (bS ((mg28 hl).trans (congrArg some (up_at _ _ _))) ?_))
      rw [ms29 hl (by omega), Option.bind_some, bx_uu, vu_at]
      refine bS ((mg28 hl).trans (congrArg some (up_at _ _ _))) ?_
      rw [la_r, mu28 hl, Option.bind_some, upd2, la_r]
      exact nx
theorem m_l69 (hl : 46 ≤ h.length) {l1 l2 : Int32} : ∀ (j b fuel : Nat), b + j = 16 → j < fuel → f_X12_layout_69 N fuel 27 l1 l2 (nI b) (mp h I (va_up M 30 (fillF f 0 b (-1)))) = f_X12_layout_88 N N 27 l1 l2 (mp h I (va_up M 30 (fillF f 0 16 (-1)))) := by
  intro j
  induction j with
  | zero =>
    intro b fuel h1 h2
    obtain ⟨fuel, rfl⟩ : ∃ x, fuel = x + 1 := ⟨fuel - 1, by omega⟩
    rw [f_X12_layout_69, show b = 16 by omega]
    exact iT (by decide) rfl
  | succ j ih =>
    intro b fuel h1 h2
    obtain ⟨fuel, rfl⟩ : ∃ x, fuel = x + 1 := ⟨fuel - 1, by omega⟩
    rw [f_X12_layout_69]
    refine iF (nI_ge (b := 16) (by omega) (by omega)) (bS (mg30 hl) ?_)
    have e := ff_up f 0 b (-1)
    rw [Nat.zero_add] at e
    rw [ms30 hl (by omega), Option.bind_some, bx_uu, vu_at, e, la_r]
    exact ih (b + 1) fuel (by omega) (by omega)
theorem m_l217 (hl : 46 ≤ h.length) {D : Nat → Int32} (hA : A ≤ 16) (hI : I 28 = nI A) (hm : ∀ k, k < A → M 29 k = nI (nm k) ∧ nm k < 16) (hw : ∀ k, k < A → M 30 k = nI (V k)) : ∀ (j b fuel : Nat), b + j = A → j < fuel → f_X12_layout_217 N fuel 27 (nI b) (mp h I (va_up M 0 (plF D nm V b))) = some (nI A, mp h I (va_up M 0 (plF D nm V A))) := by
  intro j
  induction j with
  | zero =>
    intro b fuel h1 h2
    obtain ⟨fuel, rfl⟩ : ∃ x, fuel = x + 1 := ⟨fuel - 1, by omega⟩
    rw [f_X12_layout_217, show b = A by omega]
    exact bS ((mg28 hl).trans (congrArg some hI)) (iT (Int32.le_refl _) (bS ((mg28 hl).trans (congrArg some hI)) rfl))
  | succ j ih =>
    intro b fuel h1 h2
    obtain ⟨fuel, rfl⟩ : ∃ x, fuel = x + 1 := ⟨fuel - 1, by omega⟩
    obtain ⟨m1, m2⟩ := hm b (by omega)
    rw [f_X12_layout_217]
    refine bS ((mg28 hl).trans (congrArg some hI)) (iF (nI_ge (by omega) (by omega)) (bS (mg0 hl) (bS (mg29 hl) (bS (a := nI (nm b)) ((ml29 hl (by omega)).trans (by rw [vu_ne _ _ (by decide), m1])) (bS (mg30 hl) (bS (a := nI (V b)) ((ml30 hl (by omega)).trans (by rw [vu_ne _ _ (by decide), hw b (by omega)])) ?_))))))
    rw [la_l, ms0 hl (by omega), Option.bind_some, bx_uu, vu_at, la_r]
    exact ih (b + 1) fuel (by omega) (by omega)
theorem m_l192 (hl : 46 ≤ h.length) {D : Nat → Int32} : ∀ (j b fuel : Nat), b + j = 16 → j < fuel → f_X12_layout_192 N fuel 27 (nI b) (mp h I (va_up M 0 (fillF D 6881 b (-1)))) = f_X12_layout_217 N N 27 0 (mp h I (va_up M 0 (fillF D 6881 16 (-1)))) := by
  intro j
  induction j with
  | zero =>
    intro b fuel h1 h2
    obtain ⟨fuel, rfl⟩ : ∃ x, fuel = x + 1 := ⟨fuel - 1, by omega⟩
    rw [f_X12_layout_192, show b = 16 by omega]
    exact iT (by decide) rfl
  | succ j ih =>
    intro b fuel h1 h2
    obtain ⟨fuel, rfl⟩ : ∃ x, fuel = x + 1 := ⟨fuel - 1, by omega⟩
    rw [f_X12_layout_192]
    refine iF (nI_ge (b := 16) (by omega) (by omega)) (bS (mg0 hl) ?_)
    rw [la_l, ms0 hl (by omega), Option.bind_some, bx_uu, vu_at, ff_up, la_r]
    exact ih (b + 1) fuel (by omega) (by omega)
theorem m_l180 (hl : 46 ≤ h.length) (hN : 21000 ≤ N) (hc : c ≤ 4) (hI1 : I 1 = nI c) (hA : A ≤ 16) (hI : I 28 = nI A) (hm : ∀ k, k < A → M 29 k = nI (nm k) ∧ nm k < 16) (hw : ∀ k, k < A → M 30 k = nI (V k)) : f_X12_layout_180 N 27 (nI A) (mp h I M) = some (nI A, mp h (upd I 1 (nI (kpC c))) (va_up M 0 (plF (fillF (kpD (M 0) c) 6881 16 (-1)) nm V A))) := by
  unfold f_X12_layout_180
  refine iT (nI_pos' (by omega)) (bS (mck hl) (bS (m_keeps hl hN hc hI1) ?_))
  have a1 := m_l192 (N := N) (h := h) (I := upd I 1 (nI (kpC c))) (M := M) (D := kpD (M 0) c) hl 16 0 N (by omega) (by omega)
  rw [ff_0] at a1
  refine a1.trans ?_
  exact m_l217 (N := N) (h := h) (I := upd I 1 (nI (kpC c))) (M := M) (D := fillF (kpD (M 0) c) 6881 16 (-1)) hl hA ((up_ne _ _ (by decide)).trans hI) hm hw A 0 N (by omega) (by omega)
end mlay
theorem kept_app {h : zH} {ns : List zE} : kept h (h ++ ns) := fun a fa e he => by
  rw [List.getElem?_append_left (List.getElem?_eq_some_iff.mp he).1]
  exact he
section clay
variable {h : zH} {KI : Nat → Int32} {KR : Nat → Option Nat} {KA : Nat → Nat → Int32} {KP : Nat → Option Nat} {N P q aq : Nat} {rq x2 x3 : Option Nat} {td : Int32} {AR : Nat → Option Nat} {d pl st sc f g : Nat → Int32}
theorem c_i78 (hl : 46 ≤ h.length) (s0 : oO h q 9 [zr rq, zr (some aq), zr x2, zr x3, zi td]) (s1 : fz aq ∧ h[aq]? = some (.inl (4, 16, .inr AR))) (s3 : ∀ a, a < 16 → arR h (AR a) (seg d 0) a) : ∀ (j b fuel : Nat), b + j = 16 → j < fuel →
    f_X3_init_78 N fuel (h.length + 0) (some q) (nI b) (cp (h ++ plC h P (cA d b) 0 (whoF f d b) (cbF g d b) pl st sc) KI KR KA KP) = some (cp (h ++ plC h P (cA d 16) 0 (whoF f d 16) (cbF g d 16) pl st sc) KI KR KA KP) := by
  intro j
  induction j with
  | zero =>
    intro b fuel h1 h2
    obtain ⟨fuel, rfl⟩ : ∃ x, fuel = x + 1 := ⟨fuel - 1, by omega⟩
    rw [f_X3_init_78, show b = 16 by omega]
    exact iT (by decide) rfl
  | succ j ih =>
    intro b fuel h1 h2
    obtain ⟨fuel, rfl⟩ : ∃ x, fuel = x + 1 := ⟨fuel - 1, by omega⟩
    have nx := ih (b + 1) fuel (by omega) (by omega)
    rw [cA, whoF, cbF] at nx
    have cb := cA_le d b
    have hb : b < 16 := by omega
    have hf := c_find (N := N) (h := h ++ plC h P (cA d b) 0 (whoF f d b) (cbF g d b) pl st sc) (KI := KI) (KR := KR) (KA := KA) (KP := KP) (s0.mono kept_app) ⟨s1.1, kept_app _ s1.1 _ s1.2⟩ (fun a ha => (s3 a ha).mono kept_app) (nI b)
    have g0 : (cp (h ++ plC h P (cA d b) 0 (whoF f d b) (cbF g d b) pl st sc) KI KR KA KP)[q]? = some (.inr (9, [zr rq, zr (some aq), zr x2, zr x3, zi td])) := n_old (fz_19 s0.1) s0.2
    rw [f_X3_init_78]
    refine iF (nI_ge (b := 16) hb (by omega)) (bS (fk g0) ?_)
    have ep : pA (seg d 0) (nI b) = if d (125 + b) = -1 then none else some b := by
      unfold pA
      rw [if_neg (nI_pos (by omega)), if_neg (show ¬ (16 : Int32) ≤ nI b from nI_ge (b := 16) (by omega) (by omega)), nI_clamp (by omega), seg_lo _ (by omega)]
    by_cases hd : d (125 + b) = -1
    · rw [if_pos hd] at ep
      rw [if_pos hd, if_pos hd, if_pos hd] at nx
      refine bS (hf.1 ep) (iT rfl ?_)
      rw [la_r]
      exact nx
    · rw [if_neg hd] at ep
      rw [if_neg hd, if_neg hd, if_neg hd] at nx
      obtain ⟨y, e1, e2⟩ := hf.2 b ep
      have w := s3 b hb
      rw [e1] at w
      obtain ⟨⟨cl, c1, c2⟩, sh, sc', y0, ws, wc⟩ := w
      rw [seg_lo _ (by omega)] at y0
      have gy : ∀ {ns : List zE}, (cp (h ++ ns) KI KR KA KP)[y]? = some (.inr (0, [zi (d (125 + b)), zr (some sh), zr (some sc')])) := n_old (fz_19 y0.1) y0.2
      refine bS e2 (iF (by simp) (bS (n_R hl (i := 0) rfl rfl) (bS (n_I hl (i := 0) rfl rfl) (bS (n_st hl (i := 1) rfl (by omega) (by omega)) (bS (n_R hl (i := 0) rfl rfl) (bS (n_I hl (i := 0) rfl rfl) (bS (fgI gy rfl) (bS (n_st hl (i := 2) rfl (by omega) (by omega)) (bS (n_I hl (i := 0) rfl rfl) ?_)))))))))
      rw [la_r, la_r]
      exact bS (n_u hl (i := 0) rfl (Nat.le_of_ble_eq_true rfl)) nx
theorem c_plan (hl : 46 ≤ h.length) (hN : 100 ≤ N) (hP : P ≤ 16) (s0 : oO h q 9 [zr rq, zr (some aq), zr x2, zr x3, zi td]) (s1 : fz aq ∧ h[aq]? = some (.inl (4, 16, .inr AR))) (s3 : ∀ a, a < 16 → arR h (AR a) (seg d 0) a) :
    f_X3_init N (h.length + 0) (some q) (nI P) (cp (h ++ [.inr (3, [zr none, zr none, zr none, zi 0, zr none, zr none, zi 0])]) KI KR KA KP) = some (cp (h ++ plC h P (cA d 16) 0 (whoF (fun _ => 0) d 16) (cbF (fun _ => 0) d 16) (fun _ => 0) (fillF (fun _ => 0) 0 P (-1)) (fillF (fun _ => 0) 0 P (-1))) KI KR KA KP) := by
  unfold f_X3_init
  rw [max0 (by omega)]
  refine n_na hl (k := 16) (by omega) 1 rfl (bS (n_u hl (i := 0) rfl (Nat.le_of_ble_eq_true rfl)) (n_na hl (k := 16) (by omega) 2 rfl (bS (n_u hl (i := 0) rfl (Nat.le_of_ble_eq_true rfl)) (n_na hl (k := 16) (by omega) 3 rfl (bS (n_u hl (i := 0) rfl (Nat.le_of_ble_eq_true rfl)) (bS (n_u hl (i := 0) rfl (Nat.le_of_ble_eq_true rfl)) (bS (n_u hl (i := 0) rfl (Nat.le_of_ble_eq_true rfl)) ?_)))))))
  refine n_na hl (k := P) (by omega) 4 rfl (bS (n_u hl (i := 0) rfl (Nat.le_of_ble_eq_true rfl)) (n_na hl (k := P) (by omega) 5 rfl (bS (n_u hl (i := 0) rfl (Nat.le_of_ble_eq_true rfl)) (bS (n_R hl (i := 0) rfl rfl) (bS (n_fill hl (i := 4) rfl (by omega) (by omega)) (bS (n_R hl (i := 0) rfl rfl) (bS (n_fill hl (i := 5) rfl (by omega) (by omega)) ?_)))))))
  exact c_i78 (N := N) (f := fun _ => 0) (g := fun _ => 0) hl s0 s1 s3 16 0 N (by omega) (by omega)
end clay
