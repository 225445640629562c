/-! ===== shoot: rules, a hit ===== -/
theorem OPo.chgX {fx fm : zH → Option (Int32 × zH)} {h : zH} {KI KI' : Nat → Int32} {KR : Nat → Option Nat} {KA KA' : Nat → Nat → Int32} {KP : Nat → Option Nat} {I I' : Nat → Int32} {A A' : Nat → Nat → Int32} {c q : Nat} (H : IN h KI KR KA KP I A c q) {r : Int32} {ns : List zE}
    (hx : fx (cp h KI KR KA KP) = some (r, cp (h ++ ns) KI' (va_up KR 0 (some (h.length + 0))) KA' (kpP KP c q)))
    (hm : ∀ h1 : zH, 46 ≤ h1.length → fm (mp h1 I A) = some (r, mp h1 I' A'))
    (hK0 : KI' 0 = nI (kpC c)) (hI1 : I' 1 = nI (kpC c)) (hd : ∀ i, 1 ≤ i → seg (A' 0) i = seg (kpD (A 0) c) i) (hS : SR (cp (h ++ ns) KI' (va_up KR 0 (some (h.length + 0))) KA' (kpP KP c q)) (h.length + 0) (seg (A' 0) 0))
    (hT : tpR KI' KA' I' A') (hF : KI' 15 = I' 11 ∧ KI' 16 = I' 12) (hQ : qvR KI' KA' I' A') (hn : ns.length ≤ 100) (hz : zsl ns ≤ 3000) : OPo fx fm h := by
  obtain ⟨hl, hC, hM, i1, i2, i3, i4, i5, i6, i7, i8, i9⟩ := id H
  rw [hC.eq] at hx
  have hM2 : MH (cp (h ++ ns) KI' (va_up KR 0 (some (h.length + 0))) KA' (kpP KP c q)) I A := hM.cp
  have x2 := hm (cp (h ++ ns) KI' (va_up KR 0 (some (h.length + 0))) KA' (kpP KP c q)) (by rw [n_len]; omega)
  rw [hM2.eq] at x2
  refine ⟨r, _, _, hx, x2, ⟨_, _, _, _, _, _, _, _, H.change (ns := ns) (KA' := KA') (d' := A' 0) hK0 hI1 rfl hd hS hT hF hQ⟩, ?_, ?_, hM2.ck (by rw [n_len]; omega)⟩
  · rw [mp_len, n_len]; omega
  · rw [zsl_mp hM2, zsl_cp hC]; omega
/-- change() with other small numbers -/
theorem c_chgX {h : zH} {KI KI' : Nat → Int32} {KR : Nat → Option Nat} {KA KA' : Nat → Nat → Int32} {KP : Nat → Option Nat} {I : Nat → Int32} {A : Nat → Nat → Int32} {c q aq N : Nat} {rq x2 x3 : Option Nat} {td : Int32} {AR : Nat → Option Nat} (H : IN h KI KR KA KP I A c q) (hN : 5 ≤ N) (s0 : oO h q 9 [zr rq, zr (some aq), zr x2, zr x3, zi td]) (s1 : fz aq ∧ h[aq]? = some (.inl (4, 16, .inr AR))) (hK : KI' 0 = KI 0) :
    f_X11_change N 0 (cp h KI' KR KA' KP) = some (some (h.length + 0), cp (h ++ [.inr (9, [zr rq, zr (some (h.length + 1)), zr x2, zr x3, zi td]), .inl (4, 16, .inr AR)]) (upd KI' 0 (nI (kpC c))) (va_up KR 0 (some (h.length + 0))) KA' (kpP KP c q)) := by
  obtain ⟨hl, hC, hM, i1, i2, i3, i4, i5, i6, -⟩ := H
  exact c_change hl hN (fz_19 s0.1) (fz_19 s1.1) s0.2 s1.2 i4 (hK.trans i1) i3 (fun i hi => by
    obtain ⟨p, e1, e2⟩ := i6 i hi
    obtain ⟨e3, ps, e4⟩ := e2.st
    exact ⟨p, ps, e1, e3, e4⟩)
/-- a row behind which another is laid -/
def catF (f : Nat → Int32) (a k : Nat) (g : Nat → Int32) : Nat → Int32 := fun p => if a ≤ p ∧ p < a + k then g (p - a) else f p
theorem cf_in (f : Nat → Int32) {a k p : Nat} (g : Nat → Int32) (h : a ≤ p ∧ p < a + k) : catF f a k g p = g (p - a) := if_pos h
theorem cf_out (f : Nat → Int32) {a k p : Nat} (g : Nat → Int32) (h : ¬ (a ≤ p ∧ p < a + k)) : catF f a k g p = f p := if_neg h
theorem cf_0 (f : Nat → Int32) (a : Nat) (g : Nat → Int32) : catF f a 0 g = f := by
  funext p; exact cf_out _ _ (by omega)
theorem cf_up (f : Nat → Int32) (a k : Nat) (g : Nat → Int32) : upd (catF f a k g) (a + k) (g k) = catF f a (k + 1) g := by
  funext p
  by_cases h : p = a + k
  · subst h; rw [up_at, cf_in _ _ (by omega), Nat.add_sub_cancel_left]
  · rw [up_ne _ _ h]
    by_cases h2 : a ≤ p ∧ p < a + k
    · rw [cf_in _ _ h2, cf_in _ _ (by omega)]
    · rw [cf_out _ _ h2, cf_out _ _ (by omega)]
theorem seg_cf0 (d : Nat → Int32) {a k : Nat} (g : Nat → Int32) (h : a + k ≤ 6898) : seg (catF d a k g) 0 = catF (seg d 0) a k g := by
  funext p
  by_cases h6 : p < 6898
  · rw [seg_lo _ h6]
    by_cases h2 : a ≤ p ∧ p < a + k
    · rw [cf_in _ _ h2, cf_in _ _ h2]
    · rw [cf_out _ _ h2, cf_out _ _ h2, seg_lo _ h6]
  · rw [cf_out _ _ (by omega)]
    unfold seg
    rw [if_neg h6, if_neg h6]
theorem seg_cfi (d : Nat → Int32) {a k i : Nat} (g : Nat → Int32) (h : a + k ≤ 6898) (hi : 1 ≤ i) : seg (catF d a k g) i = seg d i := seg_ext (fun j hj => cf_out _ _ (by omega))
/-- what a hit counts, with k lines looked at -/
def hvF (D : Nat → Int32) (f : Nat) (sq : Int32) : Nat → Int32
  | 0 => 0
  | k + 1 => if (D (19 + 12 * f + k) + D 124) * (D (19 + 12 * f + k) + D 124) < sq then hvF D f sq k else D (67 + 12 * f + k)
theorem hvF_b {D : Nat → Int32} {f : Nat} {sq : Int32} : ∀ {k : Nat}, (∀ j, j < k → ∃ v, D (67 + 12 * f + j) = nI v ∧ v ≤ 20) → ∃ v, hvF D f sq k = nI v ∧ v ≤ 100
  | 0, _ => ⟨0, rfl, by omega⟩
  | k + 1, h => by
    rw [hvF]
    split
    · exact hvF_b (k := k) (fun j hj => h j (by omega))
    · obtain ⟨v, h1, h2⟩ := h k (by omega)
      exact ⟨v, h1, by omega⟩
theorem m_hit {h : zH} {I : Nat → Int32} {A : Nat → Nat → Int32} {N f ln : Nat} (hl : 46 ≤ h.length) (hN : 20 ≤ N) (hf : f < 4) (hln : A 0 (15 + f) = nI ln) (h12 : ln ≤ 12) (x y : Int32) : f_X12_hit N 27 (nI f) x y (mp h I A) = some (hvF (A 0) f (x * x + y * y) ln) := by
  have l15 : zld (mp h I A) 0 (some 28) ((15 : Int32) + nI f) = some (nI ln) := by rw [la_l, ml0 hl (by omega), hln]
  have go : ∀ (k b fuel : Nat), b + k = ln → k < fuel → f_X12_hit_6 N fuel 27 (nI f) x y (hvF (A 0) f (x * x + y * y) b) (nI b) (mp h I A) = some (hvF (A 0) f (x * x + y * y) ln) := by
    intro k
    induction k with
    | zero =>
      intro b fuel h1 h2
      obtain ⟨fuel, rfl⟩ : ∃ m, fuel = m + 1 := ⟨fuel - 1, by omega⟩
      rw [f_X12_hit_6, show b = ln by omega]
      exact bS (mg0 hl) (bS l15 (iT (Int32.le_refl _) rfl))
    | succ k ih =>
      intro b fuel h1 h2
      obtain ⟨fuel, rfl⟩ : ∃ m, fuel = m + 1 := ⟨fuel - 1, by omega⟩
      have nx := ih (b + 1) fuel (by omega) (by omega)
      rw [hvF] at nx
      rw [f_X12_hit_6]
      refine bS (mg0 hl) (bS l15 (iF (nI_ge (by omega) (by omega)) (bS (mg0 hl) (bS (a := A 0 (19 + 12 * f + b)) (by rw [lm_l, la_l, nI_add, ml0 hl (by omega)]) (bS (mg0 hl) (bS (a := A 0 124) (ml0L hl 124 (by decide)) ?_))))))
      by_cases hc : (A 0 (19 + 12 * f + b) + A 0 124) * (A 0 (19 + 12 * f + b) + A 0 124) < x * x + y * y
      · rw [if_pos hc] at nx
        refine iT hc ?_
        rw [la_r]; exact nx
      · rw [if_neg hc] at nx
        refine iF hc (bS (mg0 hl) (bS (a := A 0 (67 + 12 * f + b)) (by rw [lm_l, la_l, nI_add, ml0 hl (by omega)]) ?_))
        rw [la_r]; exact nx
  exact go ln 0 N (by omega) (by omega)
theorem g_hit {H : zH} {F : Nat → Int32} {r N l f ln : Nat} (w : rR H (some r) F) (hN : 20 ≤ N) (hl : l < gL F) (hf : F (4 + 3 * l) = nI f) (hln : F (15 + f) = nI ln) (h12 : ln ≤ 12) (hfc : f < (F 14).toNatClampNeg) (h4 : (F 14).toNatClampNeg ≤ 4) (h14 : F 14 = nI (F 14).toNatClampNeg) (x y : Int32) : f_X6_valueAt N r (nI l) x y H = some (hvF F f (x * x + y * y) ln) := by
  have gs := g_setting (N := N) w (i := 2) (by omega)
  obtain ⟨w, a1, a2, a3, a4, a5, a6, a7, a8, f1, f2, f3, f4, f5, f6, f7, f8, q0, q1, q2, q3, q4, q5, q6, q7, q8, z1, z2, z3, z4⟩ := w
  have hL := (wf_L w)
  obtain ⟨z5, z6⟩ := z1 f hfc
  rw [hln, nI_clamp (by omega)] at z6
  have l1 : zld H 0 (some a1) (nI f) = some (nI ln) := by rw [fld_ q1.2 (by omega) (by omega), z5, hln]
  have go : ∀ (k b fuel : Nat), b + k = ln → k < fuel → f_X6_valueAt_55 N fuel r (nI f) (x * x + y * y) (hvF F f (x * x + y * y) b) (nI b) H = some (hvF F f (x * x + y * y) ln) := by
    intro k
    induction k with
    | zero =>
      intro b fuel h1 h2
      obtain ⟨fuel, rfl⟩ : ∃ m, fuel = m + 1 := ⟨fuel - 1, by omega⟩
      rw [f_X6_valueAt_55, show b = ln by omega]
      exact bS (fgR q0.2 rfl) (bS l1 (iT (Int32.le_refl _) rfl))
    | succ k ih =>
      intro b fuel h1 h2
      obtain ⟨fuel, rfl⟩ : ∃ m, fuel = m + 1 := ⟨fuel - 1, by omega⟩
      obtain ⟨y1, y2⟩ := z6 b (by omega)
      have nx := ih (b + 1) fuel (by omega) (by omega)
      rw [hvF] at nx
      rw [f_X6_valueAt_55]
      refine bS (fgR q0.2 rfl) (bS l1 (iF (nI_ge (by omega) (by omega)) (bS (fgR q0.2 rfl) (bS (a := F (19 + 12 * f + b)) (by rw [fldx (j := f * 12 + b) (by rw [lm_r, nI_add]) q2.2 (by omega) (by omega), y1]) (bS (fk q0.2) (bS gs ?_))))))
      by_cases hc : (F (19 + 12 * f + b) + F 124) * (F (19 + 12 * f + b) + F 124) < x * x + y * y
      · rw [if_pos hc] at nx
        refine iT hc ?_
        rw [la_r]; exact nx
      · rw [if_neg hc] at nx
        refine iF hc (bS (fgR q0.2 rfl) (bS (a := F (67 + 12 * f + b)) (by rw [fldx (j := f * 12 + b) (by rw [lm_r, nI_add]) q3.2 (by omega) (by omega), y2]) ?_))
        rw [la_r]; exact nx
  refine iF (nI_pos (by omega)) (bS (fgI q0.2 rfl) (iF (by rw [hL.1]; exact nI_ge (by omega) (by omega)) (bS (fgR q0.2 rfl) (bS (a := nI f) (by rw [fld_ q6.2 (by omega) (by omega), (z2 l hl).2.2, hf]) (iF (nI_pos (by omega)) (bS (fgI q0.2 rfl) (iT ?_ (go ln 0 N (by omega) (by omega)))))))))
  rw [h14]
  exact nI_lt hfc (by omega)
