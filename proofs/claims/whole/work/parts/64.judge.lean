/-! ===== shoot: the arrows judged ===== -/
def sEnd (N a n : Nat) (S : Int32) (X : zH) : Option (Int32 × zH) := (zck X 12 (some 27)).bind fun q1 => (f_X12_keeps N q1 X).bind fun h1 => (zgR h1 12 (some 27) 0).bind fun x1 => (zld h1 0 x1 ((141 : Int32) + nI a)).bind fun x2 => (zck h1 12 (some 27)).bind fun q2 => (f_X12_arrowsOf N q2 x2 h1).bind fun x3 => f_X12_shoot_279 N N 27 (nI a) (nI n) S x3 (0 : Int32) h1
/-- what the faces say of leg l -/
theorem wf_face {F : Nat → Int32} (w : wfR F) {l : Nat} (hl : l < gL F) : ∃ f ln, F (4 + 3 * l) = nI f ∧ F (15 + f) = nI ln ∧ ln ≤ 12 ∧ f < (F 14).toNatClampNeg ∧ (F 14).toNatClampNeg ≤ 4 ∧ F 14 = nI (F 14).toNatClampNeg ∧ ∀ j, j < ln → ∃ v, F (67 + 12 * f + j) = nI v ∧ v ≤ 20 := by
  obtain ⟨-, -, ⟨fc, w2, w3, w4, w5⟩, -⟩ := w
  obtain ⟨-, -, f, f1, f2⟩ := w4 l hl
  obtain ⟨ln, x1, x2, x3, x4⟩ := w5 f f2
  rw [w2, nI_clamp (by omega)]
  exact ⟨f, ln, f1, x1, x3, f2, w3, rfl, fun j hj => (x4 j hj).2⟩
theorem hvF.cg {F D : Nat → Int32} (q : ∀ j, j < 125 → F j = D j) {f : Nat} (hf : f < 4) {sq : Int32} : ∀ {k : Nat}, k ≤ 12 → hvF F f sq k = hvF D f sq k
  | 0, _ => rfl
  | k + 1, h => by rw [hvF, hvF, q _ (by omega), q _ (by omega), q _ (by omega), hvF.cg q hf (k := k) (by omega)]
section judge
variable {h : zH} {KI : Nat → Int32} {KR : Nat → Option Nat} {KA : Nat → Nat → Int32} {KP : Nat → Option Nat} {I : Nat → Int32} {A : Nat → Nat → Int32} {N r l n a : Nat} {F : Nat → Int32}
theorem j_one (hl : 46 ≤ h.length) (hN : 21000 ≤ N) (s2 : rR h (some r) F) (qF : ∀ j, j < 125 → F j = A 0 j) (hL : l < gL F) (hn : n ≤ 6)
    (hq : ∀ k, k < n → KA 14 k = A 24 k ∧ KA 15 k = A 25 k ∧ KA 16 k = A 26 k ∧ ∃ kd, A 24 k = nI kd ∧ kd ≤ 4 ∧ (kd = 0 → (-20000 ≤ A 25 k ∧ A 25 k ≤ 20000) ∧ -20000 ≤ A 26 k ∧ A 26 k ≤ 20000) ∧ (kd = 4 → ∃ x, A 25 k = nI x ∧ x ≤ 5))
    {k : Nat} (hk : k < n) {g g' : Nat → Int32} (hg : ∀ i, i < k → g i = g' i ∧ ∃ v, g i = nI v ∧ v ≤ 100) (S : Int32) (f2 : Nat) :
    (f_X4_judgeOne N 13 (some r) (nI l) (nI k) (cp h KI KR (va_up KA 17 g) KP) = some (-1) ∧ ∀ h1 : zH, 46 ≤ h1.length → f_X12_shoot_87 N (f2 + 1) 27 (nI a) (nI n) (nI l) S (nI k) (mp h1 I (va_up A 27 g')) = some (-3, mp h1 I (va_up A 27 g'))) ∨
    ∃ v, v ≤ 100 ∧ f_X4_judgeOne N 13 (some r) (nI l) (nI k) (cp h KI KR (va_up KA 17 g) KP) = some (nI v) ∧ ∀ h1 : zH, 46 ≤ h1.length → f_X12_shoot_87 N (f2 + 1) 27 (nI a) (nI n) (nI l) S (nI k) (mp h1 I (va_up A 27 g')) = f_X12_shoot_87 N f2 27 (nI a) (nI n) (nI l) (S + nI v) (nI (k + 1)) (mp h1 I (va_up A 27 (upd g' k (nI v)))) := by
  obtain ⟨p1, p2, p3, kd, p4, p5, p6, p7⟩ := hq k hk
  have s2' : rR (cp h KI KR (va_up KA 17 g) KP) (some r) F := s2.mono cp0k
  have rk : zck (cp h KI KR (va_up KA 17 g) KP) 6 (some r) = some r := by obtain ⟨w, a1, a2, a3, a4, a5, a6, a7, a8, f1, f2, f3, f4, f5, f6, f7, f8, q0, -⟩ := s2'; exact fk q0.2
  have c14 : ∀ i, i < 6 → zld (cp h KI KR (va_up KA 17 g) KP) 0 (some 14) (nI i) = some (KA 14 i) := fun i hi => cl14 hl hi
  have c15 : ∀ i, i < 6 → zld (cp h KI KR (va_up KA 17 g) KP) 0 (some 15) (nI i) = some (KA 15 i) := fun i hi => cl15 hl hi
  have c16 : ∀ i, i < 6 → zld (cp h KI KR (va_up KA 17 g) KP) 0 (some 16) (nI i) = some (KA 16 i) := fun i hi => cl16 hl hi
  have c17 : ∀ i, i < 6 → zld (cp h KI KR (va_up KA 17 g) KP) 0 (some 17) (nI i) = some (g i) := fun i hi => (cl17 hl hi).trans (by rw [vu_at])
  have m0 : va_up A 27 g' 0 = A 0 := vu_ne _ _ (by decide)
  have m24 : ∀ {h1 : zH} {i : Nat}, 46 ≤ h1.length → i < 6 → zld (mp h1 I (va_up A 27 g')) 0 (some 40) (nI i) = some (A 24 i) := fun hl1 hi => (ml24 hl1 hi).trans (by rw [vu_ne _ _ (by decide)])
  have m25 : ∀ {h1 : zH} {i : Nat}, 46 ≤ h1.length → i < 6 → zld (mp h1 I (va_up A 27 g')) 0 (some 41) (nI i) = some (A 25 i) := fun hl1 hi => (ml25 hl1 hi).trans (by rw [vu_ne _ _ (by decide)])
  have m26 : ∀ {h1 : zH} {i : Nat}, 46 ≤ h1.length → i < 6 → zld (mp h1 I (va_up A 27 g')) 0 (some 42) (nI i) = some (A 26 i) := fun hl1 hi => (ml26 hl1 hi).trans (by rw [vu_ne _ _ (by decide)])
  have m27 : ∀ {h1 : zH} {i : Nat}, 46 ≤ h1.length → i < 6 → zld (mp h1 I (va_up A 27 g')) 0 (some 43) (nI i) = some (g' i) := fun hl1 hi => (ml27 hl1 hi).trans (by rw [vu_at])
  have fin : ∀ {h1 : zH} {v : Nat}, 46 ≤ h1.length → f_X12_shoot_237 N (fun l0 l1 l2 l3 l4 l5 h => f_X12_shoot_87 N f2 l0 l1 l2 l3 l4 l5 h) 27 (nI a) (nI n) (nI l) S (nI k) (nI v) (nI k) (some 43) (mp h1 I (va_up A 27 g')) = f_X12_shoot_87 N f2 27 (nI a) (nI n) (nI l) (S + nI v) (nI (k + 1)) (mp h1 I (va_up A 27 (upd g' k (nI v)))) := by
    intro h1 v hl1
    unfold f_X12_shoot_237
    refine bS (a := mp h1 I (va_up A 27 (upd g' k (nI v)))) ?_ (bS (mg27 hl1) (bS ((ml27 hl1 (by omega)).trans (by rw [vu_at, up_at])) (by rw [la_r])))
    rw [ms27 hl1 (by omega), bx_uu, vu_at]
  have hd : ∀ {h1 : zH} {X}, 46 ≤ h1.length → (if A 24 k = (4 : Int32) then (zgR (mp h1 I (va_up A 27 g')) 12 (some 27) 25).bind fun x6 => (zld (mp h1 I (va_up A 27 g')) 0 x6 (nI k)).bind fun x7 => if nI k ≤ x7 then some (((-3) : Int32), (mp h1 I (va_up A 27 g'))) else (zgR (mp h1 I (va_up A 27 g')) 12 (some 27) 24).bind fun x8 => (zgR (mp h1 I (va_up A 27 g')) 12 (some 27) 25).bind fun x9 => (zld (mp h1 I (va_up A 27 g')) 0 x9 (nI k)).bind fun x10 => (zld (mp h1 I (va_up A 27 g')) 0 x8 x10).bind fun x11 => if x11 = (1 : Int32) then some (((-3) : Int32), (mp h1 I (va_up A 27 g'))) else f_X12_shoot_139 N (fun l0 l1 l2 l3 l4 l5 h => f_X12_shoot_87 N f2 l0 l1 l2 l3 l4 l5 h) 27 (nI a) (nI n) (nI l) S (nI k) (A 24 k) (mp h1 I (va_up A 27 g')) else f_X12_shoot_139 N (fun l0 l1 l2 l3 l4 l5 h => f_X12_shoot_87 N f2 l0 l1 l2 l3 l4 l5 h) 27 (nI a) (nI n) (nI l) S (nI k) (A 24 k) (mp h1 I (va_up A 27 g'))) = X → f_X12_shoot_87 N (f2 + 1) 27 (nI a) (nI n) (nI l) S (nI k) (mp h1 I (va_up A 27 g')) = X := by
    intro h1 X hl1 hX
    rw [f_X12_shoot_87]
    exact iF (nI_ge hk (by omega)) (bS (mg24 hl1) (bS (m24 hl1 (by omega)) hX))
  have jd : ∀ {X}, _ = X → f_X4_judgeOne N 13 (some r) (nI l) (nI k) (cp h KI KR (va_up KA 17 g) KP) = X := fun hX => bS (cg13_0 hl) (bS (c14 k (by omega)) hX)
  have wF := s2.1
  have hw9 := wF.2.2.2.2
  rcases (show kd = 0 ∨ kd = 1 ∨ kd = 2 ∨ kd = 3 ∨ kd = 4 by omega) with rfl | rfl | rfl | rfl | rfl
  · obtain ⟨f, ln, u1, u2, u3, u4, u5, u6, u7⟩ := wf_face wF hL
    obtain ⟨v, v1, v2⟩ := hvF_b (D := F) (f := f) (sq := A 25 k * A 25 k + A 26 k * A 26 k) (k := ln) u7
    have k0 : A 24 k = 0 := p4
    have hg4 := (wf_L wF).2.2
    have gh := g_hit (N := N) s2' (by omega) hL u1 u2 u3 u4 u5 u6 (A 25 k) (A 26 k)
    refine Or.inr ⟨v, v2, jd (iT (by rw [p1, k0]) (bS (cg13_1 hl) (bS (c15 k (by omega)) (bS (cg13_2 hl) (bS (c16 k (by omega)) (bS rk (bS (a := nI v) (by rw [p2, p3, gh, v1]) rfl))))))), fun h1 hl1 => hd hl1 (iF (by rw [k0]; decide) (bS (mg27 hl1) (iT (by rw [k0]) (bS (mg0 hl1) (bS (a := nI f) ?_ (bS (mg25 hl1) (bS (m25 hl1 (by omega)) (bS (mg26 hl1) (bS (m26 hl1 (by omega)) (bS (mck hl1) (bS (a := nI v) ?_ (fin hl1)))))))))))) ⟩
    · rw [lm_l, la_l, la_r, ml0 hl1 (by omega), m0, show 2 + 3 * l + 2 = 4 + 3 * l by omega, ← qF _ (by omega), u1]
    · rw [m_hit hl1 (by omega) (f := f) (ln := ln) (by omega) (by rw [m0, ← qF _ (by omega), u2]) u3, m0, ← hvF.cg qF (by omega) u3, v1]
  · have k0 : A 24 k = 1 := p4
    exact Or.inr ⟨0, by omega, jd (iF (by rw [p1, k0]; decide) (iT (by rw [p1, k0]) rfl)), fun h1 hl1 => hd hl1 (iF (by rw [k0]; decide) (bS (mg27 hl1) (iF (by rw [k0]; decide) (iF (by rw [k0]; decide) (iF (by rw [k0]; decide) (iF (by rw [k0]; decide) (fin hl1)))))))⟩
  · have k0 : A 24 k = 2 := p4
    obtain ⟨v, v1, v2⟩ := hw9 0 (by omega)
    have gs := g_setting (N := N) s2' (i := 0) (by omega)
    refine Or.inr ⟨v, v2, jd (iF (by rw [p1, k0]; decide) (iF (by rw [p1, k0]; decide) (iT (by rw [p1, k0]) (bS rk (bS gs (by rw [v1])))))), fun h1 hl1 => hd hl1 (iF (by rw [k0]; decide) (bS (mg27 hl1) (iF (by rw [k0]; decide) (iT (by rw [k0]) (bS (mg0 hl1) (bS (a := nI v) ?_ (fin hl1)))))))⟩
    rw [ml0L hl1 122 (by decide), m0]
    exact congrArg some ((qF 122 (by omega)).symm.trans v1)
  · have k0 : A 24 k = 3 := p4
    obtain ⟨v, v1, v2⟩ := hw9 1 (by omega)
    have gs := g_setting (N := N) s2' (i := 1) (by omega)
    refine Or.inr ⟨v, v2, jd (iF (by rw [p1, k0]; decide) (iF (by rw [p1, k0]; decide) (iF (by rw [p1, k0]; decide) (iT (by rw [p1, k0]) (bS rk (bS gs (by rw [v1]))))))), fun h1 hl1 => hd hl1 (iF (by rw [k0]; decide) (bS (mg27 hl1) (iF (by rw [k0]; decide) (iF (by rw [k0]; decide) (iT (by rw [k0]) (bS (mg0 hl1) (bS (a := nI v) ?_ (fin hl1))))))))⟩
    rw [ml0L hl1 123 (by decide), m0]
    exact congrArg some ((qF 123 (by omega)).symm.trans v1)
  · have k0 : A 24 k = 4 := p4
    obtain ⟨z, z1, z2⟩ := p7 rfl
    have jin : ∀ {X : Int32}, (if nI k ≤ nI z then some ((-1) : Int32) else if KA 14 z = (1 : Int32) then some ((-1) : Int32) else some (g z)) = some X → f_X4_judgeOne N 13 (some r) (nI l) (nI k) (cp h KI KR (va_up KA 17 g) KP) = some X := by
      intro X hX
      refine jd (iF (by rw [p1, k0]; decide) (iF (by rw [p1, k0]; decide) (iF (by rw [p1, k0]; decide) (iF (by rw [p1, k0]; decide) (iT (by rw [p1, k0]) (bS (cg13_1 hl) (bS (c15 k (by omega)) (bS (ck13 hl) (bS (a := X) ?_ rfl)))))))))
      rw [p2, z1]
      refine iF (nI_pos (by omega)) ?_
      by_cases h1 : nI k ≤ nI z
      · rw [if_pos h1] at hX
        exact iT h1 hX
      · rw [if_neg h1] at hX
        refine iF h1 (bS (cg13_0 hl) (bS (c14 z (by omega)) ?_))
        by_cases h2 : KA 14 z = 1
        · rw [if_pos h2] at hX
          exact iT h2 hX
        · rw [if_neg h2] at hX
          exact iF h2 (bS (cg13_4 hl) (bS (c17 z (by omega)) hX))
    by_cases h1 : nI k ≤ nI z
    · exact Or.inl ⟨jin (iT h1 rfl), fun h1' hl1 => hd hl1 (iT k0 (bS (mg25 hl1) (bS (m25 hl1 (by omega)) (iT (by rw [z1]; exact h1) rfl))))⟩
    have hzk : z < k := by
      apply Nat.lt_of_not_le
      intro q
      exact h1 (nI_le q (by omega))
    obtain ⟨r1, r2, r3, r4⟩ := hq z (by omega)
    by_cases h2 : A 24 z = 1
    · exact Or.inl ⟨jin (iF h1 (iT (by rw [r1, h2]) rfl)), fun h1' hl1 => hd hl1 (iT k0 (bS (mg25 hl1) (bS (m25 hl1 (by omega)) (iF (by rw [z1]; exact h1) (bS (mg24 hl1) (bS (mg25 hl1) (bS (m25 hl1 (by omega)) (bS (a := A 24 z) (by rw [z1]; exact m24 hl1 (by omega)) (iT h2 rfl)))))))))⟩
    · obtain ⟨e1, v, e2, e3⟩ := hg z hzk
      refine Or.inr ⟨v, e3, jin (iF h1 (iF (by rw [r1]; exact h2) (by rw [e2]))), fun h1' hl1 => hd hl1 (iT k0 (bS (mg25 hl1) (bS (m25 hl1 (by omega)) (iF (by rw [z1]; exact h1) (bS (mg24 hl1) (bS (mg25 hl1) (bS (m25 hl1 (by omega)) (bS (a := A 24 z) (by rw [z1]; exact m24 hl1 (by omega)) (iF h2 (bS (mg27 hl1) (iF (by rw [k0]; decide) (iF (by rw [k0]; decide) (iF (by rw [k0]; decide) (iT k0 (bS (mg27 hl1) (bS (mg25 hl1) (bS (m25 hl1 (by omega)) (bS (a := nI v) ?_ (fin hl1)))))))))))))))))))⟩
      rw [z1, m27 hl1 (by omega), ← e1, e2]
end judge
