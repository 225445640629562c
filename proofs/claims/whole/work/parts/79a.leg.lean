/-! ===== round: statements; leg ===== -/
def DI (R : Nat → Int32) (fc : Nat) (f8 hd : Nat → Int32) : Prop := ∃ L ts, R 14 = nI fc ∧ fc ≤ 4 ∧ R 1 = nI L ∧ L ≤ 4 ∧ R 115 = nI ts ∧ ts ≤ 6 ∧
  (∀ l, l < L → (∃ e, R (2 + 3 * l) = nI e ∧ 1 ≤ e ∧ e ≤ 12) ∧ (∃ w, R (3 + 3 * l) = nI w ∧ 1 ≤ w ∧ w ≤ 6) ∧ ∃ f, R (4 + 3 * l) = nI f ∧ f < fc) ∧
  (∀ f, f < fc → ∃ ln, R (15 + f) = nI ln ∧ 1 ≤ ln ∧ ln ≤ 12 ∧ ∀ k, k < ln → (∃ x, R (19 + 12 * f + k) = nI x ∧ x ≤ 10000) ∧ ∃ v, R (67 + 12 * f + k) = nI v ∧ v ≤ 20) ∧ (∀ f, fc ≤ f → f < 4 → R (15 + f) = 0) ∧
  (∀ t, t < ts → ∃ k, R (116 + t) = nI k ∧ k ≤ 22) ∧ (∀ i, i < 3 → ∃ x, R (122 + i) = nI x ∧ x ≤ 100) ∧ ∀ i, i < 3 → (f8 i = -1 ∧ hd i = 0 ∧ R (122 + i) = 0) ∨ (f8 i = R (122 + i) ∧ hd i = 1)
def isDC (h : zH) (D : List zE) : Prop := ∃ fc L ts f1 f2 f3 f4 f5 f6 f7 f8, D = dC h fc L ts f1 f2 f3 f4 f5 f6 f7 f8
theorem isDC_R (h : zH) (R : Nat → Int32) (fc : Int32) (f8 : Nat → Int32) : isDC h (dR h R fc f8) := ⟨_, _, _, _, _, _, _, _, _, _, _, rfl⟩
/-- a fault, the same for both -/
def OutF (N : Nat) (h : zH) (K : Nat → Int32) (KR : Nat → Option Nat) (KA : Nat → Nat → Int32) (KP : Nat → Option Nat) (I : Nat → Int32) (A : Nat → Nat → Int32) (cs : Option (Int32 × zH)) (ms : zH → Option zH) : Prop :=
  ∃ ft P, ft ≠ 0 ∧ (∃ D a n s, isDC h D ∧ (cs = some (0, cp (h ++ D) (rK K a n s ft P) KR KA KP) ∨ ∃ X1, cs = some (1, X1) ∧ f_X5_readSign N 1 (nI 59) X1 = some (0, cp (h ++ D) (rK K a n s ft P) KR KA KP))) ∧ ∃ a' k' g' m' R' hd', ∀ h1 : zH, 46 ≤ h1.length → ms h1 = some (mp h1 (mK I a' k' g' m' ft P) (va_up (va_up A 21 R') 22 hd'))
/-- a statement read -/
def OutS (N : Nat) (h : zH) (K : Nat → Int32) (KR : Nat → Option Nat) (KA : Nat → Nat → Int32) (KP : Nat → Option Nat) (I : Nat → Int32) (A : Nat → Nat → Int32) (t e : Nat) (cs : Option (Int32 × zH)) (ms : zH → Option zH) : Prop :=
  ∃ p' R' f8' hd' fc' n s k' g' m', e < p' ∧ p' ≤ t ∧ DI R' fc' f8' hd' ∧ (∃ X1, cs = some (1, X1) ∧ f_X5_readSign N 1 (nI 59) X1 = some (1, cp (h ++ dR h R' (nI fc') f8') (rK K (nI p') n s 0 (-1)) KR KA KP)) ∧ ∀ h1 : zH, 46 ≤ h1.length → ms h1 = some (mp h1 (mK I (nI p') k' g' m' 0 (-1)) (va_up (va_up A 21 R') 22 hd'))
theorem tpM.r {I : Nat → Int32} {A : Nat → Nat → Int32} {T : Nat → Nat} {t : Nat} (w : tpM I A T t) (R hd : Nat → Int32) : tpM I (va_up (va_up A 21 R) 22 hd) T t := by
  unfold tpM
  rw [vu_ne _ _ (by decide), vu_ne _ _ (by decide)]
  exact w
section mr
variable {h : zH} {I : Nat → Int32} {A : Nat → Nat → Int32} {R hd : Nat → Int32} {j : Nat} {v : Int32}
theorem lr (hl : 46 ≤ h.length) (hj : j < 125) : zld (mp h I (va_up (va_up A 21 R) 22 hd)) 0 (some 38) (nI j) = some (R j) := (ml21 hl hj).trans (by rw [vu_ne _ _ (by decide), vu_at])
theorem sr (hl : 46 ≤ h.length) (hj : j < 125) : zst (mp h I (va_up (va_up A 21 R) 22 hd)) 0 (some 38) (nI j) v = some (mp h I (va_up (va_up A 21 (upd R j v)) 22 hd)) := by
  rw [ms21 hl hj, vu_ne _ _ (show 21 ≠ 22 by decide), vu_at]
  congr 2
  funext p
  by_cases h1 : p = 21
  · subst h1; rw [vu_at, vu_ne _ _ (by decide), vu_at]
  · rw [vu_ne _ _ h1]
    by_cases h2 : p = 22
    · subst h2; rw [vu_at, vu_at]
    · rw [vu_ne _ _ h2, vu_ne _ _ h2, vu_ne _ _ h1, vu_ne _ _ h1]
theorem lh (hl : 46 ≤ h.length) (hj : j < 3) : zld (mp h I (va_up (va_up A 21 R) 22 hd)) 3 (some 39) (nI j) = some (hd j) := (ml22 hl hj).trans (by rw [vu_at])
theorem sh_ (hl : 46 ≤ h.length) (hj : j < 3) : zst (mp h I (va_up (va_up A 21 R) 22 hd)) 3 (some 39) (nI j) v = some (mp h I (va_up (va_up A 21 R) 22 (upd hd j v))) := by
  rw [ms22 hl hj, bx_uu, vu_at]
end mr
theorem m_leg_bad {h : zH} {I : Nat → Int32} {A : Nat → Nat → Int32} {N : Nat} {a k g n b p : Int32} (hl : 46 ≤ h.length) (hb : b ≠ 0) : (∀ x y z, f_X12_leg_103 N 27 x y z (mp h (mK I a k g n b p) A) = some (mp h (mK I a k g n b p) A)) ∧ (∀ x y z, f_X12_leg_75 N 27 x y z (mp h (mK I a k g n b p) A) = some (mp h (mK I a k g n b p) A)) ∧ (∀ x y, f_X12_leg_56 N 27 x y (mp h (mK I a k g n b p) A) = some (mp h (mK I a k g n b p) A)) ∧ (∀ x, f_X12_leg_37 N 27 x (mp h (mK I a k g n b p) A) = some (mp h (mK I a k g n b p) A)) ∧ f_X12_leg_19 N 27 (mp h (mK I a k g n b p) A) = some (mp h (mK I a k g n b p) A) := by
  have a1 : ∀ x y z, f_X12_leg_116 N 27 x y z (mp h (mK I a k g n b p) A) = some (mp h (mK I a k g n b p) A) := fun x y z => bS (x9 hl) (iF hb rfl)
  have a2 : ∀ x y z, f_X12_leg_103 N 27 x y z (mp h (mK I a k g n b p) A) = some (mp h (mK I a k g n b p) A) := fun x y z => bS (x9 hl) (iF hb (a1 x y z))
  have a3 : ∀ x y z, f_X12_leg_75 N 27 x y z (mp h (mK I a k g n b p) A) = some (mp h (mK I a k g n b p) A) := fun x y z => bS (x9 hl) (iF hb (a2 x y z))
  have a4 : ∀ x y, f_X12_leg_56 N 27 x y (mp h (mK I a k g n b p) A) = some (mp h (mK I a k g n b p) A) := fun x y => bS (x9 hl) (iF hb (a3 x y 0))
  have a5 : ∀ x, f_X12_leg_37 N 27 x (mp h (mK I a k g n b p) A) = some (mp h (mK I a k g n b p) A) := fun x => bS (x9 hl) (iF hb (a4 x 0))
  exact ⟨a2, a3, a4, a5, bS (x9 hl) (iF hb (a5 0))⟩
section stl
variable {h : zH} {K : Nat → Int32} {KR : Nat → Option Nat} {KA : Nat → Nat → Int32} {KP : Nat → Option Nat} {I : Nat → Int32} {A : Nat → Nat → Int32} {N t q e fc : Nat} {T : Nat → Nat} {R f8 hd : Nat → Int32} {n s m : Int32}
theorem b_leg (hl : 46 ≤ h.length) (hN : 1100 ≤ N) (wc : tpC K KA T t) (wm : tpM I A T t) (hKR : KR 1 = some (h.length + 0)) (di : DI R fc f8 hd) (he : e ≤ t) :
    OutF N h K KR KA KP I A (f_X5_readLeg N 1 (nI q) (cp (h ++ dR h R (nI fc) f8) (rK K (nI e) n s 0 (-1)) KR KA KP)) (fun h1 => f_X12_leg N 27 (mp h1 (mK I (nI e) 1 (nI q) m 0 (-1)) (va_up (va_up A 21 R) 22 hd))) ∨
    OutS N h K KR KA KP I A t e (f_X5_readLeg N 1 (nI q) (cp (h ++ dR h R (nI fc) f8) (rK K (nI e) n s 0 (-1)) KR KA KP)) (fun h1 => f_X12_leg N 27 (mp h1 (mK I (nI e) 1 (nI q) m 0 (-1)) (va_up (va_up A 21 R) 22 hd))) := by
  obtain ⟨L, ts, d1, d2, d3, d4, d5, d6, d7, d8, d9, d10, d11, d12⟩ := id di
  have hlD : ∀ {D : List zE}, 46 ≤ (h ++ D).length := by intro D; rw [List.length_append]; omega
  have t1 := wc.2.1
  have wm' := wm.r R hd
  have eL : ∀ {K}, zgI (cp (h ++ dR h R (nI fc) f8) K KR KA KP) 6 (some (h.length + 0)) 4 = some (nI L) := (n_I hl (i := 0) rfl rfl).trans (congrArg some d3)
  by_cases hL : L = 4
  · left
    refine ⟨3, nI q, by decide, ⟨_, _, _, _, isDC_R h R (nI fc) f8, Or.inl (bS (c_dr hl hKR) (bS eL (iF (by rw [hL]; decide) (bS (ck1 hlD) (zS (c_refuse hlD) (iT (Or.inl rfl) rfl))))))⟩, nI e, 1, nI q, m, R, hd, fun h1 hl1 => ?_⟩
    exact bS (mg21 hl1) (bS ((lr (j := 1) hl1 (by omega)).trans (congrArg some d3)) (iT (by rw [hL]; rfl) (bS (x7 hl1) (bS (mck hl1) (bS (m_fail0 hl1) ((m_leg_bad hl1 (by decide)).2.2.2.2))))))
  have hL4 : L < 4 := by omega
  have mp0 : ∀ {h1 : zH} {X}, 46 ≤ h1.length → zb2 (f_X12_numberOf N 27 (1 : Int32) (12 : Int32) (mp h1 (mK I (nI e) 1 (nI q) m 0 (-1)) (va_up (va_up A 21 R) 22 hd))) (fun x2 h2 => f_X12_leg_37 N 27 x2 h2) = X → f_X12_leg N 27 (mp h1 (mK I (nI e) 1 (nI q) m 0 (-1)) (va_up (va_up A 21 R) 22 hd)) = X := fun hl1 hX => bS (mg21 hl1) (bS ((lr (j := 1) hl1 (by omega)).trans (congrArg some d3)) (iF (fun z => hL ((nI_eq (b := 4) (by omega) (by omega)).mp z)) (bS (x9 hl1) (iT rfl (bS (mck hl1) hX)))))
  rcases b_num (KR := KR) (KP := KP) hN wc wm' he (x := 1) (y := 12) (by omega) (by omega) 1 (nI q) m (-1) n s (-1) with ⟨e1, v1, q1, r1, r2', r3', r4', r5', r6', cn1, mn1⟩ | ⟨ft, P, f1, ⟨a, n', s', cn⟩, a', k', g', m', mn⟩
  case inr =>
    left
    refine ⟨ft, P, f1, ⟨_, _, _, _, isDC_R h R (nI fc) f8, Or.inl (bS (c_dr hl hKR) (bS eL (iT (nI_lt (b := 4) hL4 (by omega)) (bS (ck1 hlD) (zS (cn _ hlD) (iT rfl rfl))))))⟩, a', k', g', m', R, hd, fun h1 hl1 => mp0 hl1 (zS (mn h1 hl1) ((m_leg_bad hl1 f1).2.2.2.1 _))⟩
  rcases b_num (KR := KR) (KP := KP) hN wc wm' r1 (x := 1) (y := 6) (by omega) (by omega) 2 (nI q1) (nI v1) (-1) (nI v1) (nI q1) (-1) with ⟨e2, v2, q2, y1, y2, y3, y4, y5, y6, cn2, mn2⟩ | ⟨ft, P, f1, ⟨a, n', s', cn⟩, a', k', g', m', mn⟩
  case inr =>
    left
    refine ⟨ft, P, f1, ⟨_, _, _, _, isDC_R h R (nI fc) f8, Or.inl (bS (c_dr hl hKR) (bS eL (iT (nI_lt (b := 4) hL4 (by omega)) (bS (ck1 hlD) (zS (cn1 _ hlD) (iF (by decide) (bS (r3 hlD) (bS (ck1 hlD) (zS (cn _ hlD) (iT rfl rfl))))))))))⟩, a', k', g', m', R, hd, fun h1 hl1 => mp0 hl1 (zS (mn1 h1 hl1) (bS (x9 hl1) (iT rfl (bS (mck hl1) (zS (mn h1 hl1) ((m_leg_bad hl1 f1).2.2.1 _ _))))))⟩
  rcases b_num (KR := KR) (KP := KP) hN wc wm' y1 (x := 0) (y := 999999) (by omega) (by omega) 2 (nI q2) (nI v2) (-1) (nI v2) (nI q2) (-1) with ⟨e3, v3, q3, z1, z2, z3, z4, z5, z6, cn3, mn3⟩ | ⟨ft, P, f1, ⟨a, n', s', cn⟩, a', k', g', m', mn⟩
  case inr =>
    left
    refine ⟨ft, P, f1, ⟨_, _, _, _, isDC_R h R (nI fc) f8, Or.inl (bS (c_dr hl hKR) (bS eL (iT (nI_lt (b := 4) hL4 (by omega)) (bS (ck1 hlD) (zS (cn1 _ hlD) (iF (by decide) (bS (r3 hlD) (bS (ck1 hlD) (zS (cn2 _ hlD) (iF (by decide) (bS (r3 hlD) (bS (ck1 hlD) (zS (cn _ hlD) (iT rfl rfl))))))))))))))⟩, a', k', g', m', R, hd, fun h1 hl1 => mp0 hl1 (zS (mn1 h1 hl1) (bS (x9 hl1) (iT rfl (bS (mck hl1) (zS (mn2 h1 hl1) (bS (x9 hl1) (iT rfl (bS (mck hl1) (zS (mn h1 hl1) ((m_leg_bad hl1 f1).2.1 _ _ _))))))))))⟩
  have cpre : ∀ {X}, zb2 (f_X6_addLeg N (h.length + 0) (nI v1) (nI v2) (nI v3) (cp (h ++ dR h R (nI fc) f8) (rK K (nI e3) (nI v3) (nI q3) 0 (-1)) KR KA KP)) (fun x10 h4 => if x10 = 0 then (zgI h4 5 (some 1) 4).bind fun x11 => (zck h4 5 (some 1)).bind fun q5 => zb2 (f_X5_refuse N q5 (3 : Int32) x11 h4) fun x12 h5 => if x12 = 0 then some ((0 : Int32), h5) else some ((1 : Int32), h5) else some ((1 : Int32), h4)) = X → f_X5_readLeg N 1 (nI q) (cp (h ++ dR h R (nI fc) f8) (rK K (nI e) n s 0 (-1)) KR KA KP) = X := fun hX => bS (c_dr hl hKR) (bS eL (iT (nI_lt (b := 4) hL4 (by omega)) (bS (ck1 hlD) (zS (cn1 _ hlD) (iF (by decide) (bS (r3 hlD) (bS (ck1 hlD) (zS (cn2 _ hlD) (iF (by decide) (bS (r3 hlD) (bS (ck1 hlD) (zS (cn3 _ hlD) (iF (by decide) (bS (c_dr hl hKR) (bS (r3 hlD) (bS (c_dk hl) hX))))))))))))))))
  have mpre : ∀ {h1 : zH} {X}, 46 ≤ h1.length → f_X12_leg_75 N 27 (nI v1) (nI v2) (nI v3) (mp h1 (mK I (nI e3) 2 (nI q3) (nI v3) 0 (-1)) (va_up (va_up A 21 R) 22 hd)) = X → f_X12_leg N 27 (mp h1 (mK I (nI e) 1 (nI q) m 0 (-1)) (va_up (va_up A 21 R) 22 hd)) = X := fun hl1 hX => mp0 hl1 (zS (mn1 _ hl1) (bS (x9 hl1) (iT rfl (bS (mck hl1) (zS (mn2 _ hl1) (bS (x9 hl1) (iT rfl (bS (mck hl1) (zS (mn3 _ hl1) hX)))))))))
  by_cases hfc : v3 < fc
  · have m103 : ∀ {h1 : zH} {X}, 46 ≤ h1.length → (f_X12_sign N 27 (nI 59) (mp h1 (mK I (nI e3) 2 (nI q3) (nI v3) 0 (-1)) (va_up (va_up A 21 R) 22 hd))).bind (fun h1 => f_X12_leg_116 N 27 (nI v1) (nI v2) (nI v3) h1) = X → f_X12_leg_75 N 27 (nI v1) (nI v2) (nI v3) (mp h1 (mK I (nI e3) 2 (nI q3) (nI v3) 0 (-1)) (va_up (va_up A 21 R) 22 hd)) = X := fun hl1 hX => bS (x9 hl1) (iT rfl (bS (mg21 hl1) (bS ((lr (j := 14) hl1 (by omega)).trans (congrArg some d1)) (iT (nI_lt hfc (by omega)) (bS (x9 hl1) (iT rfl (bS (mck hl1) hX)))))))
    have ca := c_addLeg1 (N := N) (K := rK K (nI e3) (nI v3) (nI q3) 0 (-1)) (KR := KR) (KA := KA) (KP := KP) (x := nI v1) (y := nI v2) (f8 := f8) hl hL4 d3 hfc d2
    rcases b_sign (KR := KR) (KP := KP) hN wc wm' z1 (Or.inr rfl) 2 (nI q3) (nI v3) (-1) (nI v3) (nI q3) (-1) with ⟨qs, s1, s2, cs, m'', ms⟩ | ⟨ft, P, f1, ⟨a, cs⟩, a', k', g', m', ms⟩
    · right
      refine ⟨qs + 1, lgF R L (nI v1) (nI v2) (nI v3), f8, hd, fc, nI v3, nI q3, nI 59, nI qs, m'', by omega, by omega, ?_, ⟨_, cpre (zS ca (iF (by decide) rfl)), cs _ hlD⟩, fun h1 hl1 => mpre hl1 (m103 hl1 (bS (ms h1 hl1) (bS (x9 hl1) (iT rfl ?_))))⟩
      · have nu : ∀ p, p ≠ 1 → p ≠ 2 + 3 * L → p ≠ 3 + 3 * L → p ≠ 4 + 3 * L → lgF R L (nI v1) (nI v2) (nI v3) p = R p := fun p u1 u2 u3 u4 => by
          unfold lgF; rw [up_ne _ _ u1, up_ne _ _ u4, up_ne _ _ u3, up_ne _ _ u2]
        refine ⟨L + 1, ts, by rw [nu _ (by omega) (by omega) (by omega) (by omega)]; exact d1, d2, up_at _ _ _, by omega, by rw [nu _ (by omega) (by omega) (by omega) (by omega)]; exact d5, d6, fun l hl => ?_, fun f hf => ?_, fun f hf1 hf2 => ?_, fun t ht => ?_, fun i hi => ?_, fun i hi => ?_⟩
        · by_cases hlL : l = L
          · subst hlL
            unfold lgF
            rw [up_ne _ _ (show 2 + 3 * l ≠ 1 by omega), up_ne _ _ (by omega), up_ne _ _ (by omega), up_at, up_ne _ _ (show 3 + 3 * l ≠ 1 by omega), up_ne _ _ (by omega), up_at, up_ne _ _ (show 4 + 3 * l ≠ 1 by omega), up_at]
            exact ⟨⟨v1, rfl, r4', r5'⟩, ⟨v2, rfl, y4, y5⟩, v3, rfl, hfc⟩
          · rw [nu _ (by omega) (by omega) (by omega) (by omega), nu _ (by omega) (by omega) (by omega) (by omega), nu _ (by omega) (by omega) (by omega) (by omega)]
            exact d7 l (by omega)
        · obtain ⟨ln, u1, u2, u3, u4⟩ := d8 f hf
          refine ⟨ln, by rw [nu _ (by omega) (by omega) (by omega) (by omega)]; exact u1, u2, u3, fun k hk => ?_⟩
          rw [nu _ (by omega) (by omega) (by omega) (by omega), nu _ (by omega) (by omega) (by omega) (by omega)]
          exact u4 k hk
        · rw [nu _ (by omega) (by omega) (by omega) (by omega)]; exact d9 f hf1 hf2
        · rw [nu _ (by omega) (by omega) (by omega) (by omega)]; exact d10 t ht
        · rw [nu _ (by omega) (by omega) (by omega) (by omega)]; exact d11 i hi
        · rw [nu _ (by omega) (by omega) (by omega) (by omega)]; exact d12 i hi
      · have l1 : ∀ {R' : Nat → Int32}, R' 1 = R 1 → zld (mp h1 (mK I (nI (qs + 1)) (nI 59) (nI qs) m'' 0 (-1)) (va_up (va_up A 21 R') 22 hd)) 0 (some 38) (1 : Int32) = some (nI L) := fun hR => (lr (j := 1) hl1 (by omega)).trans (by rw [hR, d3])
        refine bS (mg21 hl1) (bS (mg21 hl1) (bS (l1 rfl) ?_))
        rw [lm_l, la_l]
        refine bS (sr hl1 (by omega)) (bS (mg21 hl1) (bS (mg21 hl1) (bS (l1 (up_ne _ _ (by omega))) ?_)))
        rw [lm_l, la_l, la_r]
        refine bS (sr hl1 (by omega)) (bS (mg21 hl1) (bS (mg21 hl1) (bS (l1 (by rw [up_ne _ _ (by omega), up_ne _ _ (by omega)])) ?_)))
        rw [lm_l, la_l, la_r]
        refine bS (sr hl1 (by omega)) (bS (mg21 hl1) (bS (l1 (by rw [up_ne _ _ (by omega), up_ne _ _ (by omega), up_ne _ _ (by omega)])) ?_))
        rw [la_r]
        refine bS (sr (j := 1) hl1 (by omega)) ?_
        unfold lgF
        rw [show 2 + 3 * L + 1 = 3 + 3 * L by omega, show 2 + 3 * L + 2 = 4 + 3 * L by omega]
    · left
      exact ⟨ft, P, f1, ⟨_, _, _, _, isDC_R h (lgF R L (nI v1) (nI v2) (nI v3)) (nI fc) f8, Or.inr ⟨_, cpre (zS ca (iF (by decide) rfl)), cs _ hlD⟩⟩, a', k', g', m', R, hd, fun h1 hl1 => mpre hl1 (m103 hl1 (bS (ms h1 hl1) (bS (x9 hl1) (iF f1 rfl))))⟩
  · left
    have ca := c_addLeg0 (N := N) (K := rK K (nI e3) (nI v3) (nI q3) 0 (-1)) (KR := KR) (KA := KA) (KP := KP) (x := nI v1) (y := nI v2) (f8 := f8) (c := fc) (f := v3) hl hL4 d3 (by omega) (by omega)
    refine ⟨3, nI q3, by decide, ⟨_, _, _, _, isDC_R h R (nI fc) f8, Or.inl (cpre (zS ca (iT rfl (bS (r4 hlD) (bS (ck1 hlD) (zS (c_refuse hlD) (iT rfl rfl)))))))⟩, nI e3, 2, nI q3, nI v3, R, hd, fun h1 hl1 => mpre hl1 (bS (x9 hl1) (iT rfl (bS (mg21 hl1) (bS ((lr (j := 14) hl1 (by omega)).trans (congrArg some d1)) (iF (nI_nlt (by omega) (by omega)) (bS (x7 hl1) (bS (mck hl1) (bS (m_fail0 hl1) ((m_leg_bad hl1 (by decide)).1 _ _ _)))))))))⟩
end stl
