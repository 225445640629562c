/-! ===== round: ties, and what is said once ===== -/
theorem m_tie_bad {h : zH} {I : Nat → Int32} {A : Nat → Nat → Int32} {N : Nat} {a k g n b p : Int32} (hl : 46 ≤ h.length) (hb : b ≠ 0) : (∀ x, f_X12_tie_74 N 27 x (mp h (mK I a k g n b p) A) = some (mp h (mK I a k g n b p) A)) ∧ ∀ x, f_X12_tie_53 N 27 x (mp h (mK I a k g n b p) A) = some (mp h (mK I a k g n b p) A) := by
  have a1 : ∀ x, f_X12_tie_87 N 27 x (mp h (mK I a k g n b p) A) = some (mp h (mK I a k g n b p) A) := fun x => bS (x9 hl) (iF hb rfl)
  have a2 : ∀ x, f_X12_tie_74 N 27 x (mp h (mK I a k g n b p) A) = some (mp h (mK I a k g n b p) A) := fun x => bS (x9 hl) (iF hb (a1 x))
  refine ⟨a2, fun x => ?_⟩
  unfold f_X12_tie_53
  by_cases hx : x = 0
  · exact iT hx (bS (x9 hl) (iF hb (a2 x)))
  · exact iF hx (a2 x)
section stt
variable {h : zH} {K : Nat → Int32} {KR : Nat → Option Nat} {KA : Nat → Nat → Int32} {KP : Nat → Option Nat} {I : Nat → Int32} {A : Nat → Nat → Int32} {N t q e fc : Nat} {T : Nat → Nat} {R f8 hd : Nat → Int32} {n s m : Int32}
/-- the class's tie statement behind its word -/
def cTie (N : Nat) (q : Int32) (sort : Nat) (X : zH) : Option (Int32 × zH) := zb2 (f_X5_mayTie N 1 q X) fun x h1 => if x = 0 then some ((0 : Int32), h1) else (zgR h1 5 (some 1) 1).bind fun x2 => (zck h1 6 x2).bind fun q2 => zb2 (f_X6_addTie N q2 (nI sort) h1) fun x3 h2 => if x3 = 0 then some ((0 : Int32), h2) else some ((1 : Int32), h2)
def cMost (N : Nat) (q : Int32) (X : zH) : Option (Int32 × zH) := zb2 (f_X5_mayTie N 1 q X) fun x20 h18 => if x20 = 0 then some ((0 : Int32), h18) else (zck h18 5 (some 1)).bind fun q19 => zb2 (f_X5_readNumber N q19 (0 : Int32) (20 : Int32) h18) fun x21 h19 => if x21 = 0 then some ((0 : Int32), h19) else (zgR h19 5 (some 1) 1).bind fun x22 => (zgI h19 5 (some 1) 3).bind fun x23 => (zck h19 6 x22).bind fun q20 => zb2 (f_X6_addTie N q20 x23 h19) fun x24 h20 => if x24 = 0 then some ((0 : Int32), h20) else some ((1 : Int32), h20)
theorem c_may1 (hl : 46 ≤ h.length) (hKR : KR 1 = some (h.length + 0)) {ts : Nat} (hR : R 115 = nI ts) (hc : cnT R ts) {fcI : Int32} {K' : Nat → Int32} {x : Int32} : f_X5_mayTie N 1 x (cp (h ++ dR h R fcI f8) K' KR KA KP) = some (1, cp (h ++ dR h R fcI f8) K' KR KA KP) := by
  have h6 := hc.1
  obtain ⟨v, v1, v2⟩ := c_canTie (N := N) (K := K') (KR := KR) (KA := KA) (KP := KP) (fc := fcI) (f8 := f8) hl hR (by omega)
  exact bS (c_dr hl hKR) (bS (c_dk hl) (bS v1 (iF (fun z => v2.mp z hc) rfl)))
theorem c_may0 (hl : 46 ≤ h.length) (hKR : KR 1 = some (h.length + 0)) {ts : Nat} (hR : R 115 = nI ts) (h6 : ts ≤ 6) (hc : ¬ cnT R ts) {fcI a f pl x : Int32} : f_X5_mayTie N 1 x (cp (h ++ dR h R fcI f8) (rK K a n s f pl) KR KA KP) = some (0, cp (h ++ dR h R fcI f8) (rK K a n s 3 x) KR KA KP) := by
  obtain ⟨v, v1, v2⟩ := c_canTie (N := N) (K := rK K a n s f pl) (KR := KR) (KA := KA) (KP := KP) (fc := fcI) (f8 := f8) hl hR h6
  have hlD : ∀ {D : List zE}, 46 ≤ (h ++ D).length := by intro D; rw [List.length_append]; omega
  exact bS (c_dr hl hKR) (bS (c_dk hl) (bS v1 (iT (v2.mpr hc) (bS (ck1 hlD) (zS (c_refuse hlD) (iT rfl rfl))))))
theorem m_tie1 {ts : Nat} {sort : Int32} {h1 : zH} {a k g mm b p : Int32} (hl1 : 46 ≤ h1.length) (hR : R 115 = nI ts) (h6 : ts ≤ 6) (hc : cnT R ts) : f_X12_tie N 27 sort (mp h1 (mK I a k g mm b p) (va_up (va_up A 21 R) 22 hd)) = f_X12_tie_53 N 27 sort (mp h1 (mK I a k g mm b p) (va_up (va_up A 21 R) 22 hd)) := by
  have l5 : zld (mp h1 (mK I a k g mm b p) (va_up (va_up A 21 R) 22 hd)) 0 (some 38) (115 : Int32) = some (nI ts) := (lr (j := 115) hl1 (by omega)).trans (congrArg some hR)
  refine bS (mg21 hl1) (bS l5 (iF (fun z => by have := (nI_eq (b := 6) (by omega) (by omega)).mp z; have := hc.1; omega) (bS (mg21 hl1) (bS l5 ?_))))
  by_cases h0 : ts = 0
  · exact iT (by rw [h0]; decide) rfl
  · refine iF (nI_nle (by omega) (by omega)) (bS (mg21 hl1) (bS (mg21 hl1) (bS l5 ?_)))
    rw [la_l, show nI (116 + ts) - (1 : Int32) = nI (116 + (ts - 1)) from (pk_sub (b := 1) (by omega)).trans (congrArg nI (by omega))]
    exact bS (lr hl1 (by have := hc.1; omega)) (iF (hc.2.resolve_left h0) rfl)
theorem m_tie0 {ts : Nat} {sort : Int32} {h1 : zH} {a k g mm p : Int32} (hl1 : 46 ≤ h1.length) (hR : R 115 = nI ts) (h6 : ts ≤ 6) (hc : ¬ cnT R ts) : f_X12_tie N 27 sort (mp h1 (mK I a k g mm 0 p) (va_up (va_up A 21 R) 22 hd)) = some (mp h1 (mK I a k g mm 3 g) (va_up (va_up A 21 R) 22 hd)) := by
  have l5 : zld (mp h1 (mK I a k g mm 0 p) (va_up (va_up A 21 R) 22 hd)) 0 (some 38) (115 : Int32) = some (nI ts) := (lr (j := 115) hl1 (by omega)).trans (congrArg some hR)
  have t44 : f_X12_tie_44 N 27 sort (mp h1 (mK I a k g mm 0 p) (va_up (va_up A 21 R) 22 hd)) = some (mp h1 (mK I a k g mm 3 g) (va_up (va_up A 21 R) 22 hd)) := bS (x7 hl1) (bS (mck hl1) (bS (m_fail0 hl1) ((m_tie_bad hl1 (by decide)).2 _)))
  refine bS (mg21 hl1) (bS l5 ?_)
  by_cases c6 : ts = 6
  · exact iT (by rw [c6]; rfl) t44
  · refine iF (fun z => c6 ((nI_eq (b := 6) (by omega) (by omega)).mp z)) (bS (mg21 hl1) (bS l5 ?_))
    have h0 : ts ≠ 0 := fun z => hc ⟨by omega, Or.inl z⟩
    refine iF (nI_nle (by omega) (by omega)) (bS (mg21 hl1) (bS (mg21 hl1) (bS l5 ?_)))
    rw [la_l, show nI (116 + ts) - (1 : Int32) = nI (116 + (ts - 1)) from (pk_sub (b := 1) (by omega)).trans (congrArg nI (by omega))]
    exact bS (lr hl1 (by omega)) (iT (Classical.not_not.mp (fun z => hc ⟨by omega, Or.inr z⟩)) t44)
theorem m_tie87 {ts : Nat} {x : Int32} {h1 : zH} {a k g mm p : Int32} (hl1 : 46 ≤ h1.length) (hR : R 115 = nI ts) (h6 : ts < 6) : f_X12_tie_87 N 27 x (mp h1 (mK I a k g mm 0 p) (va_up (va_up A 21 R) 22 hd)) = some (mp h1 (mK I a k g mm 0 p) (va_up (va_up A 21 (tiF R ts x)) 22 hd)) := by
  refine bS (x9 hl1) (iT rfl (bS (mg21 hl1) (bS (mg21 hl1) (bS ((lr (j := 115) hl1 (by omega)).trans (congrArg some hR)) ?_))))
  rw [la_l]
  refine bS (sr hl1 (by omega)) (bS (mg21 hl1) (bS ((lr (j := 115) hl1 (by omega)).trans (by rw [up_ne _ _ (by omega), hR])) ?_))
  rw [la_r]
  exact bS (sr (j := 115) hl1 (by omega)) rfl
theorem DI.tie {ts x : Nat} (di : DI R fc f8 hd) (hR : R 115 = nI ts) (h6 : ts < 6) (hx : x ≤ 22) : DI (tiF R ts (nI x)) fc f8 hd := by
  obtain ⟨L, ts', d1, d2, d3, d4, d5, d6, d7, d8, d9, d10, d11, d12⟩ := di
  have : ts' = ts := (nI_eq (by omega) (by omega)).mp (d5.symm.trans hR)
  subst this
  have nu : ∀ p, p ≠ 115 → p ≠ 116 + ts' → tiF R ts' (nI x) p = R p := fun p u1 u2 => by unfold tiF; rw [up_ne _ _ u1, up_ne _ _ u2]
  refine ⟨L, ts' + 1, by rw [nu _ (by omega) (by omega)]; exact d1, d2, by rw [nu _ (by omega) (by omega)]; exact d3, d4, up_at _ _ _, by omega, fun l hl => ?_, fun f hf => ?_, fun f hf1 hf2 => ?_, fun t ht => ?_, fun i hi => ?_, fun i hi => ?_⟩
  · rw [nu _ (by omega) (by omega), nu _ (by omega) (by omega), nu _ (by omega) (by omega)]
    exact d7 l hl
  · obtain ⟨ln, u1, u2, u3, u4⟩ := d8 f hf
    refine ⟨ln, by rw [nu _ (by omega) (by omega)]; exact u1, u2, u3, fun k hk => ?_⟩
    rw [nu _ (by omega) (by omega), nu _ (by omega) (by omega)]
    exact u4 k hk
  · rw [nu _ (by omega) (by omega)]; exact d9 f hf1 hf2
  · by_cases c : t = ts'
    · subst c
      exact ⟨x, by unfold tiF; rw [up_ne _ _ (by omega), up_at], hx⟩
    · rw [nu _ (by omega) (by omega)]; exact d10 t (by omega)
  · rw [nu _ (by omega) (by omega)]; exact d11 i hi
  · rw [nu _ (by omega) (by omega)]; exact d12 i hi
theorem b_tie (hl : 46 ≤ h.length) (hN : 1100 ≤ N) (wc : tpC K KA T t) (wm : tpM I A T t) (hKR : KR 1 = some (h.length + 0)) (di : DI R fc f8 hd) (he : e ≤ t) {sort : Nat} (hs : sort = 21 ∨ sort = 22) :
    OutF N h K KR KA KP I A (cTie N (nI q) sort (cp (h ++ dR h R (nI fc) f8) (rK K (nI e) n s 0 (-1)) KR KA KP)) (fun h1 => f_X12_tie N 27 (nI sort) (mp h1 (mK I (nI e) 1 (nI q) m 0 (-1)) (va_up (va_up A 21 R) 22 hd))) ∨
    OutS N h K KR KA KP I A t e (cTie N (nI q) sort (cp (h ++ dR h R (nI fc) f8) (rK K (nI e) n s 0 (-1)) KR KA KP)) (fun h1 => f_X12_tie N 27 (nI sort) (mp h1 (mK I (nI e) 1 (nI q) m 0 (-1)) (va_up (va_up A 21 R) 22 hd))) := by
  obtain ⟨L, ts, d1, d2, d3, d4, d5, d6, d7, d8, d9, d10, d11, d12⟩ := id di
  have hlD : ∀ {D : List zE}, 46 ≤ (h ++ D).length := by intro D; rw [List.length_append]; omega
  have wm' := wm.r R hd
  by_cases hc : cnT R ts
  · have h6 := hc.1
    have ca := c_addTie (N := N) (K := rK K (nI e) n s 0 (-1)) (KR := KR) (KA := KA) (KP := KP) (x := nI sort) (fc := nI fc) (f8 := f8) hl d5 hc
    have cp1 : cTie N (nI q) sort (cp (h ++ dR h R (nI fc) f8) (rK K (nI e) n s 0 (-1)) KR KA KP) = some (1, cp (h ++ dR h (tiF R ts (nI sort)) (nI fc) f8) (rK K (nI e) n s 0 (-1)) KR KA KP) := zS (c_may1 hl hKR d5 hc) (iF (by decide) (bS (c_dr hl hKR) (bS (c_dk hl) (zS ca (iF (by decide) rfl)))))
    have m53 : ∀ {h1 : zH} {X}, 46 ≤ h1.length → (f_X12_sign N 27 (nI 59) (mp h1 (mK I (nI e) 1 (nI q) m 0 (-1)) (va_up (va_up A 21 R) 22 hd))).bind (fun h1 => f_X12_tie_87 N 27 (nI sort) h1) = X → f_X12_tie N 27 (nI sort) (mp h1 (mK I (nI e) 1 (nI q) m 0 (-1)) (va_up (va_up A 21 R) 22 hd)) = X := fun hl1 hX => (m_tie1 hl1 d5 d6 hc).trans (iF (by rcases hs with z | z <;> rw [z] <;> decide) (bS (x9 hl1) (iT rfl (bS (mck hl1) hX))))
    rcases b_sign (KR := KR) (KP := KP) hN wc wm' he (Or.inr rfl) 1 (nI q) m (-1) n s (-1) with ⟨qs, s1, s2, cs, m'', ms⟩ | ⟨ft, P, f1, ⟨a, cs⟩, a', k', g', m', ms⟩
    · right
      exact ⟨qs + 1, tiF R ts (nI sort), f8, hd, fc, n, s, nI 59, nI qs, m'', by omega, by omega, di.tie d5 h6 (by omega), ⟨_, cp1, cs _ hlD⟩, fun h1 hl1 => m53 hl1 (bS (ms h1 hl1) (m_tie87 hl1 d5 h6))⟩
    · left
      exact ⟨ft, P, f1, ⟨_, _, _, _, isDC_R h (tiF R ts (nI sort)) (nI fc) f8, Or.inr ⟨_, cp1, cs _ hlD⟩⟩, a', k', g', m', R, hd, fun h1 hl1 => m53 hl1 (bS (ms h1 hl1) (bS (x9 hl1) (iF f1 rfl)))⟩
  · left
    exact ⟨3, nI q, by decide, ⟨_, _, _, _, isDC_R h R (nI fc) f8, Or.inl (zS (c_may0 hl hKR d5 d6 hc) (iT rfl rfl))⟩, nI e, 1, nI q, m, R, hd, fun h1 hl1 => m_tie0 hl1 d5 d6 hc⟩
theorem b_most (hl : 46 ≤ h.length) (hN : 1100 ≤ N) (wc : tpC K KA T t) (wm : tpM I A T t) (hKR : KR 1 = some (h.length + 0)) (di : DI R fc f8 hd) (he : e ≤ t) :
    OutF N h K KR KA KP I A (cMost N (nI q) (cp (h ++ dR h R (nI fc) f8) (rK K (nI e) n s 0 (-1)) KR KA KP)) (fun h1 => f_X12_tie N 27 (0 : Int32) (mp h1 (mK I (nI e) 1 (nI q) m 0 (-1)) (va_up (va_up A 21 R) 22 hd))) ∨
    OutS N h K KR KA KP I A t e (cMost N (nI q) (cp (h ++ dR h R (nI fc) f8) (rK K (nI e) n s 0 (-1)) KR KA KP)) (fun h1 => f_X12_tie N 27 (0 : Int32) (mp h1 (mK I (nI e) 1 (nI q) m 0 (-1)) (va_up (va_up A 21 R) 22 hd))) := by
  obtain ⟨L, ts, d1, d2, d3, d4, d5, d6, d7, d8, d9, d10, d11, d12⟩ := id di
  have hlD : ∀ {D : List zE}, 46 ≤ (h ++ D).length := by intro D; rw [List.length_append]; omega
  have wm' := wm.r R hd
  by_cases hc : cnT R ts
  · have h6 := hc.1
    have m53 : ∀ {h1 : zH} {X}, 46 ≤ h1.length → zb2 (f_X12_numberOf N 27 (0 : Int32) (20 : Int32) (mp h1 (mK I (nI e) 1 (nI q) m 0 (-1)) (va_up (va_up A 21 R) 22 hd))) (fun x2 h1 => f_X12_tie_74 N 27 x2 h1) = X → f_X12_tie N 27 (0 : Int32) (mp h1 (mK I (nI e) 1 (nI q) m 0 (-1)) (va_up (va_up A 21 R) 22 hd)) = X := fun hl1 hX => (m_tie1 hl1 d5 d6 hc).trans (iT rfl (bS (x9 hl1) (iT rfl (bS (mck hl1) hX))))
    rcases b_num (KR := KR) (KP := KP) hN wc wm' he (x := 0) (y := 20) (by omega) (by omega) 1 (nI q) m (-1) n s (-1) with ⟨e1, v1, q1, r1, r2', r3', r4', r5', r6', cn1, mn1⟩ | ⟨ft, P, f1, ⟨a, n', s', cn⟩, a', k', g', m', mn⟩
    case inr =>
      left
      exact ⟨ft, P, f1, ⟨_, _, _, _, isDC_R h R (nI fc) f8, Or.inl (zS (c_may1 hl hKR d5 hc) (iF (by decide) (bS (ck1 hlD) (zS (cn _ hlD) (iT rfl rfl)))))⟩, a', k', g', m', R, hd, fun h1 hl1 => m53 hl1 (zS (mn h1 hl1) ((m_tie_bad hl1 f1).1 _))⟩
    have ca := c_addTie (N := N) (K := rK K (nI e1) (nI v1) (nI q1) 0 (-1)) (KR := KR) (KA := KA) (KP := KP) (x := nI v1) (fc := nI fc) (f8 := f8) hl d5 hc
    have cp1 : cMost N (nI q) (cp (h ++ dR h R (nI fc) f8) (rK K (nI e) n s 0 (-1)) KR KA KP) = some (1, cp (h ++ dR h (tiF R ts (nI v1)) (nI fc) f8) (rK K (nI e1) (nI v1) (nI q1) 0 (-1)) KR KA KP) := zS (c_may1 hl hKR d5 hc) (iF (by decide) (bS (ck1 hlD) (zS (cn1 _ hlD) (iF (by decide) (bS (c_dr hl hKR) (bS (r3 hlD) (bS (c_dk hl) (zS ca (iF (by decide) rfl)))))))))
    rcases b_sign (KR := KR) (KP := KP) hN wc wm' r1 (Or.inr rfl) 2 (nI q1) (nI v1) (-1) (nI v1) (nI q1) (-1) with ⟨qs, s1, s2, cs, m'', ms⟩ | ⟨ft, P, f1, ⟨a, cs⟩, a', k', g', m', ms⟩
    · right
      exact ⟨qs + 1, tiF R ts (nI v1), f8, hd, fc, nI v1, nI q1, nI 59, nI qs, m'', by omega, by omega, di.tie d5 h6 (by omega), ⟨_, cp1, cs _ hlD⟩, fun h1 hl1 => m53 hl1 (zS (mn1 h1 hl1) (bS (x9 hl1) (iT rfl (bS (mck hl1) (bS (ms h1 hl1) (m_tie87 hl1 d5 h6))))))⟩
    · left
      exact ⟨ft, P, f1, ⟨_, _, _, _, isDC_R h (tiF R ts (nI v1)) (nI fc) f8, Or.inr ⟨_, cp1, cs _ hlD⟩⟩, a', k', g', m', R, hd, fun h1 hl1 => m53 hl1 (zS (mn1 h1 hl1) (bS (x9 hl1) (iT rfl (bS (mck hl1) (bS (ms h1 hl1) (bS (x9 hl1) (iF f1 rfl)))))))⟩
  · left
    exact ⟨3, nI q, by decide, ⟨_, _, _, _, isDC_R h R (nI fc) f8, Or.inl (zS (c_may0 hl hKR d5 d6 hc) (iT rfl rfl))⟩, nI e, 1, nI q, m, R, hd, fun h1 hl1 => m_tie0 hl1 d5 d6 hc⟩
theorem b_once (hl : 46 ≤ h.length) (hN : 1100 ≤ N) (wc : tpC K KA T t) (wm : tpM I A T t) (hKR : KR 1 = some (h.length + 0)) (di : DI R fc f8 hd) (he : e ≤ t) {i y : Nat} (hi : i < 3) (hy : y ≤ 100) :
    OutF N h K KR KA KP I A (f_X5_readOnce N 1 (nI q) (nI i) (nI y) (cp (h ++ dR h R (nI fc) f8) (rK K (nI e) n s 0 (-1)) KR KA KP)) (fun h1 => f_X12_once N 27 (nI i) (nI (122 + i)) (nI y) (mp h1 (mK I (nI e) 1 (nI q) m 0 (-1)) (va_up (va_up A 21 R) 22 hd))) ∨
    OutS N h K KR KA KP I A t e (f_X5_readOnce N 1 (nI q) (nI i) (nI y) (cp (h ++ dR h R (nI fc) f8) (rK K (nI e) n s 0 (-1)) KR KA KP)) (fun h1 => f_X12_once N 27 (nI i) (nI (122 + i)) (nI y) (mp h1 (mK I (nI e) 1 (nI q) m 0 (-1)) (va_up (va_up A 21 R) 22 hd))) := by
  obtain ⟨L, ts, d1, d2, d3, d4, d5, d6, d7, d8, d9, d10, d11, d12⟩ := id di
  have hlD : ∀ {D : List zE}, 46 ≤ (h ++ D).length := by intro D; rw [List.length_append]; omega
  have wm' := wm.r R (upd hd i 1)
  have cs0 := fun (K' : Nat → Int32) => c_isSet (N := N) (h := h) (K := K') (KR := KR) (KA := KA) (KP := KP) (R := R) (fc := nI fc) (f8 := f8) hl hi
  obtain ⟨ov, o1, o2⟩ := d11 i hi
  have vb : vp_nar .boolean (1 : Int32) = 1 := by decide
  have o18 : ∀ {h1 : zH} {a k g mm b p : Int32} {X}, 46 ≤ h1.length → ((zgI (mp h1 (mK I a k g mm b p) (va_up (va_up A 21 R) 22 (upd hd i 1))) 12 (some 27) 9).bind fun x2 => if x2 = 0 then (zgR (mp h1 (mK I a k g mm b p) (va_up (va_up A 21 R) 22 (upd hd i 1))) 12 (some 27) 21).bind fun x3 => (zck (mp h1 (mK I a k g mm b p) (va_up (va_up A 21 R) 22 (upd hd i 1))) 12 (some 27)).bind fun q1 => zb2 (f_X12_numberOf N q1 (0 : Int32) (nI y) (mp h1 (mK I a k g mm b p) (va_up (va_up A 21 R) 22 (upd hd i 1)))) fun x4 h2 => (zst h2 0 x3 (nI (122 + i)) x4).bind fun h3 => f_X12_once_44 N 27 h3 else f_X12_once_44 N 27 (mp h1 (mK I a k g mm b p) (va_up (va_up A 21 R) 22 (upd hd i 1)))) = X → f_X12_once_18 N 27 (nI i) (nI (122 + i)) (nI y) (mp h1 (mK I a k g mm b p) (va_up (va_up A 21 R) 22 hd)) = X := by
    intro h1 a k g mm b p X hl1 hX
    unfold f_X12_once_18
    rw [vb]
    exact bS (mg22 hl1) (bS (sh_ hl1 hi) hX)
  rcases d12 i hi with ⟨f1, f2, f3⟩ | ⟨f1, f2⟩
  · have mo : ∀ {h1 : zH} {X}, 46 ≤ h1.length → zb2 (f_X12_numberOf N 27 (nI 0) (nI y) (mp h1 (mK I (nI e) 1 (nI q) m 0 (-1)) (va_up (va_up A 21 R) 22 (upd hd i 1)))) (fun x4 h2 => (zst h2 0 (some 38) (nI (122 + i)) x4).bind fun h3 => f_X12_once_44 N 27 h3) = X → f_X12_once N 27 (nI i) (nI (122 + i)) (nI y) (mp h1 (mK I (nI e) 1 (nI q) m 0 (-1)) (va_up (va_up A 21 R) 22 hd)) = X := fun hl1 hX => bS (mg22 hl1) (bS ((lh hl1 hi).trans (congrArg some f2)) (iT rfl (o18 hl1 (bS (x9 hl1) (iT rfl (bS (mg21 hl1) (bS (mck hl1) hX)))))))
    rcases b_num (KR := KR) (KP := KP) hN wc wm' he (x := 0) (y := y) (by omega) (by omega) 1 (nI q) m (-1) n s (-1) with ⟨e1, v1, q1, r1, r2', r3', r4', r5', r6', cn1, mn1⟩ | ⟨ft, P, f1', ⟨a, n', s', cn⟩, a', k', g', m', mn⟩
    case inr =>
      left
      refine ⟨ft, P, f1', ⟨_, _, _, _, isDC_R h R (nI fc) f8, Or.inl (bS (c_dr hl hKR) (bS (c_dk hl) (bS ((cs0 _).trans (if_pos f1)) (iT rfl (bS (ck1 hlD) (zS (cn _ hlD) (iT rfl rfl)))))))⟩, a', k', g', m', upd R (122 + i) m', upd hd i 1, fun h1 hl1 => mo hl1 (zS (mn h1 hl1) (bS (sr hl1 (by omega)) (bS (x9 hl1) (iF f1' rfl))))⟩
    have ca := c_set (N := N) (h := h) (K := rK K (nI e1) (nI v1) (nI q1) 0 (-1)) (KR := KR) (KA := KA) (KP := KP) (R := R) (fc := nI fc) (f8 := f8) (x := nI v1) hl hi
    have dRe : dR h (upd R (122 + i) (nI v1)) (nI fc) (upd f8 i (nI v1)) = dR h R (nI fc) (upd f8 i (nI v1)) := by
      unfold dR
      rw [up_ne _ _ (by omega), up_ne _ _ (by omega), vw_out (by omega), vw_out (by omega), vw_out (by omega), vw3_out (fun l hl => by omega), vw3_out (fun l hl => by omega), vw3_out (fun l hl => by omega), vw_out (by omega)]
    have cp1 : f_X5_readOnce N 1 (nI q) (nI i) (nI y) (cp (h ++ dR h R (nI fc) f8) (rK K (nI e) n s 0 (-1)) KR KA KP) = some (1, cp (h ++ dR h (upd R (122 + i) (nI v1)) (nI fc) (upd f8 i (nI v1))) (rK K (nI e1) (nI v1) (nI q1) 0 (-1)) KR KA KP) := by
      rw [dRe]
      exact bS (c_dr hl hKR) (bS (c_dk hl) (bS ((cs0 _).trans (if_pos f1)) (iT rfl (bS (ck1 hlD) (zS (cn1 _ hlD) (iF (by decide) (bS (c_dr hl hKR) (bS (r3 hlD) (bS (c_dk hl) (zS ca (iF (by decide) rfl)))))))))))
    have wm2 := wm.r (upd R (122 + i) (nI v1)) (upd hd i 1)
    rcases b_sign (KR := KR) (KP := KP) hN wc wm2 r1 (Or.inr rfl) 2 (nI q1) (nI v1) (-1) (nI v1) (nI q1) (-1) with ⟨qs, s1, s2, cs, m'', ms⟩ | ⟨ft, P, f1', ⟨a, cs⟩, a', k', g', m', ms⟩
    · right
      refine ⟨qs + 1, upd R (122 + i) (nI v1), upd f8 i (nI v1), upd hd i 1, fc, nI v1, nI q1, nI 59, nI qs, m'', by omega, by omega, ?_, ⟨_, cp1, cs _ hlD⟩, fun h1 hl1 => mo hl1 (zS (mn1 h1 hl1) (bS (sr hl1 (by omega)) (bS (x9 hl1) (iT rfl (bS (mck hl1) (bS (ms h1 hl1) rfl))))))⟩
      have nu : ∀ p, p ≠ 122 + i → upd R (122 + i) (nI v1) p = R p := fun p u => up_ne _ _ u
      refine ⟨L, ts, by rw [nu _ (by omega)]; exact d1, d2, by rw [nu _ (by omega)]; exact d3, d4, by rw [nu _ (by omega)]; exact d5, d6, fun l hl => ?_, fun f hf => ?_, fun f hf1 hf2 => ?_, fun t ht => ?_, fun j hj => ?_, fun j hj => ?_⟩
      · rw [nu _ (by omega), nu _ (by omega), nu _ (by omega)]; exact d7 l hl
      · obtain ⟨ln, u1, u2, u3, u4⟩ := d8 f hf
        refine ⟨ln, by rw [nu _ (by omega)]; exact u1, u2, u3, fun k hk => ?_⟩
        rw [nu _ (by omega), nu _ (by omega)]
        exact u4 k hk
      · rw [nu _ (by omega)]; exact d9 f hf1 hf2
      · rw [nu _ (by omega)]; exact d10 t ht
      · by_cases c : j = i
        · subst c; exact ⟨v1, up_at _ _ _, by omega⟩
        · rw [nu _ (by omega)]; exact d11 j hj
      · by_cases c : j = i
        · subst c; exact Or.inr ⟨by rw [up_at, up_at], up_at _ _ _⟩
        · rw [nu _ (by omega), up_ne _ _ c, up_ne _ _ c]; exact d12 j hj
    · left
      exact ⟨ft, P, f1', ⟨_, _, _, _, isDC_R h (upd R (122 + i) (nI v1)) (nI fc) (upd f8 i (nI v1)), Or.inr ⟨_, cp1, cs _ hlD⟩⟩, a', k', g', m', upd R (122 + i) (nI v1), upd hd i 1, fun h1 hl1 => mo hl1 (zS (mn1 h1 hl1) (bS (sr hl1 (by omega)) (bS (x9 hl1) (iT rfl (bS (mck hl1) (bS (ms h1 hl1) rfl))))))⟩
  · left
    have n8 : ¬ f8 i = -1 := by rw [f1, o1]; exact nI_nm (by omega)
    refine ⟨3, nI q, by decide, ⟨_, _, _, _, isDC_R h R (nI fc) f8, Or.inl (bS (c_dr hl hKR) (bS (c_dk hl) (bS ((cs0 _).trans (if_neg n8)) (iF (by decide) (bS (ck1 hlD) (zS (c_refuse hlD) (iT (Or.inl rfl) rfl)))))))⟩, nI e, 1, nI q, m, R, upd hd i 1, fun h1 hl1 => ?_⟩
    exact bS (mg22 hl1) (bS ((lh hl1 hi).trans (congrArg some f2)) (iF (by decide) (bS (x7 hl1) (bS (mck hl1) (bS (m_fail0 hl1) (o18 hl1 (bS (x9 hl1) (iF (by decide) (bS (x9 hl1) (iF (by decide) rfl))))))))))
end stt
