/-! ===== round: a face ===== -/
def FI (R : Nat → Int32) (fc k : Nat) (f8 hd : Nat → Int32) : Prop := ∃ L ts, R 14 = nI fc ∧ fc < 4 ∧ R 1 = nI L ∧ L ≤ 4 ∧ R 115 = nI ts ∧ ts ≤ 6 ∧
  (∀ l, l < L → (∃ e, R (2 + 3 * l) = nI e ∧ 1 ≤ e ∧ e ≤ 12) ∧ (∃ w, R (3 + 3 * l) = nI w ∧ 1 ≤ w ∧ w ≤ 6) ∧ ∃ f, R (4 + 3 * l) = nI f ∧ f < fc) ∧
  (∀ f, f < fc → ∃ ln, R (15 + f) = nI ln ∧ 1 ≤ ln ∧ ln ≤ 12 ∧ ∀ k, k < ln → (∃ x, R (19 + 12 * f + k) = nI x ∧ x ≤ 10000) ∧ ∃ v, R (67 + 12 * f + k) = nI v ∧ v ≤ 20) ∧ (∀ f, fc < f → f < 4 → R (15 + f) = 0) ∧
  (∀ t, t < ts → ∃ k, R (116 + t) = nI k ∧ k ≤ 22) ∧ (∀ i, i < 3 → ∃ x, R (122 + i) = nI x ∧ x ≤ 100) ∧ (∀ i, i < 3 → (f8 i = -1 ∧ hd i = 0 ∧ R (122 + i) = 0) ∨ (f8 i = R (122 + i) ∧ hd i = 1)) ∧
  R (15 + fc) = nI k ∧ ∀ i, i < k → (∃ x, R (19 + 12 * fc + i) = nI x ∧ x ≤ 10000) ∧ ∃ v, R (67 + 12 * fc + i) = nI v ∧ v ≤ 20
section fi
variable {R f8 hd : Nat → Int32} {fc k : Nat}
theorem DI.face (di : DI R fc f8 hd) (h4 : fc < 4) : FI R fc 0 f8 hd := by
  obtain ⟨L, ts, d1, d2, d3, d4, d5, d6, d7, d8, d9, d10, d11, d12⟩ := di
  exact ⟨L, ts, d1, h4, d3, d4, d5, d6, d7, d8, fun f u1 u2 => d9 f (by omega) u2, d10, d11, d12, d9 fc (by omega) h4, fun i hi => by omega⟩
theorem FI.line (fi : FI R fc k f8 hd) (hk : k < 12) {x v : Nat} (hx : x ≤ 10000) (hv : v ≤ 20) : FI (lnF R fc k (nI x) (nI v)) fc (k + 1) f8 hd := by
  obtain ⟨L, ts, d1, d2, d3, d4, d5, d6, d7, d8, d9, d10, d11, d12, d13, d14⟩ := fi
  have nu : ∀ p, p ≠ 15 + fc → p ≠ 67 + (fc * 12 + k) → p ≠ 19 + (fc * 12 + k) → lnF R fc k (nI x) (nI v) p = R p := fun p u1 u2 u3 => by unfold lnF; rw [up_ne _ _ u1, up_ne _ _ u2, up_ne _ _ u3]
  refine ⟨L, ts, by rw [nu _ (by omega) (by omega) (by omega)]; exact d1, d2, by rw [nu _ (by omega) (by omega) (by omega)]; exact d3, d4, by rw [nu _ (by omega) (by omega) (by omega)]; exact d5, d6, fun l hl => ?_, fun f hf => ?_, fun f hf1 hf2 => ?_, fun t ht => ?_, fun i hi => ?_, fun i hi => ?_, up_at _ _ _, fun i hi => ?_⟩
  · rw [nu _ (by omega) (by omega) (by omega), nu _ (by omega) (by omega) (by omega), nu _ (by omega) (by omega) (by omega)]
    exact d7 l hl
  · obtain ⟨ln, u1, u2, u3, u4⟩ := d8 f hf
    refine ⟨ln, by rw [nu _ (by omega) (by omega) (by omega)]; exact u1, u2, u3, fun k' hk' => ?_⟩
    rw [nu _ (by omega) (by omega) (by omega), nu _ (by omega) (by omega) (by omega)]
    exact u4 k' hk'
  · rw [nu _ (by omega) (by omega) (by omega)]; exact d9 f hf1 hf2
  · rw [nu _ (by omega) (by omega) (by omega)]; exact d10 t ht
  · rw [nu _ (by omega) (by omega) (by omega)]; exact d11 i hi
  · rw [nu _ (by omega) (by omega) (by omega)]; exact d12 i hi
  · by_cases c : i = k
    · subst c
      refine ⟨⟨x, ?_, hx⟩, v, ?_, hv⟩
      · unfold lnF
        rw [show 19 + 12 * fc + i = 19 + (fc * 12 + i) by omega, up_ne _ _ (by omega), up_ne _ _ (by omega), up_at]
      · unfold lnF
        rw [show 67 + 12 * fc + i = 67 + (fc * 12 + i) by omega, up_ne _ _ (by omega), up_at]
    · rw [nu _ (by omega) (by omega) (by omega), nu _ (by omega) (by omega) (by omega)]
      exact d14 i (by omega)
theorem FI.done (fi : FI R fc k f8 hd) (h1 : 1 ≤ k) (h12 : k ≤ 12) : DI (upd R 14 (nI (fc + 1))) (fc + 1) f8 hd := by
  obtain ⟨L, ts, d1, d2, d3, d4, d5, d6, d7, d8, d9, d10, d11, d12, d13, d14⟩ := fi
  have nu : ∀ p, p ≠ 14 → upd R 14 (nI (fc + 1)) p = R p := fun p u => up_ne _ _ u
  refine ⟨L, ts, up_at _ _ _, by omega, by rw [nu _ (by omega)]; exact d3, d4, by rw [nu _ (by omega)]; exact d5, d6, fun l hl => ?_, fun f hf => ?_, fun f hf1 hf2 => ?_, fun t ht => ?_, fun i hi => ?_, fun i hi => ?_⟩
  · rw [nu _ (by omega), nu _ (by omega), nu _ (by omega)]
    obtain ⟨u1, u2, f, u3, u4⟩ := d7 l hl
    exact ⟨u1, u2, f, u3, by omega⟩
  · by_cases c : f = fc
    · subst c
      refine ⟨k, by rw [nu _ (by omega)]; exact d13, h1, h12, fun i hi => ?_⟩
      rw [nu _ (by omega), nu _ (by omega)]
      exact d14 i hi
    · obtain ⟨ln, u1, u2, u3, u4⟩ := d8 f (by omega)
      refine ⟨ln, by rw [nu _ (by omega)]; exact u1, u2, u3, fun k' hk' => ?_⟩
      rw [nu _ (by omega), nu _ (by omega)]
      exact u4 k' hk'
  · rw [nu _ (by omega)]; exact d9 f (by omega) hf2
  · rw [nu _ (by omega)]; exact d10 t ht
  · rw [nu _ (by omega)]; exact d11 i hi
  · rw [nu _ (by omega)]; exact d12 i hi
theorem dR_14 (h : zH) (R : Nat → Int32) (v x : Int32) (f8 : Nat → Int32) : dR h (upd R 14 v) x f8 = dR h R x f8 := by
  unfold dR
  rw [up_ne _ _ (by omega), up_ne _ _ (by omega), vw_out (by omega), vw_out (by omega), vw_out (by omega), vw3_out (fun l hl => by omega), vw3_out (fun l hl => by omega), vw3_out (fun l hl => by omega), vw_out (by omega)]
end fi
theorem m_face_bad {h : zH} {I : Nat → Int32} {A : Nat → Nat → Int32} {N : Nat} {C : Nat → Int32 → Int32 → Int32 → zH → Option zH} {a k g n b p : Int32} (hl : 46 ≤ h.length) (hb : b ≠ 0) : (∀ x y, f_X12_face_192 N C 27 x y (mp h (mK I a k g n b p) A) = some (mp h (mK I a k g n b p) A)) ∧ (∀ x y z, f_X12_face_175 N C 27 x y z (mp h (mK I a k g n b p) A) = some (mp h (mK I a k g n b p) A)) ∧ (∀ x y, f_X12_face_157 N C 27 x y (mp h (mK I a k g n b p) A) = some (mp h (mK I a k g n b p) A)) ∧ f_X12_face_271 N 27 (mp h (mK I a k g n b p) A) = some (mp h (mK I a k g n b p) A) ∧ ∀ f x y z, f_X12_face_63 N (f + 1) 27 x y z (mp h (mK I a k g n b p) A) = some (mp h (mK I a k g n b p) A) := by
  have a1 : ∀ x y, f_X12_face_192 N C 27 x y (mp h (mK I a k g n b p) A) = some (mp h (mK I a k g n b p) A) := fun x y => bS (x9 hl) (iF hb rfl)
  have a2 : ∀ x y z, f_X12_face_175 N C 27 x y z (mp h (mK I a k g n b p) A) = some (mp h (mK I a k g n b p) A) := fun x y z => bS (x9 hl) (iF hb (a1 x y))
  have a3 : ∀ x y, f_X12_face_157 N C 27 x y (mp h (mK I a k g n b p) A) = some (mp h (mK I a k g n b p) A) := fun x y => bS (x8 hl) (bS (x9 hl) (iF hb (a2 x n y)))
  have a4 : f_X12_face_289 N 27 (mp h (mK I a k g n b p) A) = some (mp h (mK I a k g n b p) A) := bS (x9 hl) (iF hb rfl)
  have a5 : f_X12_face_271 N 27 (mp h (mK I a k g n b p) A) = some (mp h (mK I a k g n b p) A) := by
    refine bS (x6 hl) ?_
    by_cases hk : k = 59
    · exact iT hk a4
    · exact iF hk (bS (x7 hl) (bS (mck hl) (bS (m_fail1 hl hb) a4)))
  refine ⟨a1, a2, a3, a5, fun f x y z => ?_⟩
  rw [f_X12_face_63]
  exact bS (x9 hl) (iF hb a5)
section face
variable {h : zH} {K : Nat → Int32} {KR : Nat → Option Nat} {KA : Nat → Nat → Int32} {KP : Nat → Option Nat} {I : Nat → Int32} {A : Nat → Nat → Int32} {N t fc : Nat} {T : Nat → Nat} {f8 hd : Nat → Int32}
/-- a face's end: no digit stands next -/
theorem b_fend (hl : 46 ≤ h.length) (hN : 1100 ≤ N) (wc : tpC K KA T t) {R : Nat → Int32} {k e0 q : Nat} {n s a kk nn x y z : Int32} {fuel : Nat} (he0 : e0 ≤ q) (fi : FI R fc k f8 hd) (h1 : 1 ≤ k) (h12 : k ≤ 12) (rq : run isB T t q q) (tk : TK T t q a kk nn) (nd : ¬ (q < t ∧ isD (T q))) {cs : Option (Int32 × zH)} (hcs : cs = some (1, cp (h ++ dR h R (nI (fc + 1)) f8) (rK K (nI q) n s 0 (-1)) KR KA KP)) :
    OutF N h K KR KA KP I A cs (fun h1 => f_X12_face_63 N (fuel + 1) 27 x y z (mp h1 (mK I a kk (nI q) nn 0 (-1)) (va_up (va_up A 21 R) 22 hd))) ∨
    OutS N h K KR KA KP I A t e0 cs (fun h1 => f_X12_face_63 N (fuel + 1) 27 x y z (mp h1 (mK I a kk (nI q) nn 0 (-1)) (va_up (va_up A 21 R) 22 hd))) := by
  have hlD : ∀ {D : List zE}, 46 ≤ (h ++ D).length := by intro D; rw [List.length_append]; omega
  have t1 := wc.2.1
  have hk : kk ≠ 2 ∧ kk ≠ 3 := by
    rcases tk with ⟨e1, e2, e3⟩ | ⟨e1, e2, e3, e4⟩ | ⟨e1, e2, -⟩ | ⟨e1, e2, e3, e4⟩ | ⟨e1, e2, e3, e4, e5, e6, e7⟩
    · rw [e2]; decide
    · rw [e3]; decide
    · exact absurd ⟨e1, e2⟩ nd
    · rcases e2 with e2 | e2 <;> rw [e3, e2] <;> decide
    · rw [e6]; decide
  have m271 : ∀ {h1 : zH} {X}, 46 ≤ h1.length → f_X12_face_271 N 27 (mp h1 (mK I a kk (nI q) nn 0 (-1)) (va_up (va_up A 21 R) 22 hd)) = X → f_X12_face_63 N (fuel + 1) 27 x y z (mp h1 (mK I a kk (nI q) nn 0 (-1)) (va_up (va_up A 21 R) 22 hd)) = X := by
    intro h1 X hl1 hX
    rw [f_X12_face_63]
    exact bS (x9 hl1) (iT rfl (bS (x6 hl1) (iF hk.1 (bS (x6 hl1) (iF hk.2 hX)))))
  obtain ⟨L, ts, d1, -⟩ := id fi
  by_cases hq : q < t ∧ T q = 59
  · right
    have hk9 : kk = 59 ∧ a = nI (q + 1) := by
      rcases tk with ⟨e1, e2, e3⟩ | ⟨e1, e2, e3, e4⟩ | ⟨e1, e2, -⟩ | ⟨e1, e2, e3, e4⟩ | ⟨e1, e2, e3, e4, e5, e6, e7⟩
      · omega
      · unfold isL at e2; omega
      · exact absurd ⟨e1, e2⟩ nd
      · exact ⟨by rw [e3, hq.2]; rfl, e4⟩
      · omega
    refine ⟨q + 1, upd R 14 (nI (fc + 1)), f8, hd, fc + 1, n, s, kk, nI q, nn, by omega, by omega, fi.done h1 h12, ⟨_, hcs, ?_⟩, fun h1 hl1 => m271 hl1 (bS (x6 hl1) (iT hk9.1 (bS (x9 hl1) (iT rfl (bS (mg21 hl1) (bS ((lr (j := 14) hl1 (by omega)).trans (congrArg some d1)) ?_))))))⟩
    · rw [dR_14]
      exact c_rS1 hlD wc hN rq hq.1 hq.2
    · rw [la_r, ← hk9.2]
      exact bS (sr (j := 14) hl1 (by omega)) rfl
  · left
    have hk9 : kk ≠ 59 := by
      rcases tk with ⟨e1, e2, e3⟩ | ⟨e1, e2, e3, e4⟩ | ⟨e1, e2, -⟩ | ⟨e1, e2, e3, e4⟩ | ⟨e1, e2, e3, e4, e5, e6, e7⟩
      · rw [e2]; decide
      · rw [e3]; decide
      · exact absurd ⟨e1, e2⟩ nd
      · rw [e3]
        intro z
        exact hq ⟨e1, (nI_eq (b := 59) (by omega) (by omega)).mp z⟩
      · rw [e6]; decide
    refine ⟨1, nI q, by decide, ⟨_, _, _, _, isDC_R h R (nI (fc + 1)) f8, Or.inr ⟨_, hcs, c_rS0 hlD wc hN rq hq (by omega)⟩⟩, a, kk, nI q, nn, R, hd, fun h1 hl1 => m271 hl1 (bS (x6 hl1) (iF hk9 (bS (x7 hl1) (bS (mck hl1) (bS (m_fail0 hl1) (bS (x9 hl1) (iF (by decide) rfl)))))))⟩
theorem b_floop (hl : 46 ≤ h.length) (hN : 1100 ≤ N) (wc : tpC K KA T t) (wm : tpM I A T t) (hKR : KR 1 = some (h.length + 0)) {e0 : Nat} :
    ∀ (j k : Nat) (R : Nat → Int32) (p q rad val : Nat) (n s a kk nn : Int32) (f1 f2 : Nat), k + j = 12 → j + 1 < f1 → j + 1 < f2 → FI R fc k f8 hd → e0 ≤ p → run isB T t p q → TK T t q a kk nn → 1 ≤ rad → rad ≤ 10001 → val ≤ 20 → (k = 0 → kk = 2 ∨ kk = 3) →
    OutF N h K KR KA KP I A (f_X5_readFace_26 N f1 1 (nI rad) (nI val) (nI k) (cp (h ++ dR h R (nI (fc + 1)) f8) (rK K (nI p) n s 0 (-1)) KR KA KP)) (fun h1 => f_X12_face_63 N f2 27 (nI fc) (nI rad) (nI val) (mp h1 (mK I a kk (nI q) nn 0 (-1)) (va_up (va_up A 21 R) 22 hd))) ∨
    OutS N h K KR KA KP I A t e0 (f_X5_readFace_26 N f1 1 (nI rad) (nI val) (nI k) (cp (h ++ dR h R (nI (fc + 1)) f8) (rK K (nI p) n s 0 (-1)) KR KA KP)) (fun h1 => f_X12_face_63 N f2 27 (nI fc) (nI rad) (nI val) (mp h1 (mK I a kk (nI q) nn 0 (-1)) (va_up (va_up A 21 R) 22 hd))) := by
  have hlD : ∀ {D : List zE}, 46 ≤ (h ++ D).length := by intro D; rw [List.length_append]; omega
  have t1 := wc.2.1
  intro j
  induction j with
  | zero =>
    intro k R p q rad val n s a kk nn f1 f2 hk hf1 hf2 fi he0 rb tk hr1 hr2 hv h0
    obtain ⟨f1, rfl⟩ : ∃ m, f1 = m + 1 := ⟨f1 - 1, by omega⟩
    obtain ⟨f2, rfl⟩ : ∃ m, f2 = m + 1 := ⟨f2 - 1, by omega⟩
    have hk12 : k = 12 := by omega
    subst hk12
    have b1 := rb.1
    obtain ⟨v, v1, v2⟩ := c_digN (N := N) (h := h ++ dR h R (nI (fc + 1)) f8) (K := K) (KR := KR) (KP := KP) (n := n) (s := s) (f := 0) (pl := -1) hlD wc hN rb
    obtain ⟨L, ts, d1, d2, d3, d4, d5, d6, d7, d8, d9, d10, d11, d12, d13, d14⟩ := id fi
    by_cases nd : q < t ∧ isD (T q)
    · left
      have hkk : kk = 2 ∨ kk = 3 := by
        rcases tk with ⟨e1, e2, e3⟩ | ⟨e1, e2, e3, e4⟩ | ⟨e1, e2, e, r, ⟨e3, e4, e5, e6⟩ | ⟨e3, e4, e5⟩⟩ | ⟨e1, e2, e3, e4⟩ | ⟨e1, e2, e3, e4, e5, e6, e7⟩
        · omega
        · have := nd.2; unfold isD at this; unfold isL at e2; omega
        · exact Or.inl e4
        · exact Or.inr e4
        · have := nd.2; unfold isD at this; omega
        · exact absurd nd.2 e3
      refine ⟨3, nI q, by decide, ⟨dR h R (nI (fc + 1)) f8, nI q, n, s, isDC_R h R (nI (fc + 1)) f8, Or.inl ?_⟩, a, kk, nI q, nn, R, hd, fun h1 hl1 => ?_⟩
      · rw [f_X5_readFace_26]
        exact iT (by decide) (bS (ck1 hlD) (zS v1 (iF (fun z => v2.mp z nd) (bS (r2 hlD) (bS (ck1 hlD) (zS (c_refuse hlD) (iT rfl rfl)))))))
      · have m86 : f_X12_face_86 N (fun l0 l1 l2 l3 h => f_X12_face_63 N f2 l0 l1 l2 l3 h) 27 (nI fc) (nI rad) (nI val) (mp h1 (mK I a kk (nI q) nn 0 (-1)) (va_up (va_up A 21 R) 22 hd)) = some (mp h1 (mK I a kk (nI q) nn 3 (nI q)) (va_up (va_up A 21 R) 22 hd)) := by
          unfold f_X12_face_86
          rw [la_l]
          exact bS (mg21 hl1) (bS ((lr hl1 (by omega)).trans (congrArg some d13)) (iT rfl (bS (x7 hl1) (bS (mck hl1) (bS (m_fail0 hl1) ((m_face_bad hl1 (by decide)).2.2.1 _ _))))))
        show f_X12_face_63 N (f2 + 1) 27 (nI fc) (nI rad) (nI val) _ = _
        rw [f_X12_face_63]
        refine bS (x9 hl1) (iT rfl (bS (x6 hl1) ?_))
        by_cases c2 : kk = 2
        · exact iT c2 m86
        · exact iF c2 (bS (x6 hl1) (iT (hkk.resolve_left c2) m86))
    · refine b_fend (KR := KR) (KP := KP) hl hN wc (by omega) fi (by omega) (by omega) (run_id rb) tk nd (n := n) (s := s) ?_
      rw [f_X5_readFace_26]
      exact iT (by decide) (bS (ck1 hlD) (zS v1 (iT (v2.mpr nd) rfl)))
  | succ j ih =>
    intro k R p q rad val n s a kk nn f1 f2 hk hf1 hf2 fi he0 rb tk hr1 hr2 hv h0
    obtain ⟨f1, rfl⟩ : ∃ m, f1 = m + 1 := ⟨f1 - 1, by omega⟩
    obtain ⟨f2, rfl⟩ : ∃ m, f2 = m + 1 := ⟨f2 - 1, by omega⟩
    have b1 := rb.1
    have hk12 : ¬ (12 : Int32) ≤ nI k := nI_ge (b := 12) (by omega) (by omega)
    obtain ⟨v, v1, v2⟩ := c_digN (N := N) (h := h ++ dR h R (nI (fc + 1)) f8) (K := K) (KR := KR) (KP := KP) (n := n) (s := s) (f := 0) (pl := -1) hlD wc hN rb
    obtain ⟨L, ts, d1, d2, d3, d4, d5, d6, d7, d8, d9, d10, d11, d12, d13, d14⟩ := id fi
    by_cases nd : q < t ∧ isD (T q)
    case neg =>
      have hk0 : k ≠ 0 := by
        intro z
        apply nd
        rcases tk with ⟨e1, e2, e3⟩ | ⟨e1, e2, e3, e4⟩ | ⟨e1, e2, -⟩ | ⟨e1, e2, e3, e4⟩ | ⟨e1, e2, e3, e4, e5, e6, e7⟩
        · rcases h0 z with c | c <;> rw [e2] at c <;> exact absurd c (by decide)
        · rcases h0 z with c | c <;> rw [e3] at c <;> exact absurd c (by decide)
        · exact ⟨e1, e2⟩
        · rcases h0 z with c | c <;> rcases e2 with e2 | e2 <;> rw [e3, e2] at c <;> exact absurd c (by decide)
        · rcases h0 z with c | c <;> rw [e6] at c <;> exact absurd c (by decide)
      refine b_fend (KR := KR) (KP := KP) hl hN wc (by omega) fi (by omega) (by omega) (run_id rb) tk nd (n := n) (s := s) ?_
      rw [f_X5_readFace_26]
      exact iF hk12 (iF (nI_nle (by omega) (by omega)) (bS (ck1 hlD) (zS v1 (iT (v2.mpr nd) rfl))))
    -- a digit: a line is read
    obtain ⟨pc, rbc, cpre⟩ : ∃ pc, run isB T t pc q ∧ ∀ {X}, f_X5_readFace_47 N (fun l0 l2 l3 l4 h => f_X5_readFace_26 N f1 l0 l2 l3 l4 h) 1 (nI rad) (nI val) (nI k) (cp (h ++ dR h R (nI (fc + 1)) f8) (rK K (nI pc) n s 0 (-1)) KR KA KP) = X → f_X5_readFace_26 N (f1 + 1) 1 (nI rad) (nI val) (nI k) (cp (h ++ dR h R (nI (fc + 1)) f8) (rK K (nI p) n s 0 (-1)) KR KA KP) = X := by
      by_cases hk0 : k = 0
      · refine ⟨p, rb, fun hX => ?_⟩
        rw [f_X5_readFace_26]
        exact iF hk12 (iT (by rw [hk0]; decide) hX)
      · refine ⟨q, run_id rb, fun hX => ?_⟩
        rw [f_X5_readFace_26]
        exact iF hk12 (iF (nI_nle (by omega) (by omega)) (bS (ck1 hlD) (zS v1 (iF (fun z => v2.mp z nd) hX))))
    have hkk : kk = 2 ∨ kk = 3 := by
      rcases tk with ⟨e1, e2, e3⟩ | ⟨e1, e2, e3, e4⟩ | ⟨e1, e2, e, r, ⟨e3, e4, e5, e6⟩ | ⟨e3, e4, e5⟩⟩ | ⟨e1, e2, e3, e4⟩ | ⟨e1, e2, e3, e4, e5, e6, e7⟩
      · omega
      · have := nd.2; unfold isD at this; unfold isL at e2; omega
      · exact Or.inl e4
      · exact Or.inr e4
      · have := nd.2; unfold isD at this; omega
      · exact absurd nd.2 e3
    have m86 : ∀ {h1 : zH} {X}, 46 ≤ h1.length → ((zgI (mp h1 (mK I a kk (nI q) nn 0 (-1)) (va_up (va_up A 21 R) 22 hd)) 12 (some 27) 6).bind fun x3 => if x3 = (3 : Int32) then (zgI (mp h1 (mK I a kk (nI q) nn 0 (-1)) (va_up (va_up A 21 R) 22 hd)) 12 (some 27) 4).bind fun x6 => (zck (mp h1 (mK I a kk (nI q) nn 0 (-1)) (va_up (va_up A 21 R) 22 hd)) 12 (some 27)).bind fun q1 => (f_X12_fail N q1 (1 : Int32) x6 (mp h1 (mK I a kk (nI q) nn 0 (-1)) (va_up (va_up A 21 R) 22 hd))).bind fun h1 => f_X12_face_157 N (fun l0 l1 l2 l3 h => f_X12_face_63 N f2 l0 l1 l2 l3 h) 27 (nI fc) (nI val) h1 else (zgI (mp h1 (mK I a kk (nI q) nn 0 (-1)) (va_up (va_up A 21 R) 22 hd)) 12 (some 27) 8).bind fun x4 => if x4 < (1 : Int32) then f_X12_face_148 N (fun l0 l1 l2 l3 h => f_X12_face_63 N f2 l0 l1 l2 l3 h) 27 (nI fc) (nI val) (mp h1 (mK I a kk (nI q) nn 0 (-1)) (va_up (va_up A 21 R) 22 hd)) else (zgI (mp h1 (mK I a kk (nI q) nn 0 (-1)) (va_up (va_up A 21 R) 22 hd)) 12 (some 27) 8).bind fun x5 => if x5 < nI rad then f_X12_face_157 N (fun l0 l1 l2 l3 h => f_X12_face_63 N f2 l0 l1 l2 l3 h) 27 (nI fc) (nI val) (mp h1 (mK I a kk (nI q) nn 0 (-1)) (va_up (va_up A 21 R) 22 hd)) else f_X12_face_148 N (fun l0 l1 l2 l3 h => f_X12_face_63 N f2 l0 l1 l2 l3 h) 27 (nI fc) (nI val) (mp h1 (mK I a kk (nI q) nn 0 (-1)) (va_up (va_up A 21 R) 22 hd))) = X → f_X12_face_63 N (f2 + 1) 27 (nI fc) (nI rad) (nI val) (mp h1 (mK I a kk (nI q) nn 0 (-1)) (va_up (va_up A 21 R) 22 hd)) = X := by
      intro h1 X hl1 hX
      have m1 : f_X12_face_86 N (fun l0 l1 l2 l3 h => f_X12_face_63 N f2 l0 l1 l2 l3 h) 27 (nI fc) (nI rad) (nI val) (mp h1 (mK I a kk (nI q) nn 0 (-1)) (va_up (va_up A 21 R) 22 hd)) = X := by
        unfold f_X12_face_86
        rw [la_l]
        exact bS (mg21 hl1) (bS ((lr hl1 (by omega)).trans (congrArg some d13)) (iF (fun z => by have := (nI_eq (b := 12) (by omega) (by omega)).mp z; omega) hX))
      rw [f_X12_face_63]
      refine bS (x9 hl1) (iT rfl (bS (x6 hl1) ?_))
      by_cases c2 : kk = 2
      · exact iT c2 m1
      · exact iF c2 (bS (x6 hl1) (iT (hkk.resolve_left c2) m1))
    have er : nI rad - 1 = nI (rad - 1) := pk_sub (b := 1) hr1
    have c47 : ∀ {X}, zb2 (f_X5_readNumber N 1 (nI 1) (nI (rad - 1)) (cp (h ++ dR h R (nI (fc + 1)) f8) (rK K (nI pc) n s 0 (-1)) KR KA KP)) (fun x1 h1 => if x1 = 0 then some ((0 : Int32), h1) else (zgI h1 5 (some 1) 3).bind fun x2 => (zck h1 5 (some 1)).bind fun q2 => zb2 (f_X5_readSign N q2 (nI 58) h1) fun x3 h2 => if x3 = 0 then some ((0 : Int32), h2) else (zck h2 5 (some 1)).bind fun q3 => zb2 (f_X5_readNumber N q3 (nI (val + 1)) (nI 20) h2) fun x4 h3 => if x4 = 0 then some ((0 : Int32), h3) else (zgI h3 5 (some 1) 3).bind fun x5 => (zgR h3 5 (some 1) 1).bind fun x6 => (zck h3 6 x6).bind fun q4 => (f_X6_addLine N q4 x2 x5 h3).bind fun h4 => f_X5_readFace_26 N f1 1 x2 x5 (nI (k + 1)) h4) = X → f_X5_readFace_26 N (f1 + 1) 1 (nI rad) (nI val) (nI k) (cp (h ++ dR h R (nI (fc + 1)) f8) (rK K (nI p) n s 0 (-1)) KR KA KP) = X := by
      intro X hX
      refine cpre ?_
      unfold f_X5_readFace_47
      rw [er, la_r, la_r]
      exact bS (ck1 hlD) hX
    rcases tk with ⟨e1, e2, e3⟩ | ⟨e1, e2, e3, e4⟩ | ⟨e1, e2, e, r, ⟨e3, e4, e5, e6⟩ | ⟨e3, e4, e5⟩⟩ | ⟨e1, e2, e3, e4⟩ | ⟨e1, e2, e3, e4, e5, e6, e7⟩
    · omega
    · have := nd.2; unfold isD at this; unfold isL at e2; omega
    · subst e4
      subst e5
      subst e6
      have r1 := run_one r e1 e2
      have re2 := r.2.1
      have hvv := dv6 (T := T) (q := q) (i := e - q) (fun j hj => r.2.2.1 (q + j) (by omega) (by omega)) (by omega)
      have cn := fun (hh : zH) (hl : 46 ≤ hh.length) => c_numv (N := N) (h := hh) (K := K) (KR := KR) (KP := KP) (n := n) (s := s) (f := 0) (pl := -1) hl wc hN rbc r r1 e3 (x := 1) (y := rad - 1) (by omega) (by omega)
      by_cases c1 : 1 ≤ dv T q (e - q) ∧ dv T q (e - q) ≤ rad - 1
      · have cn1 := fun (hh : zH) (hl : 46 ≤ hh.length) => (cn hh hl).trans (if_pos c1)
        have m157 : ∀ {h1 : zH} {X}, 46 ≤ h1.length → ((f_X12_sign N 27 (nI 58) (mp h1 (mK I (nI e) 2 (nI q) (nI (dv T q (e - q))) 0 (-1)) (va_up (va_up A 21 R) 22 hd))).bind fun h1 => f_X12_face_175 N (fun l0 l1 l2 l3 h => f_X12_face_63 N f2 l0 l1 l2 l3 h) 27 (nI fc) (nI (dv T q (e - q))) (nI val) h1) = X → f_X12_face_63 N (f2 + 1) 27 (nI fc) (nI rad) (nI val) (mp h1 (mK I (nI e) 2 (nI q) (nI (dv T q (e - q))) 0 (-1)) (va_up (va_up A 21 R) 22 hd)) = X := fun hl1 hX => m86 hl1 (bS (x6 hl1) (iF (by decide) (bS (x8 hl1) (iF (nI_nlt (b := 1) c1.1 (by omega)) (bS (x8 hl1) (iT (nI_lt (by omega) (by omega)) (bS (x8 hl1) (bS (x9 hl1) (iT rfl (bS (mck hl1) hX))))))))))
        have wm' := wm.r R hd
        rcases b_sign (KR := KR) (KP := KP) hN wc wm' re2 (Or.inl rfl) 2 (nI q) (nI (dv T q (e - q))) (-1) (nI (dv T q (e - q))) (nI q) (-1) with ⟨qs, s1, s2, cs, m'', ms⟩ | ⟨ft, P, g1, ⟨a, cs⟩, a', k', g', m', ms⟩
        case inr =>
          left
          exact ⟨ft, P, g1, ⟨_, _, _, _, isDC_R h R (nI (fc + 1)) f8, Or.inl (c47 (zS (cn1 _ hlD) (iF (by decide) (bS (r3 hlD) (bS (ck1 hlD) (zS (cs _ hlD) (iT rfl rfl)))))))⟩, a', k', g', m', R, hd, fun h1 hl1 => m157 hl1 (bS (ms h1 hl1) ((m_face_bad hl1 g1).2.1 _ _ _))⟩
        have m175 : ∀ {h1 : zH} {X}, 46 ≤ h1.length → zb2 (f_X12_numberOf N 27 (nI (val + 1)) (nI 20) (mp h1 (mK I (nI (qs + 1)) (nI 58) (nI qs) m'' 0 (-1)) (va_up (va_up A 21 R) 22 hd))) (fun x2 h1 => f_X12_face_192 N (fun l0 l1 l2 l3 h => f_X12_face_63 N f2 l0 l1 l2 l3 h) 27 (nI fc) (nI (dv T q (e - q))) h1) = X → f_X12_face_63 N (f2 + 1) 27 (nI fc) (nI rad) (nI val) (mp h1 (mK I (nI e) 2 (nI q) (nI (dv T q (e - q))) 0 (-1)) (va_up (va_up A 21 R) 22 hd)) = X := by
          intro h1 X hl1 hX
          refine m157 hl1 (bS (ms h1 hl1) ?_)
          unfold f_X12_face_175
          rw [la_r]
          exact bS (x9 hl1) (iT rfl (bS (mck hl1) hX))
        rcases b_num (KR := KR) (KP := KP) hN wc wm' (p := qs + 1) (by omega) (x := val + 1) (y := 20) (by omega) (by omega) (nI 58) (nI qs) m'' (-1) (nI (dv T q (e - q))) (nI q) (-1) with ⟨ee, vv, qq, y1, y2, y3, y4, y5, y6, cn2, mn2⟩ | ⟨ft, P, g1, ⟨a, n', s', cnf⟩, a', k', g', m', mn⟩
        case inr =>
          left
          exact ⟨ft, P, g1, ⟨_, _, _, _, isDC_R h R (nI (fc + 1)) f8, Or.inl (c47 (zS (cn1 _ hlD) (iF (by decide) (bS (r3 hlD) (bS (ck1 hlD) (zS (cs _ hlD) (iF (by decide) (bS (ck1 hlD) (zS (cnf _ hlD) (iT rfl rfl))))))))))⟩, a', k', g', m', R, hd, fun h1 hl1 => m175 hl1 (zS (mn h1 hl1) ((m_face_bad hl1 g1).1 _ _))⟩
        obtain ⟨q', rb'⟩ := run_ex isB T y1
        have wm2 := wm.r (lnF R fc k (nI (dv T q (e - q))) (nI vv)) hd
        obtain ⟨a2, k2, n2, tk2, nx⟩ := m_next (N := N) (k := 2) (g := nI qq) (n := nI vv) (b := 0) (p := -1) trivial hN wm2 rb'
        have fi2 := fi.line (k := k) (x := dv T q (e - q)) (v := vv) (by omega) (by omega) y5
        have ih' := ih (k + 1) (lnF R fc k (nI (dv T q (e - q))) (nI vv)) ee q' (dv T q (e - q)) vv (nI vv) (nI qq) a2 k2 n2 f1 f2 (by omega) (by omega) (by omega) fi2 (by omega) rb' tk2 c1.1 (by omega) y5 (fun z => by omega)
        have ca := c_addLine (N := N) (h := h) (K := rK K (nI ee) (nI vv) (nI qq) 0 (-1)) (KR := KR) (KA := KA) (KP := KP) (c := fc) (f8 := f8) (x := nI (dv T q (e - q))) (y := nI vv) hl d2 d13 (by omega)
        have ceq : f_X5_readFace_26 N (f1 + 1) 1 (nI rad) (nI val) (nI k) (cp (h ++ dR h R (nI (fc + 1)) f8) (rK K (nI p) n s 0 (-1)) KR KA KP) = f_X5_readFace_26 N f1 1 (nI (dv T q (e - q))) (nI vv) (nI (k + 1)) (cp (h ++ dR h (lnF R fc k (nI (dv T q (e - q))) (nI vv)) (nI (fc + 1)) f8) (rK K (nI ee) (nI vv) (nI qq) 0 (-1)) KR KA KP) := c47 (zS (cn1 _ hlD) (iF (by decide) (bS (r3 hlD) (bS (ck1 hlD) (zS (cs _ hlD) (iF (by decide) (bS (ck1 hlD) (zS (cn2 _ hlD) (iF (by decide) (bS (r3 hlD) (bS (c_dr hl hKR) (bS (c_dk hl) (bS ca rfl)))))))))))))
        have meq : ∀ h1 : zH, 46 ≤ h1.length → f_X12_face_63 N (f2 + 1) 27 (nI fc) (nI rad) (nI val) (mp h1 (mK I (nI e) 2 (nI q) (nI (dv T q (e - q))) 0 (-1)) (va_up (va_up A 21 R) 22 hd)) = f_X12_face_63 N f2 27 (nI fc) (nI (dv T q (e - q))) (nI vv) (mp h1 (mK I a2 k2 (nI q') n2 0 (-1)) (va_up (va_up A 21 (lnF R fc k (nI (dv T q (e - q))) (nI vv))) 22 hd)) := by
          intro h1 hl1
          refine m175 hl1 (zS (mn2 h1 hl1) ?_)
          unfold f_X12_face_192
          rw [la_l, lm_l, la_l, la_l]
          refine bS (x9 hl1) (iT rfl (bS (x8 hl1) (bS (mg21 hl1) (bS (mg21 hl1) (bS ((lr hl1 (by omega)).trans (congrArg some d13)) ?_)))))
          rw [nI_add]
          refine bS (sr hl1 (by omega)) (bS (mg21 hl1) (bS (mg21 hl1) (bS ((lr hl1 (by omega)).trans (by rw [up_ne _ _ (by omega), d13])) ?_)))
          rw [nI_add]
          refine bS (sr hl1 (by omega)) (bS (mg21 hl1) (bS ((lr hl1 (by omega)).trans (by rw [up_ne _ _ (by omega), up_ne _ _ (by omega), d13])) ?_))
          rw [la_r]
          refine bS (sr hl1 (by omega)) (bS (mck hl1) ?_)
          rw [show 19 + 12 * fc + k = 19 + (fc * 12 + k) by omega, show 67 + 12 * fc + k = 67 + (fc * 12 + k) by omega]
          exact bS (nx h1 hl1) rfl
        rw [ceq]
        rcases ih' with ⟨ft, P, u1, u2, a', k', g', m', R', hd', u3⟩ | ⟨p', R', f8', hd', fc', n', s', k', g', m', u1, u2, u3, u4, u5⟩
        · exact Or.inl ⟨ft, P, u1, u2, a', k', g', m', R', hd', fun h1 hl1 => (meq h1 hl1).trans (u3 h1 hl1)⟩
        · exact Or.inr ⟨p', R', f8', hd', fc', n', s', k', g', m', u1, u2, u3, u4, fun h1 hl1 => (meq h1 hl1).trans (u5 h1 hl1)⟩
      · left
        have cn1 := fun (hh : zH) (hl : 46 ≤ hh.length) => (cn hh hl).trans (if_neg c1)
        refine ⟨2, nI q, by decide, ⟨_, _, _, _, isDC_R h R (nI (fc + 1)) f8, Or.inl (c47 (zS (cn1 _ hlD) (iT rfl rfl)))⟩, nI e, 2, nI q, nI (dv T q (e - q)), R, hd, fun h1 hl1 => m86 hl1 (bS (x6 hl1) (iF (by decide) (bS (x8 hl1) ?_)))⟩
        have m148 : f_X12_face_148 N (fun l0 l1 l2 l3 h => f_X12_face_63 N f2 l0 l1 l2 l3 h) 27 (nI fc) (nI val) (mp h1 (mK I (nI e) 2 (nI q) (nI (dv T q (e - q))) 0 (-1)) (va_up (va_up A 21 R) 22 hd)) = some (mp h1 (mK I (nI e) 2 (nI q) (nI (dv T q (e - q))) 2 (nI q)) (va_up (va_up A 21 R) 22 hd)) := bS (x7 hl1) (bS (mck hl1) (bS (m_fail0 hl1) ((m_face_bad hl1 (by decide)).2.2.1 _ _)))
        by_cases c2 : 1 ≤ dv T q (e - q)
        · exact iF (nI_nlt (b := 1) c2 (by omega)) (bS (x8 hl1) (iF (nI_nlt (by omega) (by omega)) m148))
        · exact iT (nI_lt (b := 1) (by omega) (by omega)) m148
    · subst e4
      subst e5
      left
      exact ⟨1, nI (q + 6), by decide, ⟨_, _, _, _, isDC_R h R (nI (fc + 1)) f8, Or.inl (c47 (zS (c_num7 hlD wc hN rbc r e3 _ _) (iT rfl rfl)))⟩, nI (q + 6), 3, nI q, nn, R, hd, fun h1 hl1 => m86 hl1 (bS (x6 hl1) (iT rfl (bS (x4 hl1) (bS (mck hl1) (bS (m_fail0 hl1) ((m_face_bad hl1 (by decide)).2.2.1 _ _))))))⟩
    · have := nd.2; unfold isD at this; omega
    · exact absurd nd.2 e3
theorem b_face (hl : 46 ≤ h.length) (hN : 1100 ≤ N) (wc : tpC K KA T t) (wm : tpM I A T t) (hKR : KR 1 = some (h.length + 0)) {R : Nat → Int32} {q e : Nat} {n s m : Int32} (di : DI R fc f8 hd) (he : e ≤ t) :
    OutF N h K KR KA KP I A (f_X5_readFace N 1 (nI q) (cp (h ++ dR h R (nI fc) f8) (rK K (nI e) n s 0 (-1)) KR KA KP)) (fun h1 => f_X12_face N 27 (mp h1 (mK I (nI e) 1 (nI q) m 0 (-1)) (va_up (va_up A 21 R) 22 hd))) ∨
    OutS N h K KR KA KP I A t e (f_X5_readFace N 1 (nI q) (cp (h ++ dR h R (nI fc) f8) (rK K (nI e) n s 0 (-1)) KR KA KP)) (fun h1 => f_X12_face N 27 (mp h1 (mK I (nI e) 1 (nI q) m 0 (-1)) (va_up (va_up A 21 R) 22 hd))) := by
  obtain ⟨L, ts, d1, d2, d3, d4, d5, d6, d7, d8, d9, d10, d11, d12⟩ := id di
  have hlD : ∀ {D : List zE}, 46 ≤ (h ++ D).length := by intro D; rw [List.length_append]; omega
  have wm' := wm.r R hd
  obtain ⟨q1, rb⟩ := run_ex isB T he
  by_cases h4 : fc = 4
  · left
    subst h4
    obtain ⟨a2, k2, n2, tk2, nx⟩ := m_next (N := N) (k := 1) (g := nI q) (n := m) (b := 3) (p := nI q) trivial hN wm' rb
    refine ⟨3, nI q, by decide, ⟨_, _, _, _, isDC_R h R (nI 4) f8, Or.inl (bS (c_dr hl hKR) (bS (c_dk hl) (zS (c_addFace0 hl) (iT rfl (bS (ck1 hlD) (zS (c_refuse hlD) (iT (Or.inl rfl) rfl)))))))⟩, a2, k2, nI q1, n2, R, hd, fun h1 hl1 => ?_⟩
    obtain ⟨N', rfl⟩ : ∃ x, N = x + 1 := ⟨N - 1, by omega⟩
    have m63 := (m_face_bad (N := N' + 1) (C := fun _ _ _ _ _ => none) (I := I) (A := va_up (va_up A 21 R) 22 hd) (a := a2) (k := k2) (g := nI q1) (n := n2) (b := 3) (p := nI q) hl1 (by decide)).2.2.2.2 N' (nI 4) 10001 0
    refine bS (mg21 hl1) (bS ((lr (j := 14) hl1 (by omega)).trans (congrArg some d1)) (iT rfl (bS (x7 hl1) (bS (mck hl1) (bS (m_fail0 hl1) (bS (mg21 hl1) (bS ((lr (j := 14) hl1 (by omega)).trans (congrArg some d1)) (bS (mck hl1) (bS (nx h1 hl1) (bS (x6 hl1) ?_))))))))))
    by_cases c2 : k2 = 2
    · exact iT c2 m63
    refine iF c2 (bS (x6 hl1) ?_)
    by_cases c3 : k2 = 3
    · exact iT c3 m63
    · exact iF c3 (bS (x7 hl1) (bS (mck hl1) (bS (m_fail1 hl1 (by decide)) m63)))
  have h4' : fc < 4 := by omega
  obtain ⟨a2, k2, n2, tk2, nx⟩ := m_next (N := N) (k := 1) (g := nI q) (n := m) (b := 0) (p := -1) trivial hN wm' rb
  have cpre : ∀ {X}, f_X5_readFace_26 N N 1 (nI 10001) (nI 0) (nI 0) (cp (h ++ dR h R (nI (fc + 1)) f8) (rK K (nI e) n s 0 (-1)) KR KA KP) = X → f_X5_readFace N 1 (nI q) (cp (h ++ dR h R (nI fc) f8) (rK K (nI e) n s 0 (-1)) KR KA KP) = X := fun hX => bS (c_dr hl hKR) (bS (c_dk hl) (zS (c_addFace1 hl h4') (iF (by decide) hX)))
  have mpre : ∀ {h1 : zH} {X}, 46 ≤ h1.length → ((zgI (mp h1 (mK I a2 k2 (nI q1) n2 0 (-1)) (va_up (va_up A 21 R) 22 hd)) 12 (some 27) 6).bind fun x3 => if x3 = (2 : Int32) then f_X12_face_63 N N 27 (nI fc) (10001 : Int32) (0 : Int32) (mp h1 (mK I a2 k2 (nI q1) n2 0 (-1)) (va_up (va_up A 21 R) 22 hd)) else (zgI (mp h1 (mK I a2 k2 (nI q1) n2 0 (-1)) (va_up (va_up A 21 R) 22 hd)) 12 (some 27) 6).bind fun x4 => if x4 = (3 : Int32) then f_X12_face_63 N N 27 (nI fc) (10001 : Int32) (0 : Int32) (mp h1 (mK I a2 k2 (nI q1) n2 0 (-1)) (va_up (va_up A 21 R) 22 hd)) else (zgI (mp h1 (mK I a2 k2 (nI q1) n2 0 (-1)) (va_up (va_up A 21 R) 22 hd)) 12 (some 27) 7).bind fun x5 => (zck (mp h1 (mK I a2 k2 (nI q1) n2 0 (-1)) (va_up (va_up A 21 R) 22 hd)) 12 (some 27)).bind fun q2 => (f_X12_fail N q2 (1 : Int32) x5 (mp h1 (mK I a2 k2 (nI q1) n2 0 (-1)) (va_up (va_up A 21 R) 22 hd))).bind fun h2 => f_X12_face_63 N N 27 (nI fc) (10001 : Int32) (0 : Int32) h2) = X → f_X12_face N 27 (mp h1 (mK I (nI e) 1 (nI q) m 0 (-1)) (va_up (va_up A 21 R) 22 hd)) = X := fun hl1 hX => bS (mg21 hl1) (bS ((lr (j := 14) hl1 (by omega)).trans (congrArg some d1)) (iF (fun z => h4 ((nI_eq (b := 4) (by omega) (by omega)).mp z)) (bS (mg21 hl1) (bS ((lr (j := 14) hl1 (by omega)).trans (congrArg some d1)) (bS (mck hl1) (bS (nx _ hl1) hX))))))
  by_cases hkk : k2 = 2 ∨ k2 = 3
  · have lp := b_floop (N := N) (K := K) (KR := KR) (KP := KP) (e0 := e) hl hN wc wm hKR 12 0 R e q1 10001 0 n s a2 k2 n2 N N (by omega) (by omega) (by omega) (di.face h4') (by omega) rb tk2 (by omega) (by omega) (by omega) (fun _ => hkk)
    have meq : ∀ h1 : zH, 46 ≤ h1.length → f_X12_face N 27 (mp h1 (mK I (nI e) 1 (nI q) m 0 (-1)) (va_up (va_up A 21 R) 22 hd)) = f_X12_face_63 N N 27 (nI fc) (nI 10001) (nI 0) (mp h1 (mK I a2 k2 (nI q1) n2 0 (-1)) (va_up (va_up A 21 R) 22 hd)) := by
      intro h1 hl1
      refine mpre hl1 (bS (x6 hl1) ?_)
      by_cases c2 : k2 = 2
      · exact iT c2 rfl
      · exact iF c2 (bS (x6 hl1) (iT (hkk.resolve_left c2) rfl))
    rw [cpre rfl]
    rcases lp with ⟨ft, P, u1, u2, a', k', g', m', R', hd', u3⟩ | ⟨p', R', f8', hd', fc', n', s', k', g', m', u1, u2, u3, u4, u5⟩
    · exact Or.inl ⟨ft, P, u1, u2, a', k', g', m', R', hd', fun h1 hl1 => (meq h1 hl1).trans (u3 h1 hl1)⟩
    · exact Or.inr ⟨p', R', f8', hd', fc', n', s', k', g', m', u1, u2, u3, u4, fun h1 hl1 => (meq h1 hl1).trans (u5 h1 hl1)⟩
  · left
    have nd : ¬ (q1 < t ∧ isD (T q1)) := by
      intro nd
      apply hkk
      rcases tk2 with ⟨e1, e2, e3⟩ | ⟨e1, e2, e3, e4⟩ | ⟨e1, e2, e, r, ⟨e3, e4, e5, e6⟩ | ⟨e3, e4, e5⟩⟩ | ⟨e1, e2, e3, e4⟩ | ⟨e1, e2, e3, e4, e5, e6, e7⟩
      · omega
      · have := nd.2; unfold isD at this; unfold isL at e2; omega
      · exact Or.inl e4
      · exact Or.inr e4
      · have := nd.2; unfold isD at this; omega
      · exact absurd nd.2 e3
    obtain ⟨N', hN'⟩ : ∃ x, N = x + 1 := ⟨N - 1, by omega⟩
    refine ⟨1, nI q1, by decide, ⟨dR h R (nI (fc + 1)) f8, nI q1, 0, nI q1, isDC_R h R (nI (fc + 1)) f8, Or.inl (cpre ?_)⟩, a2, k2, nI q1, n2, R, hd, fun h1 hl1 => mpre hl1 (bS (x6 hl1) (iF (fun z => hkk (Or.inl z)) (bS (x6 hl1) (iF (fun z => hkk (Or.inr z)) (bS (x7 hl1) (bS (mck hl1) (bS (m_fail0 hl1) ?_)))))))⟩
    · have st : f_X5_readFace_26 N (N' + 1) 1 (nI 10001) (nI 0) (nI 0) (cp (h ++ dR h R (nI (fc + 1)) f8) (rK K (nI e) n s 0 (-1)) KR KA KP) = some (0, cp (h ++ dR h R (nI (fc + 1)) f8) (rK K (nI q1) 0 (nI q1) 1 (nI q1)) KR KA KP) := by
        rw [f_X5_readFace_26]
        exact iF (by decide) (iT (by decide) (bS (ck1 hlD) (zS (c_num0 hlD wc hN rb nd _ _) (iT rfl rfl))))
      rw [← hN'] at st
      exact st
    · have m63 := (m_face_bad (N := N) (C := fun _ _ _ _ _ => none) (I := I) (A := va_up (va_up A 21 R) 22 hd) (a := a2) (k := k2) (g := nI q1) (n := n2) (b := 1) (p := nI q1) hl1 (by decide)).2.2.2.2 N' (nI fc) 10001 0
      rw [← hN'] at m63
      exact m63
end face
