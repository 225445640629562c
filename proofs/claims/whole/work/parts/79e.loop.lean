/-! ===== round: the whole text ===== -/
section rloop
variable {h : zH} {K : Nat → Int32} {KR : Nat → Option Nat} {KA : Nat → Nat → Int32} {KP : Nat → Option Nat} {I : Nat → Int32} {A : Nat → Nat → Int32} {N t : Nat} {T : Nat → Nat}
def RdF (N : Nat) (h : zH) (K : Nat → Int32) (KR : Nat → Option Nat) (KA : Nat → Nat → Int32) (KP : Nat → Option Nat) (I : Nat → Int32) (A : Nat → Nat → Int32) (cs : Option (Option Nat × zH)) (ms : zH → Option (Int32 × zH)) : Prop :=
  ∃ ft P D a n s, ft ≠ 0 ∧ isDC h D ∧ cs = some (none, cp (h ++ D) (rK K a n s ft P) KR KA KP) ∧ ∃ a' k' g' m' R' hd', ∀ h1 : zH, 46 ≤ h1.length → ms h1 = f_X12_round_130 N 27 (mp h1 (mK I a' k' g' m' ft P) (va_up (va_up A 21 R') 22 hd'))
def RdS (N : Nat) (h : zH) (K : Nat → Int32) (KR : Nat → Option Nat) (KA : Nat → Nat → Int32) (KP : Nat → Option Nat) (I : Nat → Int32) (A : Nat → Nat → Int32) (cs : Option (Option Nat × zH)) (ms : zH → Option (Int32 × zH)) : Prop :=
  ∃ R' fc' f8' hd' a n s a' k' g' m', DI R' fc' f8' hd' ∧ R' 1 ≠ 0 ∧ cs = some (some (h.length + 0), cp (h ++ dR h R' (nI fc') f8') (rK K a n s 0 (-1)) KR KA KP) ∧ ∀ h1 : zH, 46 ≤ h1.length → ms h1 = f_X12_round_130 N 27 (mp h1 (mK I a' k' g' m' 0 (-1)) (va_up (va_up A 21 R') 22 hd'))
theorem c_r86f (hl : 46 ≤ h.length) {a n s ft P : Int32} (hf : ft ≠ 0) : f_X5_read_86 N 1 (cp h (rK K a n s ft P) KR KA KP) = some (none, cp h (rK K a n s ft P) KR KA KP) := bS (r5 hl) (iF hf (bS (r5 hl) (iF hf rfl)))
theorem c_r32f (hl : 46 ≤ h.length) {a n s ft P i : Int32} {fuel : Nat} (hf : ft ≠ 0) : f_X5_read_32 N (fuel + 1) 1 i (cp h (rK K a n s ft P) KR KA KP) = some (none, cp h (rK K a n s ft P) KR KA KP) := by
  rw [f_X5_read_32]
  by_cases hi : (1000 : Int32) ≤ i
  · exact iT hi (c_r86f hl hf)
  · exact iF hi (bS (r5 hl) (iF hf (c_r86f hl hf)))
theorem m_r73f (hl : 46 ≤ h.length) {a k g n b p : Int32} {fuel : Nat} (hb : b ≠ 0) : f_X12_round_73 N (fuel + 1) 27 (mp h (mK I a k g n b p) A) = f_X12_round_130 N 27 (mp h (mK I a k g n b p) A) := by
  rw [f_X12_round_73]
  exact bS (x9 hl) (iF hb (bS (x9 hl) (iF hb rfl)))
theorem zck_v {X : zH} {c a v : Nat} (h : zck X c (some a) = some v) : v = a := by
  unfold zck zo at h
  dsimp only at h
  split at h
  · split at h
    · simp at h; exact h.symm
    · cases h
  · cases h
theorem ckX {X1 : zH} {c : Int32} {r : Int32 × zH} (u : f_X5_readSign N 1 c X1 = some r) : zck X1 5 (some 1) = some 1 := by
  unfold f_X5_readSign at u
  cases hc : zck X1 5 (some 1) with
  | none => rw [hc] at u; cases u
  | some v => rw [zck_v hc]
theorem b_read (hl : 46 ≤ h.length) (hN : 1100 ≤ N) (wc : tpC K KA T t) (wm : tpM I A T t) (hKR : KR 1 = some (h.length + 0)) :
    ∀ (j i q : Nat) (R f8 hd : Nat → Int32) (fc : Nat) (n s a kk nn : Int32) (f1 f2 : Nat), q ≤ t → t - q ≤ j → i ≤ q → j + 2 < f1 → j + 2 < f2 → DI R fc f8 hd → TK T t q a kk nn →
    RdF N h K KR KA KP I A (f_X5_read_32 N f1 1 (nI i) (cp (h ++ dR h R (nI fc) f8) (rK K (nI q) n s 0 (-1)) KR KA KP)) (fun h1 => f_X12_round_73 N f2 27 (mp h1 (mK I a kk (nI q) nn 0 (-1)) (va_up (va_up A 21 R) 22 hd))) ∨
    RdS N h K KR KA KP I A (f_X5_read_32 N f1 1 (nI i) (cp (h ++ dR h R (nI fc) f8) (rK K (nI q) n s 0 (-1)) KR KA KP)) (fun h1 => f_X12_round_73 N f2 27 (mp h1 (mK I a kk (nI q) nn 0 (-1)) (va_up (va_up A 21 R) 22 hd))) := by
  have hlD : ∀ {D : List zE}, 46 ≤ (h ++ D).length := by intro D; rw [List.length_append]; omega
  have t1 := wc.2.1
  intro j
  induction j with
  | zero =>
    intro i q R f8 hd fc n s a kk nn f1 f2 hq hj hi hf1 hf2 di tk
    obtain ⟨f1, rfl⟩ : ∃ x, f1 = x + 1 := ⟨f1 - 1, by omega⟩
    obtain ⟨f2, rfl⟩ : ∃ x, f2 = x + 1 := ⟨f2 - 1, by omega⟩
    have hqt : q = t := by omega
    have hk0 : kk = 0 := by
      rcases tk with ⟨e1, e2, e3⟩ | ⟨e1, -⟩ | ⟨e1, -⟩ | ⟨e1, -⟩ | ⟨e1, -⟩
      · exact e2
      all_goals omega
    subst hk0
    obtain ⟨L, ts, d1, d2, d3, d4, d5, d6, d7, d8, d9, d10, d11, d12⟩ := id di
    have c86 : ∀ {X}, f_X5_read_86 N 1 (cp (h ++ dR h R (nI fc) f8) (rK K (nI q) n s 0 (-1)) KR KA KP) = X → f_X5_read_32 N (f1 + 1) 1 (nI i) (cp (h ++ dR h R (nI fc) f8) (rK K (nI q) n s 0 (-1)) KR KA KP) = X := by
      intro X hX
      rw [f_X5_read_32]
      by_cases hi2 : (1000 : Int32) ≤ nI i
      · exact iT hi2 hX
      · exact iF hi2 (bS (r5 hlD) (iT rfl (bS (r2 hlD) (bS (cg1_0 hlD) (bS (rl hlD wc) (iT (by rw [hqt]; exact Int32.le_refl _) hX))))))
    have m105 : ∀ {h1 : zH} {X}, 46 ≤ h1.length → f_X12_round_105 N 27 (mp h1 (mK I a 0 (nI q) nn 0 (-1)) (va_up (va_up A 21 R) 22 hd)) = X → f_X12_round_73 N (f2 + 1) 27 (mp h1 (mK I a 0 (nI q) nn 0 (-1)) (va_up (va_up A 21 R) 22 hd)) = X := by
      intro h1 X hl1 hX
      rw [f_X12_round_73]
      exact bS (x9 hl1) (iT rfl (bS (x6 hl1) (iT rfl hX)))
    have eL : zgI (cp (h ++ dR h R (nI fc) f8) (rK K (nI q) n s 0 (-1)) KR KA KP) 6 (some (h.length + 0)) 4 = some (R 1) := n_I hl (i := 0) rfl rfl
    by_cases hL : R 1 = 0
    · left
      refine ⟨1, nI t, dR h R (nI fc) f8, nI q, n, s, by decide, isDC_R _ _ _ _, c86 (bS (r5 hlD) (iT rfl (bS (c_dr hl hKR) (bS eL (iT hL (bS (cg1_0 hlD) (bS (rl hlD wc) (bS (ck1 hlD) (zS (c_refuse hlD) (bS (r5 hlD) (iF (by decide) rfl))))))))))), a, 0, nI q, nn, R, hd, fun h1 hl1 => m105 hl1 (bS (x9 hl1) (iT rfl (bS (mg21 hl1) (bS (lr (j := 1) hl1 (by omega)) (iT hL (bS (x5 hl1 (wm.r R hd)) (bS (mck hl1) (bS (m_fail0 hl1) rfl))))))))⟩
    · right
      exact ⟨R, fc, f8, hd, nI q, n, s, a, 0, nI q, nn, di, hL, c86 (bS (r5 hlD) (iT rfl (bS (c_dr hl hKR) (bS eL (iF hL (bS (r5 hlD) (iT rfl (bS (c_dr hl hKR) rfl)))))))), fun h1 hl1 => m105 hl1 (bS (x9 hl1) (iT rfl (bS (mg21 hl1) (bS (lr (j := 1) hl1 (by omega)) (iF hL rfl)))))⟩
  | succ j ih =>
    intro i q R f8 hd fc n s a kk nn f1 f2 hq hj hi hf1 hf2 di tk
    by_cases hqt : q = t
    · exact ih i q R f8 hd fc n s a kk nn f1 f2 hq (by omega) hi (by omega) (by omega) di tk
    have hq : q < t := by omega
    obtain ⟨f1, rfl⟩ : ∃ x, f1 = x + 1 := ⟨f1 - 1, by omega⟩
    obtain ⟨f2, rfl⟩ : ∃ x, f2 = x + 1 := ⟨f2 - 1, by omega⟩
    have hk0 : kk ≠ 0 := by
      rcases tk with ⟨e1, e2, e3⟩ | ⟨e1, e2, e3, e4⟩ | ⟨e1, e2, e, r, ⟨e3, e4, e5, e6⟩ | ⟨e3, e4, e5⟩⟩ | ⟨e1, e2, e3, e4⟩ | ⟨e1, e2, e3, e4, e5, e6, e7⟩
      · omega
      · rw [e3]; decide
      · rw [e4]; decide
      · rw [e4]; decide
      · rcases e2 with e2 | e2 <;> rw [e3, e2] <;> decide
      · rw [e6]; decide
    have cpre : ∀ {X}, zb2 (f_X5_readStatement N 1 (cp (h ++ dR h R (nI fc) f8) (rK K (nI q) n s 0 (-1)) KR KA KP)) (fun x5 h1 => if x5 = 0 then f_X5_read_32 N f1 1 (nI (i + 1)) h1 else (zck h1 5 (some 1)).bind fun q2 => zb2 (f_X5_readSign N q2 (59 : Int32) h1) fun x6 h2 => if x6 = 0 then f_X5_read_32 N f1 1 (nI (i + 1)) h2 else (zck h2 5 (some 1)).bind fun q3 => (f_X5_skipBlanks N q3 h2).bind fun h3 => f_X5_read_32 N f1 1 (nI (i + 1)) h3) = X → f_X5_read_32 N (f1 + 1) 1 (nI i) (cp (h ++ dR h R (nI fc) f8) (rK K (nI q) n s 0 (-1)) KR KA KP) = X := by
      intro X hX
      rw [f_X5_read_32, la_r]
      exact iF (nI_ge (b := 1000) (by omega) (by omega)) (bS (r5 hlD) (iT rfl (bS (r2 hlD) (bS (cg1_0 hlD) (bS (rl hlD wc) (iF (nI_ge hq (by omega)) (bS (ck1 hlD) hX)))))))
    have mpre : ∀ {h1 : zH} {X}, 46 ≤ h1.length → ((f_X12_statement N 27 (mp h1 (mK I a kk (nI q) nn 0 (-1)) (va_up (va_up A 21 R) 22 hd))).bind fun h1 => (zgI h1 12 (some 27) 9).bind fun x3 => if x3 = 0 then (zck h1 12 (some 27)).bind fun q2 => (f_X12_next N q2 h1).bind fun h2 => f_X12_round_73 N f2 27 h2 else f_X12_round_73 N f2 27 h1) = X → f_X12_round_73 N (f2 + 1) 27 (mp h1 (mK I a kk (nI q) nn 0 (-1)) (va_up (va_up A 21 R) 22 hd)) = X := by
      intro h1 X hl1 hX
      rw [f_X12_round_73]
      exact bS (x9 hl1) (iT rfl (bS (x6 hl1) (iF hk0 (bS (mck hl1) hX))))
    rcases b_stmt (N := N) (K := K) (KR := KR) (KP := KP) (n := n) (s := s) hl hN wc wm hKR di hq tk with ⟨ft, P, u1, ⟨D, a0, n0, s0, u2, u3⟩, a', k', g', m', R', hd', u4⟩ | ⟨p', R', f8', hd', fc', n0, s0, k', g', m', u1, u2, u3, ⟨X1, u4, u5⟩, u6⟩
    · left
      obtain ⟨f1, rfl⟩ : ∃ x, f1 = x + 1 := ⟨f1 - 1, by omega⟩
      obtain ⟨f2, rfl⟩ : ∃ x, f2 = x + 1 := ⟨f2 - 1, by omega⟩
      refine ⟨ft, P, D, a0, n0, s0, u1, u2, ?_, a', k', g', m', R', hd', fun h1 hl1 => mpre hl1 (bS (u4 h1 hl1) (bS (x9 hl1) (iF u1 (m_r73f hl1 u1))))⟩
      rcases u3 with u3 | ⟨X1, u3, u5⟩
      · exact cpre (zS u3 (iT rfl (c_r32f hlD u1)))
      · exact cpre (zS u3 (iF (by decide) (bS (ckX u5) (zS u5 (iT rfl (c_r32f hlD u1))))))
    · obtain ⟨q', rb⟩ := run_ex isB T u2
      have rb1 := rb.1
      have rb2 := rb.2.1
      obtain ⟨a2, k2, n2, tk2, nx⟩ := m_next (N := N) (k := k') (g := g') (n := m') (b := 0) (p := -1) trivial hN (wm.r R' hd') rb
      have ceq : f_X5_read_32 N (f1 + 1) 1 (nI i) (cp (h ++ dR h R (nI fc) f8) (rK K (nI q) n s 0 (-1)) KR KA KP) = f_X5_read_32 N f1 1 (nI (i + 1)) (cp (h ++ dR h R' (nI fc') f8') (rK K (nI q') n0 s0 0 (-1)) KR KA KP) := cpre (zS u4 (iF (by decide) (bS (ckX u5) (zS u5 (iF (by decide) (bS (ck1 hlD) (bS (c_skipB hlD wc hN rb) rfl)))))))
      have meq : ∀ h1 : zH, 46 ≤ h1.length → f_X12_round_73 N (f2 + 1) 27 (mp h1 (mK I a kk (nI q) nn 0 (-1)) (va_up (va_up A 21 R) 22 hd)) = f_X12_round_73 N f2 27 (mp h1 (mK I a2 k2 (nI q') n2 0 (-1)) (va_up (va_up A 21 R') 22 hd')) := fun h1 hl1 => mpre hl1 (bS (u6 h1 hl1) (bS (x9 hl1) (iT rfl (bS (mck hl1) (bS (nx h1 hl1) rfl)))))
      rw [ceq]
      rcases ih (i + 1) q' R' f8' hd' fc' n0 s0 a2 k2 n2 f1 f2 rb2 (by omega) (by omega) (by omega) (by omega) u3 tk2 with ⟨ft, P, D, a0, n1, s1, w1, w2, w3, b1, b2, b3, b4, b5, b6, w4⟩ | ⟨R2, fc2, f82, hd2, a0, n1, s1, b1, b2, b3, b4, w1, w2, w3, w4⟩
      · exact Or.inl ⟨ft, P, D, a0, n1, s1, w1, w2, w3, b1, b2, b3, b4, b5, b6, fun h1 hl1 => (meq h1 hl1).trans (w4 h1 hl1)⟩
      · exact Or.inr ⟨R2, fc2, f82, hd2, a0, n1, s1, b1, b2, b3, b4, w1, w2, w3, fun h1 hl1 => (meq h1 hl1).trans (w4 h1 hl1)⟩
end rloop
