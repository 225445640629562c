/-! ===== round: a statement, the text ===== -/
section rdl
variable {h : zH} {K : Nat → Int32} {KR : Nat → Option Nat} {KA : Nat → Nat → Int32} {KP : Nat → Option Nat} {I : Nat → Int32} {A : Nat → Nat → Int32} {N t fc : Nat} {T : Nat → Nat} {R f8 hd : Nat → Int32}
theorem OutF.tr {cs cs' : Option (Int32 × zH)} {ms ms' : zH → Option zH} (w : OutF N h K KR KA KP I A cs ms) (h0 : ∀ X, cs = some (0, X) → cs' = some (0, X)) (h1 : ∀ X, cs = some (1, X) → cs' = some (1, X)) (hm : ∀ (h1 : zH) X, 46 ≤ h1.length → ms h1 = some X → ms' h1 = some X) : OutF N h K KR KA KP I A cs' ms' := by
  obtain ⟨ft, P, u1, ⟨D, a, n, s, u2, u3⟩, a', k', g', m', R', hd', u4⟩ := w
  refine ⟨ft, P, u1, ⟨D, a, n, s, u2, ?_⟩, a', k', g', m', R', hd', fun h1 hl1 => hm h1 _ hl1 (u4 h1 hl1)⟩
  rcases u3 with u3 | ⟨X1, u3, u5⟩
  · exact Or.inl (h0 _ u3)
  · exact Or.inr ⟨X1, h1 _ u3, u5⟩
theorem OutS.tr {e e' : Nat} {cs cs' : Option (Int32 × zH)} {ms ms' : zH → Option zH} (w : OutS N h K KR KA KP I A t e cs ms) (he : e' ≤ e) (h1 : ∀ X, cs = some (1, X) → cs' = some (1, X)) (hm : ∀ (h1 : zH) X, 46 ≤ h1.length → ms h1 = some X → ms' h1 = some X) : OutS N h K KR KA KP I A t e' cs' ms' := by
  obtain ⟨p', R', f8', hd', fc', n, s, k', g', m', u1, u2, u3, ⟨X1, u4, u5⟩, u6⟩ := w
  exact ⟨p', R', f8', hd', fc', n, s, k', g', m', by omega, u2, u3, ⟨X1, h1 _ u4, u5⟩, fun h1 hl1 => hm h1 _ hl1 (u6 h1 hl1)⟩
theorem b_stmt (hl : 46 ≤ h.length) (hN : 1100 ≤ N) (wc : tpC K KA T t) (wm : tpM I A T t) (hKR : KR 1 = some (h.length + 0)) (di : DI R fc f8 hd) {q : Nat} (hq : q < t) {n s a kk nn : Int32} (tk : TK T t q a kk nn) :
    OutF N h K KR KA KP I A (f_X5_readStatement N 1 (cp (h ++ dR h R (nI fc) f8) (rK K (nI q) n s 0 (-1)) KR KA KP)) (fun h1 => f_X12_statement N 27 (mp h1 (mK I a kk (nI q) nn 0 (-1)) (va_up (va_up A 21 R) 22 hd))) ∨
    OutS N h K KR KA KP I A t q (f_X5_readStatement N 1 (cp (h ++ dR h R (nI fc) f8) (rK K (nI q) n s 0 (-1)) KR KA KP)) (fun h1 => f_X12_statement N 27 (mp h1 (mK I a kk (nI q) nn 0 (-1)) (va_up (va_up A 21 R) 22 hd))) := by
  have hlD : ∀ {D : List zE}, 46 ≤ (h ++ D).length := by intro D; rw [List.length_append]; omega
  have t1 := wc.2.1
  have wm' := wm.r R hd
  have z7 : ∀ k, k < 8 → 1 ≤ zSl.getD k 0 := by
    intro k hk
    rcases (show k = 0 ∨ k = 1 ∨ k = 2 ∨ k = 3 ∨ k = 4 ∨ k = 5 ∨ k = 6 ∨ k = 7 by omega) with rfl | rfl | rfl | rfl | rfl | rfl | rfl | rfl <;> decide
  obtain ⟨e, r, hkk⟩ : ∃ e, run isL T t q e ∧ ((kk = 1 ∧ a = nI e) ∨ (kk ≠ 1 ∧ e = q)) := by
    by_cases cl : isL (T q)
    · rcases tk with ⟨e1, e2, e3⟩ | ⟨e1, e2, e3, e, r, e4⟩ | ⟨e1, e2, -⟩ | ⟨e1, e2, e3, e4⟩ | ⟨e1, e2, e3, e4, e5, e6, e7⟩
      · omega
      · exact ⟨e, r, Or.inl ⟨e3, e4⟩⟩
      · unfold isL at cl; unfold isD at e2; omega
      · unfold isL at cl; omega
      · exact absurd cl e2
    · refine ⟨q, ⟨by omega, by omega, fun j u1 u2 => by omega, fun _ => cl⟩, Or.inr ⟨?_, rfl⟩⟩
      rcases tk with ⟨e1, e2, e3⟩ | ⟨e1, e2, e3, e, r, e4⟩ | ⟨e1, e2, e, r, ⟨e3, e4, e5, e6⟩ | ⟨e3, e4, e5⟩⟩ | ⟨e1, e2, e3, e4⟩ | ⟨e1, e2, e3, e4, e5, e6, e7⟩
      · omega
      · exact absurd e2 cl
      · rw [e4]; decide
      · rw [e4]; decide
      · rcases e2 with e2 | e2 <;> rw [e3, e2] <;> decide
      · rw [e6]; decide
  obtain ⟨e1, e2, e3, e4⟩ := id r
  have sp := fun k (hk : k < 8) => c_spelt (N := N) (h := h ++ dR h R (nI fc) f8) (K := K) (KR := KR) (KP := KP) (n := n) (s := s) (f := 0) (pl := -1) hlD wc hN hk r
  obtain ⟨v0, s0, w0⟩ := sp 0 (by omega)
  obtain ⟨v1, s1, w1⟩ := sp 1 (by omega)
  obtain ⟨v2, s2, w2⟩ := sp 2 (by omega)
  obtain ⟨v3, s3, w3⟩ := sp 3 (by omega)
  obtain ⟨v4, s4, w4⟩ := sp 4 (by omega)
  obtain ⟨v5, s5, w5⟩ := sp 5 (by omega)
  obtain ⟨v6, s6, w6⟩ := sp 6 (by omega)
  obtain ⟨v7, s7, w7⟩ := sp 7 (by omega)
  have sk := c_skipL (N := N) (h := h ++ dR h R (nI fc) f8) (K := K) (KR := KR) (KP := KP) (n := n) (s := s) (f := 0) (pl := -1) hlD wc hN r
  have ck := fun (K' : Nat → Int32) => ck1 (h := h ++ dR h R (nI fc) f8) (KI := K') (KR := KR) (KA := KA) (KP := KP) hlD
  rcases hkk with ⟨rfl, rfl⟩ | ⟨hk1, rfl⟩
  · have mw := fun (h1 : zH) (hl1 : 46 ≤ h1.length) k (hk : k < 8) => m_word (N := N) (I := I) (A := va_up (va_up A 21 R) 22 hd) (n := nn) (b := 0) (p := -1) hl1 hN wm' hk r
    by_cases c0 : wdQ T q e 0
    · have cf : ∀ {v X}, (v = 0 ∨ v = 1) → f_X5_readFace N 1 (nI q) (cp (h ++ dR h R (nI fc) f8) (rK K (nI e) n s 0 (-1)) KR KA KP) = some (v, X) → f_X5_readStatement N 1 (cp (h ++ dR h R (nI fc) f8) (rK K (nI q) n s 0 (-1)) KR KA KP) = some (v, X) := fun hv hX => bS (r2 hlD) (bS (ck _) (bS sk (bS (ck _) (zS s0 (iF (fun z => w0.mp z c0) (bS (ck _) (zS hX (iT hv rfl))))))))
      have mf : ∀ (h1 : zH) X, 46 ≤ h1.length → f_X12_face N 27 (mp h1 (mK I (nI e) 1 (nI q) nn 0 (-1)) (va_up (va_up A 21 R) 22 hd)) = some X → f_X12_statement N 27 (mp h1 (mK I (nI e) 1 (nI q) nn 0 (-1)) (va_up (va_up A 21 R) 22 hd)) = some X := by
        intro h1 X hl1 hX
        obtain ⟨u0, p0, o0⟩ := mw h1 hl1 0 (by omega)
        exact bS (x6 hl1) (iT rfl (bS (mg13 hl1) (bS (mck hl1) (bS p0 (iF (fun z => o0.mp z c0) (bS (mck hl1) (bS hX rfl)))))))
      rcases b_face (N := N) (K := K) (KR := KR) (KP := KP) (q := q) (e := e) (n := n) (s := s) (m := nn) hl hN wc wm hKR di e2 with w | w
      · exact Or.inl (w.tr (fun X hX => cf (Or.inl rfl) hX) (fun X hX => cf (Or.inr rfl) hX) mf)
      · exact Or.inr (w.tr e1 (fun X hX => cf (Or.inr rfl) hX) mf)
    by_cases c1 : wdQ T q e 1
    · have cf : ∀ {v X}, (v = 0 ∨ v = 1) → f_X5_readLeg N 1 (nI q) (cp (h ++ dR h R (nI fc) f8) (rK K (nI e) n s 0 (-1)) KR KA KP) = some (v, X) → f_X5_readStatement N 1 (cp (h ++ dR h R (nI fc) f8) (rK K (nI q) n s 0 (-1)) KR KA KP) = some (v, X) := fun hv hX => bS (r2 hlD) (bS (ck _) (bS sk (bS (ck _) (zS s0 (iT (w0.mpr c0) (bS (ck _) (zS s1 (iF (fun z => w1.mp z c1) (bS (ck _) (zS hX (iT hv rfl)))))))))))
      have mf : ∀ (h1 : zH) X, 46 ≤ h1.length → f_X12_leg N 27 (mp h1 (mK I (nI e) 1 (nI q) nn 0 (-1)) (va_up (va_up A 21 R) 22 hd)) = some X → f_X12_statement N 27 (mp h1 (mK I (nI e) 1 (nI q) nn 0 (-1)) (va_up (va_up A 21 R) 22 hd)) = some X := by
        intro h1 X hl1 hX
        obtain ⟨u0, p0, o0⟩ := mw h1 hl1 0 (by omega)
        obtain ⟨u1, p1, o1⟩ := mw h1 hl1 1 (by omega)
        exact bS (x6 hl1) (iT rfl (bS (mg13 hl1) (bS (mck hl1) (bS p0 (iT (o0.mpr c0) (bS (mg14 hl1) (bS (mck hl1) (bS p1 (iF (fun z => o1.mp z c1) (bS (mck hl1) (bS hX rfl)))))))))))
      rcases b_leg (N := N) (K := K) (KR := KR) (KP := KP) (q := q) (e := e) (n := n) (s := s) (m := nn) hl hN wc wm hKR di e2 with w | w
      · exact Or.inl (w.tr (fun X hX => cf (Or.inl rfl) hX) (fun X hX => cf (Or.inr rfl) hX) mf)
      · exact Or.inr (w.tr e1 (fun X hX => cf (Or.inr rfl) hX) mf)
    by_cases c2 : wdQ T q e 2
    · have cf : ∀ {v X}, cMost N (nI q) (cp (h ++ dR h R (nI fc) f8) (rK K (nI e) n s 0 (-1)) KR KA KP) = some (v, X) → f_X5_readStatement N 1 (cp (h ++ dR h R (nI fc) f8) (rK K (nI q) n s 0 (-1)) KR KA KP) = some (v, X) := fun hX => bS (r2 hlD) (bS (ck _) (bS sk (bS (ck _) (zS s0 (iT (w0.mpr c0) (bS (ck _) (zS s1 (iT (w1.mpr c1) (bS (ck _) (zS s2 (iF (fun z => w2.mp z c2) (bS (ck _) hX))))))))))))
      have mf : ∀ (h1 : zH) X, 46 ≤ h1.length → f_X12_tie N 27 (0 : Int32) (mp h1 (mK I (nI e) 1 (nI q) nn 0 (-1)) (va_up (va_up A 21 R) 22 hd)) = some X → f_X12_statement N 27 (mp h1 (mK I (nI e) 1 (nI q) nn 0 (-1)) (va_up (va_up A 21 R) 22 hd)) = some X := by
        intro h1 X hl1 hX
        obtain ⟨u0, p0, o0⟩ := mw h1 hl1 0 (by omega)
        obtain ⟨u1, p1, o1⟩ := mw h1 hl1 1 (by omega)
        obtain ⟨u2, p2, o2⟩ := mw h1 hl1 2 (by omega)
        exact bS (x6 hl1) (iT rfl (bS (mg13 hl1) (bS (mck hl1) (bS p0 (iT (o0.mpr c0) (bS (mg14 hl1) (bS (mck hl1) (bS p1 (iT (o1.mpr c1) (bS (mg15 hl1) (bS (mck hl1) (bS p2 (iF (fun z => o2.mp z c2) (bS (mck hl1) (bS hX rfl)))))))))))))))
      rcases b_most (N := N) (K := K) (KR := KR) (KP := KP) (q := q) (e := e) (n := n) (s := s) (m := nn) hl hN wc wm hKR di e2 with w | w
      · exact Or.inl (w.tr (fun X hX => cf hX) (fun X hX => cf hX) mf)
      · exact Or.inr (w.tr e1 (fun X hX => cf hX) mf)
    by_cases c3 : wdQ T q e 3
    · have cf : ∀ {v X}, cTie N (nI q) 21 (cp (h ++ dR h R (nI fc) f8) (rK K (nI e) n s 0 (-1)) KR KA KP) = some (v, X) → f_X5_readStatement N 1 (cp (h ++ dR h R (nI fc) f8) (rK K (nI q) n s 0 (-1)) KR KA KP) = some (v, X) := fun hX => bS (r2 hlD) (bS (ck _) (bS sk (bS (ck _) (zS s0 (iT (w0.mpr c0) (bS (ck _) (zS s1 (iT (w1.mpr c1) (bS (ck _) (zS s2 (iT (w2.mpr c2) (bS (ck _) (zS s3 (iF (fun z => w3.mp z c3) (bS (ck _) hX)))))))))))))))
      have mf : ∀ (h1 : zH) X, 46 ≤ h1.length → f_X12_tie N 27 (nI 21) (mp h1 (mK I (nI e) 1 (nI q) nn 0 (-1)) (va_up (va_up A 21 R) 22 hd)) = some X → f_X12_statement N 27 (mp h1 (mK I (nI e) 1 (nI q) nn 0 (-1)) (va_up (va_up A 21 R) 22 hd)) = some X := by
        intro h1 X hl1 hX
        obtain ⟨u0, p0, o0⟩ := mw h1 hl1 0 (by omega)
        obtain ⟨u1, p1, o1⟩ := mw h1 hl1 1 (by omega)
        obtain ⟨u2, p2, o2⟩ := mw h1 hl1 2 (by omega)
        obtain ⟨u3, p3, o3⟩ := mw h1 hl1 3 (by omega)
        exact bS (x6 hl1) (iT rfl (bS (mg13 hl1) (bS (mck hl1) (bS p0 (iT (o0.mpr c0) (bS (mg14 hl1) (bS (mck hl1) (bS p1 (iT (o1.mpr c1) (bS (mg15 hl1) (bS (mck hl1) (bS p2 (iT (o2.mpr c2) (bS (mg16 hl1) (bS (mck hl1) (bS p3 (iF (fun z => o3.mp z c3) (bS (mck hl1) (bS hX rfl)))))))))))))))))))
      rcases b_tie (N := N) (K := K) (KR := KR) (KP := KP) (q := q) (e := e) (n := n) (s := s) (m := nn) hl hN wc wm hKR di e2 (Or.inl rfl) with w | w
      · exact Or.inl (w.tr (fun X hX => cf hX) (fun X hX => cf hX) mf)
      · exact Or.inr (w.tr e1 (fun X hX => cf hX) mf)
    by_cases c4 : wdQ T q e 4
    · have cf : ∀ {v X}, cTie N (nI q) 22 (cp (h ++ dR h R (nI fc) f8) (rK K (nI e) n s 0 (-1)) KR KA KP) = some (v, X) → f_X5_readStatement N 1 (cp (h ++ dR h R (nI fc) f8) (rK K (nI q) n s 0 (-1)) KR KA KP) = some (v, X) := fun hX => bS (r2 hlD) (bS (ck _) (bS sk (bS (ck _) (zS s0 (iT (w0.mpr c0) (bS (ck _) (zS s1 (iT (w1.mpr c1) (bS (ck _) (zS s2 (iT (w2.mpr c2) (bS (ck _) (zS s3 (iT (w3.mpr c3) (bS (ck _) (zS s4 (iF (fun z => w4.mp z c4) (bS (ck _) hX))))))))))))))))))
      have mf : ∀ (h1 : zH) X, 46 ≤ h1.length → f_X12_tie N 27 (nI 22) (mp h1 (mK I (nI e) 1 (nI q) nn 0 (-1)) (va_up (va_up A 21 R) 22 hd)) = some X → f_X12_statement N 27 (mp h1 (mK I (nI e) 1 (nI q) nn 0 (-1)) (va_up (va_up A 21 R) 22 hd)) = some X := by
        intro h1 X hl1 hX
        obtain ⟨u0, p0, o0⟩ := mw h1 hl1 0 (by omega)
        obtain ⟨u1, p1, o1⟩ := mw h1 hl1 1 (by omega)
        obtain ⟨u2, p2, o2⟩ := mw h1 hl1 2 (by omega)
        obtain ⟨u3, p3, o3⟩ := mw h1 hl1 3 (by omega)
        obtain ⟨u4, p4, o4⟩ := mw h1 hl1 4 (by omega)
        exact bS (x6 hl1) (iT rfl (bS (mg13 hl1) (bS (mck hl1) (bS p0 (iT (o0.mpr c0) (bS (mg14 hl1) (bS (mck hl1) (bS p1 (iT (o1.mpr c1) (bS (mg15 hl1) (bS (mck hl1) (bS p2 (iT (o2.mpr c2) (bS (mg16 hl1) (bS (mck hl1) (bS p3 (iT (o3.mpr c3) (bS (mg17 hl1) (bS (mck hl1) (bS p4 (iF (fun z => o4.mp z c4) (bS (mck hl1) (bS hX rfl)))))))))))))))))))))))
      rcases b_tie (N := N) (K := K) (KR := KR) (KP := KP) (q := q) (e := e) (n := n) (s := s) (m := nn) hl hN wc wm hKR di e2 (Or.inr rfl) with w | w
      · exact Or.inl (w.tr (fun X hX => cf hX) (fun X hX => cf hX) mf)
      · exact Or.inr (w.tr e1 (fun X hX => cf hX) mf)
    have cpre : ∀ {X}, ((zck (cp (h ++ dR h R (nI fc) f8) (rK K (nI e) n s 0 (-1)) KR KA KP) 5 (some 1)).bind fun q7 => zb2 (f_X5_isSpelt N q7 (nI q) 5 (cp (h ++ dR h R (nI fc) f8) (rK K (nI e) n s 0 (-1)) KR KA KP)) fun x7 h7 => if x7 = 0 then (zck h7 5 (some 1)).bind fun q8 => zb2 (f_X5_isSpelt N q8 (nI q) 6 h7) fun x8 h8 => if x8 = 0 then (zck h8 5 (some 1)).bind fun q9 => zb2 (f_X5_isSpelt N q9 (nI q) 7 h8) fun x9 h9 => if x9 = 0 then (zck h9 5 (some 1)).bind fun q10 => zb2 (f_X5_refuse N q10 (1 : Int32) (nI q) h9) fun x10 h10 => if x10 = 0 ∨ x10 = 1 then some (x10, h10) else none else (zck h9 5 (some 1)).bind fun q11 => zb2 (f_X5_readOnce N q11 (nI q) (2 : Int32) (100 : Int32) h9) fun x11 h11 => if x11 = 0 ∨ x11 = 1 then some (x11, h11) else none else (zck h8 5 (some 1)).bind fun q12 => zb2 (f_X5_readOnce N q12 (nI q) (1 : Int32) (20 : Int32) h8) fun x12 h12 => if x12 = 0 ∨ x12 = 1 then some (x12, h12) else none else (zck h7 5 (some 1)).bind fun q13 => zb2 (f_X5_readOnce N q13 (nI q) (0 : Int32) (20 : Int32) h7) fun x13 h13 => if x13 = 0 ∨ x13 = 1 then some (x13, h13) else none) = X → f_X5_readStatement N 1 (cp (h ++ dR h R (nI fc) f8) (rK K (nI q) n s 0 (-1)) KR KA KP) = X := fun hX => bS (r2 hlD) (bS (ck _) (bS sk (bS (ck _) (zS s0 (iT (w0.mpr c0) (bS (ck _) (zS s1 (iT (w1.mpr c1) (bS (ck _) (zS s2 (iT (w2.mpr c2) (bS (ck _) (zS s3 (iT (w3.mpr c3) (bS (ck _) (zS s4 (iT (w4.mpr c4) hX)))))))))))))))))
    have mpre : ∀ {h1 : zH} {X}, 46 ≤ h1.length → ((zgR (mp h1 (mK I (nI e) 1 (nI q) nn 0 (-1)) (va_up (va_up A 21 R) 22 hd)) 12 (some 27) 18).bind fun x12 => (zck (mp h1 (mK I (nI e) 1 (nI q) nn 0 (-1)) (va_up (va_up A 21 R) 22 hd)) 12 (some 27)).bind fun q6 => (f_X12_isWord N q6 x12 (mp h1 (mK I (nI e) 1 (nI q) nn 0 (-1)) (va_up (va_up A 21 R) 22 hd))).bind fun x13 => if x13 = 0 then (zgR (mp h1 (mK I (nI e) 1 (nI q) nn 0 (-1)) (va_up (va_up A 21 R) 22 hd)) 12 (some 27) 19).bind fun x14 => (zck (mp h1 (mK I (nI e) 1 (nI q) nn 0 (-1)) (va_up (va_up A 21 R) 22 hd)) 12 (some 27)).bind fun q7 => (f_X12_isWord N q7 x14 (mp h1 (mK I (nI e) 1 (nI q) nn 0 (-1)) (va_up (va_up A 21 R) 22 hd))).bind fun x15 => if x15 = 0 then (zgR (mp h1 (mK I (nI e) 1 (nI q) nn 0 (-1)) (va_up (va_up A 21 R) 22 hd)) 12 (some 27) 20).bind fun x16 => (zck (mp h1 (mK I (nI e) 1 (nI q) nn 0 (-1)) (va_up (va_up A 21 R) 22 hd)) 12 (some 27)).bind fun q8 => (f_X12_isWord N q8 x16 (mp h1 (mK I (nI e) 1 (nI q) nn 0 (-1)) (va_up (va_up A 21 R) 22 hd))).bind fun x17 => if x17 = 0 then (zgI (mp h1 (mK I (nI e) 1 (nI q) nn 0 (-1)) (va_up (va_up A 21 R) 22 hd)) 12 (some 27) 7).bind fun x18 => (zck (mp h1 (mK I (nI e) 1 (nI q) nn 0 (-1)) (va_up (va_up A 21 R) 22 hd)) 12 (some 27)).bind fun q9 => (f_X12_fail N q9 (1 : Int32) x18 (mp h1 (mK I (nI e) 1 (nI q) nn 0 (-1)) (va_up (va_up A 21 R) 22 hd))).bind fun h1 => some h1 else (zck (mp h1 (mK I (nI e) 1 (nI q) nn 0 (-1)) (va_up (va_up A 21 R) 22 hd)) 12 (some 27)).bind fun q10 => (f_X12_once N q10 (2 : Int32) (124 : Int32) (100 : Int32) (mp h1 (mK I (nI e) 1 (nI q) nn 0 (-1)) (va_up (va_up A 21 R) 22 hd))).bind fun h2 => some h2 else (zck (mp h1 (mK I (nI e) 1 (nI q) nn 0 (-1)) (va_up (va_up A 21 R) 22 hd)) 12 (some 27)).bind fun q11 => (f_X12_once N q11 (1 : Int32) (123 : Int32) (20 : Int32) (mp h1 (mK I (nI e) 1 (nI q) nn 0 (-1)) (va_up (va_up A 21 R) 22 hd))).bind fun h3 => some h3 else (zck (mp h1 (mK I (nI e) 1 (nI q) nn 0 (-1)) (va_up (va_up A 21 R) 22 hd)) 12 (some 27)).bind fun q12 => (f_X12_once N q12 (0 : Int32) (122 : Int32) (20 : Int32) (mp h1 (mK I (nI e) 1 (nI q) nn 0 (-1)) (va_up (va_up A 21 R) 22 hd))).bind fun h4 => some h4) = X → f_X12_statement N 27 (mp h1 (mK I (nI e) 1 (nI q) nn 0 (-1)) (va_up (va_up A 21 R) 22 hd)) = X := by
      intro h1 X hl1 hX
      obtain ⟨u0, p0, o0⟩ := mw h1 hl1 0 (by omega)
      obtain ⟨u1, p1, o1⟩ := mw h1 hl1 1 (by omega)
      obtain ⟨u2, p2, o2⟩ := mw h1 hl1 2 (by omega)
      obtain ⟨u3, p3, o3⟩ := mw h1 hl1 3 (by omega)
      obtain ⟨u4, p4, o4⟩ := mw h1 hl1 4 (by omega)
      exact bS (x6 hl1) (iT rfl (bS (mg13 hl1) (bS (mck hl1) (bS p0 (iT (o0.mpr c0) (bS (mg14 hl1) (bS (mck hl1) (bS p1 (iT (o1.mpr c1) (bS (mg15 hl1) (bS (mck hl1) (bS p2 (iT (o2.mpr c2) (bS (mg16 hl1) (bS (mck hl1) (bS p3 (iT (o3.mpr c3) (bS (mg17 hl1) (bS (mck hl1) (bS p4 (iT (o4.mpr c4) hX)))))))))))))))))))))
    by_cases c5 : wdQ T q e 5
    · have cf : ∀ {v X}, (v = 0 ∨ v = 1) → f_X5_readOnce N 1 (nI q) (nI 0) (nI 20) (cp (h ++ dR h R (nI fc) f8) (rK K (nI e) n s 0 (-1)) KR KA KP) = some (v, X) → f_X5_readStatement N 1 (cp (h ++ dR h R (nI fc) f8) (rK K (nI q) n s 0 (-1)) KR KA KP) = some (v, X) := fun hv hX => cpre (bS (ck _) (zS s5 (iF (fun z => w5.mp z c5) (bS (ck _) (zS hX (iT hv rfl))))))
      have mf : ∀ (h1 : zH) X, 46 ≤ h1.length → f_X12_once N 27 (nI 0) (nI (122 + 0)) (nI 20) (mp h1 (mK I (nI e) 1 (nI q) nn 0 (-1)) (va_up (va_up A 21 R) 22 hd)) = some X → f_X12_statement N 27 (mp h1 (mK I (nI e) 1 (nI q) nn 0 (-1)) (va_up (va_up A 21 R) 22 hd)) = some X := by
        intro h1 X hl1 hX
        obtain ⟨u5, p5, o5⟩ := mw h1 hl1 5 (by omega)
        exact mpre hl1 (bS (mg18 hl1) (bS (mck hl1) (bS p5 (iF (fun z => o5.mp z c5) (bS (mck hl1) (bS hX rfl))))))
      rcases b_once (N := N) (K := K) (KR := KR) (KP := KP) (q := q) (e := e) (n := n) (s := s) (m := nn) hl hN wc wm hKR di e2 (i := 0) (y := 20) (by omega) (by omega) with w | w
      · exact Or.inl (w.tr (fun X hX => cf (Or.inl rfl) hX) (fun X hX => cf (Or.inr rfl) hX) mf)
      · exact Or.inr (w.tr e1 (fun X hX => cf (Or.inr rfl) hX) mf)
    by_cases c6 : wdQ T q e 6
    · have cf : ∀ {v X}, (v = 0 ∨ v = 1) → f_X5_readOnce N 1 (nI q) (nI 1) (nI 20) (cp (h ++ dR h R (nI fc) f8) (rK K (nI e) n s 0 (-1)) KR KA KP) = some (v, X) → f_X5_readStatement N 1 (cp (h ++ dR h R (nI fc) f8) (rK K (nI q) n s 0 (-1)) KR KA KP) = some (v, X) := fun hv hX => cpre (bS (ck _) (zS s5 (iT (w5.mpr c5) (bS (ck _) (zS s6 (iF (fun z => w6.mp z c6) (bS (ck _) (zS hX (iT hv rfl)))))))))
      have mf : ∀ (h1 : zH) X, 46 ≤ h1.length → f_X12_once N 27 (nI 1) (nI (122 + 1)) (nI 20) (mp h1 (mK I (nI e) 1 (nI q) nn 0 (-1)) (va_up (va_up A 21 R) 22 hd)) = some X → f_X12_statement N 27 (mp h1 (mK I (nI e) 1 (nI q) nn 0 (-1)) (va_up (va_up A 21 R) 22 hd)) = some X := by
        intro h1 X hl1 hX
        obtain ⟨u5, p5, o5⟩ := mw h1 hl1 5 (by omega)
        obtain ⟨u6, p6, o6⟩ := mw h1 hl1 6 (by omega)
        exact mpre hl1 (bS (mg18 hl1) (bS (mck hl1) (bS p5 (iT (o5.mpr c5) (bS (mg19 hl1) (bS (mck hl1) (bS p6 (iF (fun z => o6.mp z c6) (bS (mck hl1) (bS hX rfl))))))))))
      rcases b_once (N := N) (K := K) (KR := KR) (KP := KP) (q := q) (e := e) (n := n) (s := s) (m := nn) hl hN wc wm hKR di e2 (i := 1) (y := 20) (by omega) (by omega) with w | w
      · exact Or.inl (w.tr (fun X hX => cf (Or.inl rfl) hX) (fun X hX => cf (Or.inr rfl) hX) mf)
      · exact Or.inr (w.tr e1 (fun X hX => cf (Or.inr rfl) hX) mf)
    by_cases c7 : wdQ T q e 7
    · have cf : ∀ {v X}, (v = 0 ∨ v = 1) → f_X5_readOnce N 1 (nI q) (nI 2) (nI 100) (cp (h ++ dR h R (nI fc) f8) (rK K (nI e) n s 0 (-1)) KR KA KP) = some (v, X) → f_X5_readStatement N 1 (cp (h ++ dR h R (nI fc) f8) (rK K (nI q) n s 0 (-1)) KR KA KP) = some (v, X) := fun hv hX => cpre (bS (ck _) (zS s5 (iT (w5.mpr c5) (bS (ck _) (zS s6 (iT (w6.mpr c6) (bS (ck _) (zS s7 (iF (fun z => w7.mp z c7) (bS (ck _) (zS hX (iT hv rfl))))))))))))
      have mf : ∀ (h1 : zH) X, 46 ≤ h1.length → f_X12_once N 27 (nI 2) (nI (122 + 2)) (nI 100) (mp h1 (mK I (nI e) 1 (nI q) nn 0 (-1)) (va_up (va_up A 21 R) 22 hd)) = some X → f_X12_statement N 27 (mp h1 (mK I (nI e) 1 (nI q) nn 0 (-1)) (va_up (va_up A 21 R) 22 hd)) = some X := by
        intro h1 X hl1 hX
        obtain ⟨u5, p5, o5⟩ := mw h1 hl1 5 (by omega)
        obtain ⟨u6, p6, o6⟩ := mw h1 hl1 6 (by omega)
        obtain ⟨u7, p7, o7⟩ := mw h1 hl1 7 (by omega)
        exact mpre hl1 (bS (mg18 hl1) (bS (mck hl1) (bS p5 (iT (o5.mpr c5) (bS (mg19 hl1) (bS (mck hl1) (bS p6 (iT (o6.mpr c6) (bS (mg20 hl1) (bS (mck hl1) (bS p7 (iF (fun z => o7.mp z c7) (bS (mck hl1) (bS hX rfl))))))))))))))
      rcases b_once (N := N) (K := K) (KR := KR) (KP := KP) (q := q) (e := e) (n := n) (s := s) (m := nn) hl hN wc wm hKR di e2 (i := 2) (y := 100) (by omega) (by omega) with w | w
      · exact Or.inl (w.tr (fun X hX => cf (Or.inl rfl) hX) (fun X hX => cf (Or.inr rfl) hX) mf)
      · exact Or.inr (w.tr e1 (fun X hX => cf (Or.inr rfl) hX) mf)
    left
    refine ⟨1, nI q, by decide, ⟨_, _, _, _, isDC_R h R (nI fc) f8, Or.inl (cpre (bS (ck _) (zS s5 (iT (w5.mpr c5) (bS (ck _) (zS s6 (iT (w6.mpr c6) (bS (ck _) (zS s7 (iT (w7.mpr c7) (bS (ck _) (zS (c_refuse hlD) (iT (Or.inl rfl) rfl)))))))))))))⟩, nI e, 1, nI q, nn, R, hd, fun h1 hl1 => ?_⟩
    obtain ⟨u5, p5, o5⟩ := mw h1 hl1 5 (by omega)
    obtain ⟨u6, p6, o6⟩ := mw h1 hl1 6 (by omega)
    obtain ⟨u7, p7, o7⟩ := mw h1 hl1 7 (by omega)
    exact mpre hl1 (bS (mg18 hl1) (bS (mck hl1) (bS p5 (iT (o5.mpr c5) (bS (mg19 hl1) (bS (mck hl1) (bS p6 (iT (o6.mpr c6) (bS (mg20 hl1) (bS (mck hl1) (bS p7 (iT (o7.mpr c7) (bS (x7 hl1) (bS (mck hl1) (bS (m_fail0 hl1) rfl)))))))))))))))
  · left
    have nw : ∀ k, k < 8 → ¬ wdQ T e e k := fun k hk z => by have := z7 k hk; have := z.1; omega
    refine ⟨1, nI e, by decide, ⟨_, _, _, _, isDC_R h R (nI fc) f8, Or.inl (bS (r2 hlD) (bS (ck _) (bS sk (bS (ck _) (zS s0 (iT (w0.mpr (nw 0 (by omega))) (bS (ck _) (zS s1 (iT (w1.mpr (nw 1 (by omega))) (bS (ck _) (zS s2 (iT (w2.mpr (nw 2 (by omega))) (bS (ck _) (zS s3 (iT (w3.mpr (nw 3 (by omega))) (bS (ck _) (zS s4 (iT (w4.mpr (nw 4 (by omega))) (bS (ck _) (zS s5 (iT (w5.mpr (nw 5 (by omega))) (bS (ck _) (zS s6 (iT (w6.mpr (nw 6 (by omega))) (bS (ck _) (zS s7 (iT (w7.mpr (nw 7 (by omega))) (bS (ck _) (zS (c_refuse hlD) (iT (Or.inl rfl) rfl))))))))))))))))))))))))))))))⟩, a, kk, nI e, nn, R, hd, fun h1 hl1 => ?_⟩
    exact bS (x6 hl1) (iF hk1 (bS (x7 hl1) (bS (mck hl1) (bS (m_fail0 hl1) rfl))))
end rdl
