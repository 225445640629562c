/-! ===== a State of the class and a segment F of the model ===== -/
def fz (a : Nat) : Prop := 46 ≤ a ∨ (19 ≤ a ∧ a < 27)
/-- what lies frozen stays -/
def kept (h h' : zH) : Prop := ∀ a, fz a → ∀ e, h[a]? = some e → h'[a]? = some e
theorem kept.rf (h : zH) : kept h h := fun _ _ _ q => q
theorem kept.tr {h h1 h2 : zH} (a : kept h h1) (b : kept h1 h2) : kept h h2 := fun x fx e q => b x fx e (a x fx e q)
abbrev aI (h : zH) (a n : Nat) (f : Nat → Int32) : Prop := fz a ∧ h[a]? = some (.inl (0, n, .inl f))
abbrev oO (h : zH) (a ci : Nat) (fs : List zV) : Prop := fz a ∧ h[a]? = some (.inr (ci, fs))
theorem aI.mono {h h' : zH} (k : kept h h') {a n : Nat} {f : Nat → Int32} (q : aI h a n f) : aI h' a n f := ⟨q.1, k a q.1 _ q.2⟩
theorem oO.mono {h h' : zH} (k : kept h h') {a ci : Nat} {fs : List zV} (q : oO h a ci fs) : oO h' a ci fs := ⟨q.1, k a q.1 _ q.2⟩
/-! numbers of the round -/
def gL (F : Nat → Int32) : Nat := (F 1).toNatClampNeg
def eN (F : Nat → Int32) (l : Nat) : Nat := (F (2 + 3 * l)).toNatClampNeg
def wN (F : Nat → Int32) (l : Nat) : Nat := (F (3 + 3 * l)).toNatClampNeg
def endsTo (F : Nat → Int32) : Nat → Nat
  | 0 => 0
  | l + 1 => endsTo F l + eN F l
def tE (F : Nat → Int32) : Nat := endsTo F (min (gL F) 4)
def lgGo (F : Nat → Int32) : Nat → Nat → Nat → Nat
  | 0, l, _ => l
  | k + 1, l, e => if e < eN F l then l else lgGo F k (l + 1) (e - eN F l)
def lgOf (F : Nat → Int32) (e : Nat) : Nat := lgGo F 4 0 e
/-- how many arrows the first n ends have -/
def aT (F : Nat → Int32) : Nat → Nat
  | 0 => 0
  | n + 1 => aT F n + wN F (lgOf F n)
/-- the sum of values from i on, k of them -/
def sN (f : Nat → Int32) (i : Nat) : Nat → Int32
  | 0 => 0
  | k + 1 => sN f i k + f (i + k)
def wfR (F : Nat → Int32) : Prop := F 0 = 1 ∧ (∃ L, F 1 = nI L ∧ 1 ≤ L ∧ L ≤ 4) ∧ (∃ fc, F 14 = nI fc ∧ fc ≤ 4 ∧ (∀ l, l < gL F → (∃ e, F (2 + 3 * l) = nI e ∧ 1 ≤ e ∧ e ≤ 12) ∧ (∃ w, F (3 + 3 * l) = nI w ∧ 1 ≤ w ∧ w ≤ 6) ∧ ∃ f, F (4 + 3 * l) = nI f ∧ f < fc) ∧
  ∀ f, f < fc → ∃ ln, F (15 + f) = nI ln ∧ 1 ≤ ln ∧ ln ≤ 12 ∧ ∀ k, k < ln → (∃ x, F (19 + 12 * f + k) = nI x ∧ x ≤ 10000) ∧ ∃ v, F (67 + 12 * f + k) = nI v ∧ v ≤ 20) ∧
  (∃ ts, F 115 = nI ts ∧ ts ≤ 6 ∧ ∀ t, t < ts → ∃ k, F (116 + t) = nI k ∧ k ≤ 22) ∧ ∀ i, i < 3 → ∃ x, F (122 + i) = nI x ∧ x ≤ 100
def rR (h : zH) (rq : Option Nat) (F : Nat → Int32) : Prop := match rq with
  | none => F 0 = 0
  | some r => wfR F ∧ ∃ (a1 a2 a3 a4 a5 a6 a7 a8 : Nat) (f1 f2 f3 f4 f5 f6 f7 f8 : Nat → Int32), oO h r 6 [zi (F 14), zr (some a1), zr (some a2), zr (some a3), zi (F 1), zr (some a4), zr (some a5), zr (some a6), zi (F 115), zr (some a7), zr (some a8)] ∧
    aI h a1 4 f1 ∧ aI h a2 48 f2 ∧ aI h a3 48 f3 ∧ aI h a4 4 f4 ∧ aI h a5 4 f5 ∧ aI h a6 4 f6 ∧ aI h a7 6 f7 ∧ aI h a8 3 f8 ∧
    (∀ f, f < (F 14).toNatClampNeg → f1 f = F (15 + f) ∧ ∀ k, k < (F (15 + f)).toNatClampNeg → f2 (f * 12 + k) = F (19 + 12 * f + k) ∧ f3 (f * 12 + k) = F (67 + 12 * f + k)) ∧
    (∀ l, l < gL F → f4 l = F (2 + 3 * l) ∧ f5 l = F (3 + 3 * l) ∧ f6 l = F (4 + 3 * l)) ∧ (∀ t, t < (F 115).toNatClampNeg → f7 t = F (116 + t)) ∧ ∀ i, i < 3 → (f8 i = -1 ∧ F (122 + i) = 0) ∨ f8 i = F (122 + i)
/-- squares: beyond all in both, or the same below it -/
def sqR (x y : Int32) : Prop := (x = 1000000000 ∧ y = 2147483647) ∨ (x = y ∧ ∃ n, x = nI n ∧ n < 1000000000)
def shR (h : zH) (sh : Nat) (F : Nat → Int32) (a : Nat) : Prop := ∃ (b1 b2 b3 n q : Nat) (s1 s2 s3 : Nat → Int32), oO h sh 8 [zr (some b1), zr (some b2), zr (some b3)] ∧ aI h b1 n s1 ∧ aI h b2 (aT F n) s2 ∧ aI h b3 q s3 ∧
  F (141 + a) = nI n ∧ (n ≤ 48 ∧ aT F n ≤ 288) ∧ (F 0 = 0 → n = 0 ∧ q = 0) ∧ (F 0 = 1 → n ≤ tE F) ∧ (∀ k, k < aT F n → s2 k = F (157 + 288 * a + k) ∧ ∃ v, s2 k = nI v ∧ v ≤ 100) ∧ (∀ e, e < n → s1 e = sN s2 (aT F e) (aT F (e + 1) - aT F e)) ∧
  F (4765 + a) = nI q ∧ q ≤ 8 ∧ ∀ k, k < q → sqR (s3 k) (F (4781 + 8 * a + k))
def scR (h : zH) (sc : Nat) (F : Nat → Int32) (a : Nat) : Prop := ∃ (b n : Nat) (f : Nat → Int32), oO h sc 7 [zr (some b)] ∧ aI h b (n * 4) f ∧ F (4909 + a) = nI n ∧ n ≤ 30 ∧ ∀ k, k < n → ∀ i, i < 4 → f (k * 4 + i) = F (4925 + 4 * (30 * a + k) + i)
def arR (h : zH) (o : Option Nat) (F : Nat → Int32) (a : Nat) : Prop := match o with
  | none => F (125 + a) = -1
  | some x => (∃ cl, F (125 + a) = nI cl ∧ cl ≤ 7) ∧ ∃ sh sc, oO h x 0 [zi (F (125 + a)), zr (some sh), zr (some sc)] ∧ shR h sh F a ∧ scR h sc F a
def lwR (h : zH) (lq : Nat) (F : Nat → Int32) : Prop := ∃ (b n : Nat) (f : Nat → Int32), oO h lq 1 [zr (some b)] ∧ aI h b (n * 3) f ∧ F 6845 = nI n ∧ n ≤ 6 ∧ ∀ k, k < n → ∀ i, i < 3 → f (k * 3 + i) = F (6846 + 3 * k + i)
def lnR (h : zH) (nq : Nat) (F : Nat → Int32) : Prop := ∃ (b1 b2 b3 n : Nat) (f1 f2 f3 : Nat → Int32), oO h nq 2 [zr (some b1), zr (some b2), zr (some b3)] ∧ aI h b1 n f1 ∧ aI h b2 n f2 ∧ aI h b3 (n * 2) f3 ∧ F 6864 = nI n ∧ n ≤ 8 ∧
  (∀ k, k < n → f1 k = F (6865 + k) ∧ f2 k = F (6873 + k) ∧ (∃ b, F (6865 + k) = nI b ∧ b ≤ k) ∧ ∃ s, F (6873 + k) = nI s ∧ s ≤ 2) ∧
  (∀ p, p < n * 2 → f3 p = -1 ∨ ∃ a, a < 16 ∧ f3 p = nI a ∧ F (125 + a) ≠ -1) ∧ (∀ a, a < 16 → F (6881 + a) = -1 ∨ ∃ p, p < n * 2 ∧ F (6881 + a) = nI p) ∧ ∀ a, a < 16 → ∀ p, p < n * 2 → (f3 p = nI a ↔ F (6881 + a) = nI p)
def SR (h : zH) (q : Nat) (F : Nat → Int32) : Prop := ∃ (rq : Option Nat) (aq lq nq : Nat) (AR : Nat → Option Nat), oO h q 9 [zr rq, zr (some aq), zr (some lq), zr (some nq), zi (F 6897)] ∧ (fz aq ∧ h[aq]? = some (.inl (4, 16, .inr AR))) ∧ rR h rq F ∧ (∀ a, a < 16 → arR h (AR a) F a) ∧ lwR h lq F ∧ lnR h nq F ∧ ∃ t, F 6897 = nI t ∧ t ≤ 36500
theorem rR.mono {h h' : zH} (k : kept h h') {rq : Option Nat} {F : Nat → Int32} (q : rR h rq F) : rR h' rq F := by
  cases rq with
  | none => exact q
  | some r =>
    obtain ⟨w, a1, a2, a3, a4, a5, a6, a7, a8, f1, f2, f3, f4, f5, f6, f7, f8, q0, q1, q2, q3, q4, q5, q6, q7, q8, z⟩ := q
    exact ⟨w, a1, a2, a3, a4, a5, a6, a7, a8, f1, f2, f3, f4, f5, f6, f7, f8, q0.mono k, q1.mono k, q2.mono k, q3.mono k, q4.mono k, q5.mono k, q6.mono k, q7.mono k, q8.mono k, z⟩
theorem shR.mono {h h' : zH} (k : kept h h') {sh a : Nat} {F : Nat → Int32} (q : shR h sh F a) : shR h' sh F a := by
  obtain ⟨b1, b2, b3, n, m, s1, s2, s3, q0, q1, q2, q3, z⟩ := q
  exact ⟨b1, b2, b3, n, m, s1, s2, s3, q0.mono k, q1.mono k, q2.mono k, q3.mono k, z⟩
theorem scR.mono {h h' : zH} (k : kept h h') {sc a : Nat} {F : Nat → Int32} (q : scR h sc F a) : scR h' sc F a := by
  obtain ⟨b, n, f, q0, q1, z⟩ := q
  exact ⟨b, n, f, q0.mono k, q1.mono k, z⟩
theorem arR.mono {h h' : zH} (k : kept h h') {o : Option Nat} {a : Nat} {F : Nat → Int32} (q : arR h o F a) : arR h' o F a := by
  cases o with
  | none => exact q
  | some x =>
    obtain ⟨w, sh, sc, q0, q1, q2⟩ := q
    exact ⟨w, sh, sc, q0.mono k, q1.mono k, q2.mono k⟩
theorem lwR.mono {h h' : zH} (k : kept h h') {lq : Nat} {F : Nat → Int32} (q : lwR h lq F) : lwR h' lq F := by
  obtain ⟨b, n, f, q0, q1, z⟩ := q
  exact ⟨b, n, f, q0.mono k, q1.mono k, z⟩
theorem lnR.mono {h h' : zH} (k : kept h h') {nq : Nat} {F : Nat → Int32} (q : lnR h nq F) : lnR h' nq F := by
  obtain ⟨b1, b2, b3, n, f1, f2, f3, q0, q1, q2, q3, z⟩ := q
  exact ⟨b1, b2, b3, n, f1, f2, f3, q0.mono k, q1.mono k, q2.mono k, q3.mono k, z⟩
theorem SR.mono {h h' : zH} (k : kept h h') {q : Nat} {F : Nat → Int32} (s : SR h q F) : SR h' q F := by
  obtain ⟨rq, aq, lq, nq, AR, s0, s1, s2, s3, s4, s5, s6⟩ := s
  exact ⟨rq, aq, lq, nq, AR, s0.mono k, ⟨s1.1, k aq s1.1 _ s1.2⟩, s2.mono k, fun a ha => (s3 a ha).mono k, s4.mono k, s5.mono k, s6⟩
