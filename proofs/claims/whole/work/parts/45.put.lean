/-! ===== an archer is put; leave ===== -/
section newr
variable {h : zH} {ns : List zE} {KI : Nat → Int32} {KR : Nat → Option Nat} {KA : Nat → Nat → Int32} {KP : Nat → Option Nat} {i j m n t : Nat} {f : Nat → Int32} {fr : Nat → Option Nat}
theorem n_stR (hl : 46 ≤ h.length) {v : Option Nat} (hi : ns[i]? = some (.inl (4, m, .inr fr))) (hj : j < m) (hm : m < 2 ^ 31) (hv : v = none ∨ ∃ a, zck (cp (h ++ ns) KI KR KA KP) 0 v = some a) : zstR (cp (h ++ ns) KI KR KA KP) 4 0 (some (h.length + i)) (nI j) v = some (cp (h ++ ns.set i (.inl (4, m, .inr (va_up fr j v)))) KI KR KA KP) := by
  unfold zstR
  rw [faR ((n_get hl).trans hi), Option.bind_some]
  dsimp only
  rw [if_neg (nI_in hj hm), nI_clamp (by omega), if_neg, n_set hl]
  rintro ⟨q1, q2⟩
  rcases hv with hv | ⟨a, hv⟩
  · exact q1 hv
  · rw [hv] at q2; cases q2
theorem n_cl (hl : 46 ≤ h.length) {α : Type} {a : Nat} {kk : Nat → zH → Option α} {r : Option α} (ha : (cp (h ++ ns) KI KR KA KP)[a]? = some (.inl (0, n, .inl f))) (i : Nat) (hi : ns.length = i) (q : kk (h.length + i) (cp (h ++ (ns ++ [.inl (0, n, .inl f)])) KI KR KA KP) = r) : zcl (cp (h ++ ns) KI KR KA KP) 0 (some a) kk = r := by
  subst hi
  unfold zcl
  simp only [ha, n_len, n_app hl]
  exact q
theorem n_na (hl : 46 ≤ h.length) {α : Type} {k : Nat} {kk : Nat → zH → Option α} {r : Option α} (hk : k ≤ 16777216) (i : Nat) (hi : ns.length = i) (q : kk (h.length + i) (cp (h ++ (ns ++ [.inl (0, k, .inl (fun _ => 0))])) KI KR KA KP) = r) : zna (cp (h ++ ns) KI KR KA KP) 0 (nI k) kk = r := by
  subst hi
  rw [zna_n _ _ hk, n_len, n_app hl]
  exact q
theorem c_put {N : Nat} {x0 x2 x3 x4 : zV} {AR : Nat → Option Nat} {a : Nat} {v : Option Nat} (hl : 46 ≤ h.length) (h0 : ns[0]? = some (.inr (9, [x0, zr (some (h.length + 1)), x2, x3, x4]))) (h1 : ns[1]? = some (.inl (4, 16, .inr AR))) (ha : a < 16) (hv : v = none ∨ ∃ y, zck (cp (h ++ ns) KI KR KA KP) 0 v = some y) :
    f_X9_put N (h.length + 0) (nI a) v (cp (h ++ ns) KI KR KA KP) = some (cp (h ++ ns.set 1 (.inl (4, 16, .inr (va_up AR a v)))) KI KR KA KP) := by
  unfold f_X9_put
  refine iF (nI_pos (by omega)) (bS (n_R hl (i := 0) h0 rfl) (bS (n_ln hl (i := 1) h1 (by omega)) (iF (nI_ge (by omega) (by omega)) (bS (n_R hl (i := 0) h0 rfl) (bS (n_stR hl (i := 1) h1 ha (by omega) hv) rfl)))))
end newr
/-- the places of an archer, and of the lanes -/
def ownA (a j : Nat) : Prop := j = 125 + a ∨ j = 141 + a ∨ (157 + 288 * a ≤ j ∧ j < 157 + 288 * a + 288) ∨ j = 4765 + a ∨ (4781 + 8 * a ≤ j ∧ j < 4781 + 8 * a + 8) ∨ j = 4909 + a ∨ (4925 + 120 * a ≤ j ∧ j < 4925 + 120 * a + 120) ∨ (6864 ≤ j ∧ j < 6897)
theorem SR.putA {h : zH} {ns : List zE} {KI : Nat → Int32} {KR : Nat → Option Nat} {KA : Nat → Nat → Int32} {KP : Nat → Option Nat} {rq y : Option Nat} {lq nq a : Nat} {AR : Nat → Option Nat} {F F' : Nat → Int32} (hl : 46 ≤ h.length) (ha : a < 16) (s2 : rR h rq F) (s3 : ∀ b, b < 16 → arR h (AR b) F b) (s4 : lwR h lq F) (s6 : ∃ t, F 6897 = nI t ∧ t ≤ 36500)
    (h0 : ns[0]? = some (.inr (9, [zr rq, zr (some (h.length + 1)), zr (some lq), zr (some nq), zi (F 6897)]))) (h1 : ns[1]? = some (.inl (4, 16, .inr (va_up AR a y)))) (hF : ∀ j, ¬ ownA a j → F' j = F j) (hA : arR (cp (h ++ ns) KI KR KA KP) y F' a) (hL : lnR (cp (h ++ ns) KI KR KA KP) nq F') : SR (cp (h ++ ns) KI KR KA KP) (h.length + 0) F' := by
  have kk := kept.cp (h := h) (ns := ns) (KI := KI) (KR := KR) (KA := KA) (KP := KP)
  have e0 : F' 6897 = F 6897 := hF _ (by unfold ownA; omega)
  refine ⟨rq, h.length + 1, lq, nq, va_up AR a y, ⟨fz_new hl 0, by rw [e0]; exact (n_get hl).trans h0⟩, ⟨fz_new hl 1, (n_get hl).trans h1⟩, (s2.mono kk).cg (fun j hj => hF j (by unfold ownA; omega)), fun b hb => ?_, (s4.mono kk).cg (fun j h5 h6 => hF j (by unfold ownA; omega)), hL, by rw [e0]; exact s6⟩
  by_cases hab : b = a
  · subst hab
    rw [vu_at]
    exact hA
  · rw [vu_ne _ _ hab]
    exact ((s3 b hb).mono kk).cg (fun j hj => hF j (by unfold ownA; unfold regA at hj; omega))
theorem c_chg {h : zH} {KI : Nat → Int32} {KR : Nat → Option Nat} {KA : Nat → Nat → Int32} {KP : Nat → Option Nat} {I : Nat → Int32} {A : Nat → Nat → Int32} {c q aq N : Nat} {rq x2 x3 : Option Nat} {td : Int32} {AR : Nat → Option Nat} (H : IN h KI KR KA KP I A c q) (hN : 5 ≤ N) (s0 : oO h q 9 [zr rq, zr (some aq), zr x2, zr x3, zi td]) (s1 : fz aq ∧ h[aq]? = some (.inl (4, 16, .inr AR))) :
    f_X11_change N 0 (cp h KI KR KA KP) = some (some (h.length + 0), cp (h ++ [.inr (9, [zr rq, zr (some (h.length + 1)), zr x2, zr x3, zi td]), .inl (4, 16, .inr AR)]) (upd KI 0 (nI (kpC c))) (va_up KR 0 (some (h.length + 0))) KA (kpP KP c q)) := by
  obtain ⟨hl, hC, hM, i1, i2, i3, i4, i5, i6, -⟩ := H
  exact c_change hl hN (fz_19 s0.1) (fz_19 s1.1) s0.2 s1.2 i4 i1 i3 (fun i hi => by
    obtain ⟨p, e1, e2⟩ := i6 i hi
    obtain ⟨e3, ps, e4⟩ := e2.st
    exact ⟨p, ps, e1, e3, e4⟩)
/-! Line.placeOf -/
theorem g_placeOf_go {H : zH} {nq b1 b2 b3 n N : Nat} {f3 : Nat → Int32} (w0 : H[nq]? = some (.inr (2, [zr (some b1), zr (some b2), zr (some b3)]))) (w3 : H[b3]? = some (.inl (0, n * 2, .inl f3))) (hn : n ≤ 8) (x : Int32) : ∀ (m p fuel : Nat), n * 2 - p = m → p ≤ n * 2 → m < fuel → (∀ p', p' < p → f3 p' ≠ x) →
    (∃ p0, p0 < n * 2 ∧ f3 p0 = x ∧ f_X2_placeOf_2 N fuel nq x (nI p) H = some (nI p0)) ∨ ((∀ p0, p0 < n * 2 → f3 p0 ≠ x) ∧ f_X2_placeOf_2 N fuel nq x (nI p) H = some (-1)) := by
  intro m
  induction m with
  | zero =>
    intro p fuel h1 h2 h3 h4
    obtain ⟨fuel, rfl⟩ : ∃ n', fuel = n' + 1 := ⟨fuel - 1, by omega⟩
    have hp : p = n * 2 := by omega
    subst hp
    right
    refine ⟨h4, ?_⟩
    rw [f_X2_placeOf_2]
    exact bS (fgR w0 rfl) (bS (flen w3 (by omega)) (iT (nI_le (Nat.le_refl _) (by omega)) rfl))
  | succ m ih =>
    intro p fuel h1 h2 h3 h4
    obtain ⟨fuel, rfl⟩ : ∃ n', fuel = n' + 1 := ⟨fuel - 1, by omega⟩
    have hp : p < n * 2 := by omega
    by_cases hx : f3 p = x
    · left
      refine ⟨p, hp, hx, ?_⟩
      rw [f_X2_placeOf_2]
      exact bS (fgR w0 rfl) (bS (flen w3 (by omega)) (iF (nI_ge hp (by omega)) (bS (fgR w0 rfl) (bS (fld_ w3 hp (by omega)) (iT hx rfl)))))
    · have e : f_X2_placeOf_2 N (fuel + 1) nq x (nI p) H = f_X2_placeOf_2 N fuel nq x (nI (p + 1)) H := by
        rw [f_X2_placeOf_2]
        exact bS (fgR w0 rfl) (bS (flen w3 (by omega)) (iF (nI_ge hp (by omega)) (bS (fgR w0 rfl) (bS (fld_ w3 hp (by omega)) (iF hx (by rw [nI_1]))))))
      rw [e]
      exact ih (p + 1) fuel (by omega) (by omega) (by omega) (fun p' hp' => by
        by_cases q : p' = p
        · rw [q]; exact hx
        · exact h4 p' (by omega))
theorem g_placeOf {H : zH} {nq b1 b2 b3 n N : Nat} {f3 : Nat → Int32} (w0 : H[nq]? = some (.inr (2, [zr (some b1), zr (some b2), zr (some b3)]))) (w3 : H[b3]? = some (.inl (0, n * 2, .inl f3))) (hn : n ≤ 8) (hN : 20 ≤ N) (x : Int32) :
    (∃ p0, p0 < n * 2 ∧ f3 p0 = x ∧ f_X2_placeOf N nq x H = some (nI p0)) ∨ ((∀ p0, p0 < n * 2 → f3 p0 ≠ x) ∧ f_X2_placeOf N nq x H = some (-1)) :=
  g_placeOf_go w0 w3 hn x (n * 2) 0 N (by omega) (by omega) (by omega) (fun p' hp' => by omega)
theorem g_without0 {H : zH} {nq N : Nat} {ps : List zV} {x : Int32} (g0 : H[nq]? = some (.inr (2, ps))) (hp2 : f_X2_placeOf N nq x H = some (-1)) : f_X2_without N nq x H = some (some nq, H) := by
  unfold f_X2_without
  exact bS (fk g0) (bS hp2 (iT rfl rfl))
/-- one who leaves frees the seat -/
theorem ln_leave {f3 f3' F F' : Nat → Int32} {n j : Nat} (hj : j < 16) (hn : n ≤ 8) (z4 : ∀ p, p < n * 2 → f3 p = -1 ∨ ∃ a, a < 16 ∧ f3 p = nI a ∧ F (125 + a) ≠ -1) (z5 : ∀ a, a < 16 → F (6881 + a) = -1 ∨ ∃ p, p < n * 2 ∧ F (6881 + a) = nI p) (z6 : ∀ a, a < 16 → ∀ p, p < n * 2 → (f3 p = nI a ↔ F (6881 + a) = nI p))
    (hf : ∀ p, p < n * 2 → f3' p = if f3 p = nI j then -1 else f3 p) (e1 : F' (6881 + j) = -1) (e2 : ∀ a, a < 16 → a ≠ j → F' (125 + a) = F (125 + a) ∧ F' (6881 + a) = F (6881 + a)) :
    (∀ p, p < n * 2 → f3' p = -1 ∨ ∃ a, a < 16 ∧ f3' p = nI a ∧ F' (125 + a) ≠ -1) ∧ (∀ a, a < 16 → F' (6881 + a) = -1 ∨ ∃ p, p < n * 2 ∧ F' (6881 + a) = nI p) ∧ ∀ a, a < 16 → ∀ p, p < n * 2 → (f3' p = nI a ↔ F' (6881 + a) = nI p) := by
  refine ⟨fun p hp => ?_, fun a ha => ?_, fun a ha p hp => ?_⟩
  · rw [hf p hp]
    by_cases h1 : f3 p = nI j
    · rw [if_pos h1]; exact Or.inl rfl
    · rw [if_neg h1]
      rcases z4 p hp with h2 | ⟨a, h2, h3, h4⟩
      · exact Or.inl h2
      · have haj : a ≠ j := fun q => h1 (by rw [h3, q])
        exact Or.inr ⟨a, h2, h3, by rw [(e2 a h2 haj).1]; exact h4⟩
  · by_cases haj : a = j
    · rw [haj]; exact Or.inl e1
    · rw [(e2 a ha haj).2]; exact z5 a ha
  · rw [hf p hp]
    by_cases haj : a = j
    · subst haj
      rw [e1]
      constructor
      · intro q
        by_cases h1 : f3 p = nI a
        · rw [if_pos h1] at q; exact absurd q.symm (nI_nm (by omega))
        · rw [if_neg h1] at q; exact absurd q h1
      · intro q
        exact absurd q.symm (nI_nm (by omega))
    · rw [(e2 a ha haj).2, ← z6 a ha p hp]
      by_cases h1 : f3 p = nI j
      · rw [if_pos h1, h1]
        constructor
        · intro q; exact absurd q.symm (nI_nm (by omega))
        · intro q; exact absurd ((nI_eq (by omega) (by omega)).mp q).symm haj
      · rw [if_neg h1]
theorem op_leave {h : zH} {N : Nat} (hN : 21000 ≤ N) (H : INX h) (x : Int32) : OPo (f_X11_leave N 0 x) (f_X12_leave N 27 x) h := by
  obtain ⟨KI, KR, KA, KP, I, A, c, q, H⟩ := H
  obtain ⟨hl, hC, hM, i1, i2, i3, i4, i5, i6, i7, i8, i9⟩ := id H
  obtain ⟨rq, aq, lq, nq, AR, s0, s1, s2, s3, s4, ⟨b1, b2, b3, n, f1, f2, f3, w0, w1, w2, w3, z1, z2, z3, z4, z5, z6⟩, s6⟩ := id i5
  have hf := c_find (N := N) (KI := KI) (KR := KR) (KA := KA) (KP := KP) s0 s1 s3 x
  have hq5 : zgR (cp h KI KR KA KP) 11 (some 0) 5 = some (some q) := (cg0_5 hl).trans (congrArg some i4)
  cases hp : pA (A 0) x with
  | none =>
    refine OPo.same H (r := 0) ?_ (m_leave0 hl hp)
    unfold f_X11_leave
    exact bS hq5 (bS (fk s0.c) (bS (hf.1 (by rw [pA_seg]; exact hp)) (iT rfl rfl)))
  | some j =>
    obtain ⟨y, e1, e2⟩ := hf.2 j (by rw [pA_seg]; exact hp)
    obtain ⟨hj, rfl, hcl⟩ := pA_some hp
    have nu : ∀ k, k ≠ 125 + j → k ≠ 6881 + j → upd (upd (seg (A 0) 0) (125 + j) (-1)) (6881 + j) (-1) k = seg (A 0) 0 k := by
      intro k h1 h2
      rw [up_ne _ _ h2, up_ne _ _ h1]
    have hd : ∀ i, 1 ≤ i → seg (upd (upd (kpD (A 0) c) (125 + j) (-1)) (6881 + j) (-1)) i = seg (kpD (A 0) c) i := by
      intro i hi
      rw [seg_upi _ (by omega) hi, seg_upi _ (by omega) hi]
    have x0 : ∀ {r : Option (Int32 × zH)}, (∀ hv : True, ((f_X9_put N (h.length + 0) (nI j) none (cp (h ++ [.inr (9, [zr rq, zr (some (h.length + 1)), zr (some lq), zr (some nq), zi (seg (A 0) 0 6897)]), .inl (4, 16, .inr AR)]) (upd KI 0 (nI (kpC c))) (va_up KR 0 (some (h.length + 0))) KA (kpP KP c q))).bind fun h2 => (zgR h2 9 (some (h.length + 0)) 3).bind fun x4 => (zck h2 2 x4).bind fun q4 => zb2 (f_X2_without N q4 (nI j) h2) fun x5 h3 => (zpu h3 9 (some (h.length + 0)) 3 (zr x5)).bind fun h4 => some ((1 : Int32), h4)) = r) → f_X11_leave N 0 (nI j) (cp h KI KR KA KP) = r := by
      intro r hr
      unfold f_X11_leave
      exact bS hq5 (bS (fk s0.c) (bS e2 (iF (by simp) (bS (ck0 hl) (zS (c_chg H (by omega) s0 s1) (bS (n_k hl (i := 0) rfl) (hr trivial)))))))
    have hput : f_X9_put N (h.length + 0) (nI j) none (cp (h ++ [.inr (9, [zr rq, zr (some (h.length + 1)), zr (some lq), zr (some nq), zi (seg (A 0) 0 6897)]), .inl (4, 16, .inr AR)]) (upd KI 0 (nI (kpC c))) (va_up KR 0 (some (h.length + 0))) KA (kpP KP c q)) = some (cp (h ++ [.inr (9, [zr rq, zr (some (h.length + 1)), zr (some lq), zr (some nq), zi (seg (A 0) 0 6897)]), .inl (4, 16, .inr (va_up AR j none))]) (upd KI 0 (nI (kpC c))) (va_up KR 0 (some (h.length + 0))) KA (kpP KP c q)) := c_put hl rfl rfl hj (Or.inl rfl)
    have hown : ∀ k, ¬ ownA j k → upd (upd (seg (A 0) 0) (125 + j) (-1)) (6881 + j) (-1) k = seg (A 0) 0 k := fun k hk => nu k (fun q => hk (by unfold ownA; omega)) (fun q => hk (by unfold ownA; omega))
    have g0 : (cp (h ++ [.inr (9, [zr rq, zr (some (h.length + 1)), zr (some lq), zr (some nq), zi (seg (A 0) 0 6897)]), .inl (4, 16, .inr (va_up AR j none))]) (upd KI 0 (nI (kpC c))) (va_up KR 0 (some (h.length + 0))) KA (kpP KP c q))[nq]? = some (.inr (2, [zr (some b1), zr (some b2), zr (some b3)])) := n_old (fz_19 w0.1) w0.2
    have g3 : (cp (h ++ [.inr (9, [zr rq, zr (some (h.length + 1)), zr (some lq), zr (some nq), zi (seg (A 0) 0 6897)]), .inl (4, 16, .inr (va_up AR j none))]) (upd KI 0 (nI (kpC c))) (va_up KR 0 (some (h.length + 0))) KA (kpP KP c q))[b3]? = some (.inl (0, n * 2, .inl f3)) := n_old (fz_19 w3.1) w3.2
    rcases g_placeOf (N := N) g0 g3 z2 (by omega) (nI j) with ⟨p, hp1, hp2, hp3⟩ | ⟨hp1, hp2⟩
    · refine OPo.chg H (r := 1) (d' := upd (upd (kpD (A 0) c) (125 + j) (-1)) (6881 + j) (-1)) (ns := [.inr (9, [zr rq, zr (some (h.length + 1)), zr (some lq), zr (some (h.length + 3)), zi (seg (A 0) 0 6897)]), .inl (4, 16, .inr (va_up AR j none)), .inl (0, n * 2, .inl (upd f3 p (-1))), .inr (2, [zr (some b1), zr (some b2), zr (some (h.length + 2))])]) (x0 fun _ => ?_) (fun h1' hl1 => m_leave1 hl1 hN i3 i2 hp) hd ?_ (by simp) (by simp [zsl, zsz]; omega)
      · refine bS hput (bS (n_R hl (i := 0) rfl rfl) (bS (fk g0) (zS (a := some (h.length + 3)) (h := cp (h ++ [.inr (9, [zr rq, zr (some (h.length + 1)), zr (some lq), zr (some nq), zi (seg (A 0) 0 6897)]), .inl (4, 16, .inr (va_up AR j none)), .inl (0, n * 2, .inl (upd f3 p (-1))), .inr (2, [zr (some b1), zr (some b2), zr (some (h.length + 2))])]) (upd KI 0 (nI (kpC c))) (va_up KR 0 (some (h.length + 0))) KA (kpP KP c q)) ?_ (bS (n_u hl (i := 0) rfl (Nat.le_of_ble_eq_true rfl)) rfl))))
        unfold f_X2_without
        refine bS (fk g0) (bS hp3 (iF (nI_nm (by omega)) (bS (fgR g0 rfl) (n_cl hl g3 2 rfl (bS (n_st hl (i := 2) rfl hp1 (by omega)) (nS hl 3 rfl (bS (fgR (n_old (fz_19 w0.1) w0.2) rfl) (bS (fgR (n_old (fz_19 w0.1) w0.2) rfl) (bS ?_ rfl)))))))))
        exact bS (n_u hl (i := 3) rfl (Nat.le_of_ble_eq_true rfl)) (bS (n_u hl (i := 3) rfl (Nat.le_of_ble_eq_true rfl)) (bS (n_u hl (i := 3) rfl (Nat.le_of_ble_eq_true rfl)) rfl))
      · rw [seg_up0 _ (by omega), seg_up0 _ (by omega), seg_kp0]
        refine SR.putA (F := seg (A 0) 0) hl hj s2 s3 s4 s6 rfl rfl hown ?_ ?_
        · show upd (upd (seg (A 0) 0) (125 + j) (-1)) (6881 + j) (-1) (125 + j) = -1
          rw [up_ne _ _ (by omega), up_at]
        · have kk := kept.cp (h := h) (ns := [.inr (9, [zr rq, zr (some (h.length + 1)), zr (some lq), zr (some (h.length + 3)), zi (seg (A 0) 0 6897)]), .inl (4, 16, .inr (va_up AR j none)), .inl (0, n * 2, .inl (upd f3 p (-1))), .inr (2, [zr (some b1), zr (some b2), zr (some (h.length + 2))])]) (KI := upd KI 0 (nI (kpC c))) (KR := va_up KR 0 (some (h.length + 0))) (KA := KA) (KP := kpP KP c q)
          refine ⟨b1, b2, h.length + 2, n, f1, f2, upd f3 p (-1), ⟨fz_new hl 3, (n_get hl).trans rfl⟩, w1.mono kk, w2.mono kk, ⟨fz_new hl 2, (n_get hl).trans rfl⟩, by rw [nu _ (by omega) (by omega)]; exact z1, z2, fun k hk => ?_, ?_⟩
          · rw [nu _ (by omega) (by omega), nu _ (by omega) (by omega)]; exact z3 k hk
          · refine ln_leave hj z2 z4 z5 z6 (fun p' hp' => ?_) (up_at _ _ _) (fun a ha haj => ⟨nu _ (by omega) (by omega), nu _ (by omega) (by omega)⟩)
            by_cases hpp : p' = p
            · subst hpp; rw [up_at, if_pos hp2]
            · rw [up_ne _ _ hpp, if_neg]
              intro q2
              have q3 := (z6 j hj p' hp').mp q2
              have q4 := (z6 j hj p hp1).mp hp2
              exact hpp ((nI_eq (by omega) (by omega)).mp (q3.symm.trans q4))
    · refine OPo.chg H (r := 1) (d' := upd (upd (kpD (A 0) c) (125 + j) (-1)) (6881 + j) (-1)) (ns := [.inr (9, [zr rq, zr (some (h.length + 1)), zr (some lq), zr (some nq), zi (seg (A 0) 0 6897)]), .inl (4, 16, .inr (va_up AR j none))]) (x0 fun _ => ?_) (fun h1' hl1 => m_leave1 hl1 hN i3 i2 hp) hd ?_ (by simp) (by simp [zsl, zsz])
      · exact bS hput (bS (n_R hl (i := 0) rfl rfl) (bS (fk g0) (zS (g_without0 g0 hp2) (bS (n_u hl (i := 0) rfl (Nat.le_of_ble_eq_true rfl)) rfl))))
      · rw [seg_up0 _ (by omega), seg_up0 _ (by omega), seg_kp0]
        refine SR.putA (F := seg (A 0) 0) hl hj s2 s3 s4 s6 rfl rfl hown ?_ ?_
        · show upd (upd (seg (A 0) 0) (125 + j) (-1)) (6881 + j) (-1) (125 + j) = -1
          rw [up_ne _ _ (by omega), up_at]
        · have kk := kept.cp (h := h) (ns := [.inr (9, [zr rq, zr (some (h.length + 1)), zr (some lq), zr (some nq), zi (seg (A 0) 0 6897)]), .inl (4, 16, .inr (va_up AR j none))]) (KI := upd KI 0 (nI (kpC c))) (KR := va_up KR 0 (some (h.length + 0))) (KA := KA) (KP := kpP KP c q)
          refine ⟨b1, b2, b3, n, f1, f2, f3, w0.mono kk, w1.mono kk, w2.mono kk, w3.mono kk, by rw [nu _ (by omega) (by omega)]; exact z1, z2, fun k hk => ?_, ?_⟩
          · rw [nu _ (by omega) (by omega), nu _ (by omega) (by omega)]; exact z3 k hk
          · exact ln_leave hj z2 z4 z5 z6 (fun p' hp' => by rw [if_neg (hp1 p' hp')]) (up_at _ _ _) (fun a ha haj => ⟨nu _ (by omega) (by omega), nu _ (by omega) (by omega)⟩)
