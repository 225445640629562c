/-! ===== law ===== -/
theorem zb2s {α β : Type} (a : α) (h : zH) (k : α → zH → Option β) : zb2 (some (a, h)) k = k a h := rfl
theorem bS {α β : Type} {x : Option α} {f : α → Option β} {a : α} {r : Option β} (h1 : x = some a) (h2 : f a = r) : x.bind f = r := by rw [h1, Option.bind_some]; exact h2
theorem zS {α β : Type} {x : Option (α × zH)} {f : α → zH → Option β} {a : α} {h : zH} {r : Option β} (h1 : x = some (a, h)) (h2 : f a h = r) : zb2 x f = r := by rw [h1, zb2s]; exact h2
theorem iT {α : Type} {c : Prop} [Decidable c] {x y r : α} (hc : c) (h : x = r) : (if c then x else y) = r := by rw [if_pos hc]; exact h
theorem iF {α : Type} {c : Prop} [Decidable c] {x y r : α} (hc : ¬ c) (h : y = r) : (if c then x else y) = r := by rw [if_neg hc]; exact h
section newa
variable {h : zH} {ns : List zE} {KI : Nat → Int32} {KR : Nat → Option Nat} {KA : Nat → Nat → Int32} {KP : Nat → Option Nat} {i j m n t : Nat} {f : Nat → Int32}
theorem n_st (hl : 46 ≤ h.length) {x : Int32} (hi : ns[i]? = some (.inl (t, m, .inl f))) (hj : j < m) (hm : m < 2 ^ 31) : zst (cp (h ++ ns) KI KR KA KP) t (some (h.length + i)) (nI j) x = some (cp (h ++ ns.set i (.inl (t, m, .inl (upd f j x)))) KI KR KA KP) := by
  rw [fst_ ((n_get hl).trans hi) hj hm, n_set hl]
theorem n_ld (hl : 46 ≤ h.length) (hi : ns[i]? = some (.inl (t, m, .inl f))) (hj : j < m) (hm : m < 2 ^ 31) : zld (cp (h ++ ns) KI KR KA KP) t (some (h.length + i)) (nI j) = some (f j) := fld_ ((n_get hl).trans hi) hj hm
theorem n_ln (hl : 46 ≤ h.length) {x : (Nat → Int32) ⊕ (Nat → Option Nat)} (hi : ns[i]? = some (.inl (t, m, x))) (ht : t < 6) : zlen (cp (h ++ ns) KI KR KA KP) (some (h.length + i)) = some (nI m) := flen ((n_get hl).trans hi) ht
theorem n_cp (hl : 46 ≤ h.length) {a N : Nat} (ha : 19 ≤ a) (he : h[a]? = some (.inl (0, n, .inl f))) (hne : m ≠ n) (hn : n < 2 ^ 31) (hm : m ≤ 16777216) : f_J7_copyOf_59c91 N (some a) (nI m) (cp (h ++ ns) KI KR KA KP) = some (some (h.length + ns.length), cp (h ++ (ns ++ [.inl (0, m, .inl (cpy f (min n m)))])) KI KR KA KP) := by
  rw [c_copy (n_old ha he) hne hn hm, n_len, n_app hl]
theorem nS {α : Type} (hl : 46 ≤ h.length) {e : zE} {kk : Nat → zH → Option α} {r : Option α} (i : Nat) (hi : ns.length = i) (q : kk (h.length + i) (cp (h ++ (ns ++ [e])) KI KR KA KP) = r) : znw (cp (h ++ ns) KI KR KA KP) e kk = r := by
  subst hi
  rw [n_nw hl]
  exact q
end newa
theorem m_law1 {h : zH} {I : Nat → Int32} {A : Nat → Nat → Int32} {N c n : Nat} (hl : 46 ≤ h.length) (hN : 21000 ≤ N) (hc : c ≤ 4) (hI : I 1 = nI c) {k m s : Int32} (h1 : ¬ k < 1) (h2 : ¬ 9 < k) (h3 : ¬ m < 1) (h4 : ¬ 5 < m) (h5 : ¬ s < 0) (h6 : ¬ 2000 < s) (hn : A 0 6845 = nI n) (hn6 : n < 6) :
    f_X12_law N 27 k m s (mp h I A) = some (nI (n + 1), mp h (upd I 1 (nI (kpC c))) (va_up A 0 (upd (upd (upd (upd (kpD (A 0) c) (6846 + 3 * n) k) (6846 + 3 * n + 1) m) (6846 + 3 * n + 2) s) 6845 (nI (n + 1))))) := by
  unfold f_X12_law
  rw [if_neg h1, if_neg h2, if_neg h3, if_neg h4, if_neg h5, if_neg h6]
  simp (disch := omega) only [mg0 hl, ml0L hl, Option.bind_some, hn]
  rw [if_neg (show ¬ nI n = (6 : Int32) from fun z => absurd ((nI_eq (a := n) (b := 6) (by omega) (by omega)).mp z) (by omega)), mck hl, Option.bind_some, m_keeps hl hN hc hI, Option.bind_some]
  simp (disch := omega) only [mg0 hl, ml0L hl, ms0L hl, ms0 hl, la_l, lm_l, la_r, Option.bind_some, bx_uu, vu_at, up_at, up_ne, kp_lo, hn]
theorem c_canAdd {h : zH} {KI : Nat → Int32} {KR : Nat → Option Nat} {KA : Nat → Nat → Int32} {KP : Nat → Option Nat} {lq b n N : Nat} {f : Nat → Int32} (w0 : oO h lq 1 [zr (some b)]) (w1 : aI h b (n * 3) f) (hn : n ≤ 6) (k m : Int32) :
    f_X1_canAdd N lq k m (cp h KI KR KA KP) = some (if k < 1 ∨ 9 < k ∨ n = 6 ∨ m < 1 ∨ 5 < m then 0 else 1) := by
  have hc : f_X1_count N lq (cp h KI KR KA KP) = some (nI n) := by
    unfold f_X1_count
    rw [fgR w0.c rfl, Option.bind_some, flen w1.c (by omega), Option.bind_some, show (3 : Int32) = nI 3 from rfl, pk_div (by omega) (by omega) (by omega), Nat.mul_div_cancel _ (by omega)]
  have e6 : (6 : Int32) ≤ nI n ↔ n = 6 := by
    show nI 6 ≤ nI n ↔ _
    rw [nI_leI (by omega) (by omega)]
    omega
  unfold f_X1_canAdd f_X1_canAdd_15 f_X1_canAdd_16
  rw [fk w0.c, Option.bind_some, Option.bind_some, hc, Option.bind_some, Option.bind_some]
  by_cases h1 : k < 1
  · simp [h1]
  by_cases h2 : 9 < k
  · simp [h1, h2]
  by_cases h3 : n = 6
  · subst h3
    have e7 : (6 : Int32) ≤ nI 6 := e6.mpr rfl
    simp [h1, h2, e7]
  by_cases h4 : m < 1
  · simp [h1, h2, h3, h4, e6]
  by_cases h5 : 5 < m
  · simp [h1, h2, h3, h4, h5, e6]
  · simp [h1, h2, h3, h4, h5, e6]
theorem op_law {h : zH} {N : Nat} (hN : 21000 ≤ N) (H : INX h) (k m s : Int32) : OPo (f_X11_law N 0 k m s) (f_X12_law N 27 k m s) h := by
  obtain ⟨KI, KR, KA, KP, I, A, c, q, H⟩ := H
  obtain ⟨hl, hC, hM, i1, i2, i3, i4, i5, i6, i7, i8, i9⟩ := id H
  obtain ⟨rq, aq, lq, nq, AR, s0, s1, s2, s3, ⟨b, n, f, w0, w1, z1, z2, z3⟩, s5, s6⟩ := id i5
  rw [seg_lo _ (by omega)] at z1
  have hq : 19 ≤ q := i5.st.1
  have haq : 19 ≤ aq := fz_19 s1.1
  have hca := c_canAdd (N := N) (KI := KI) (KR := KR) (KA := KA) (KP := KP) w0 w1 z2 k m
  have cx : f_X11_law N 0 k m s (cp h KI KR KA KP) = if (if k < 1 ∨ 9 < k ∨ n = 6 ∨ m < 1 ∨ 5 < m then (0 : Int32) else 1) = 0 then some (-1, cp h KI KR KA KP) else (f_X11_isScore N s (cp h KI KR KA KP)).bind fun x4 => if x4 = 0 then some (-1, cp h KI KR KA KP) else zb2 (f_X11_change N 0 (cp h KI KR KA KP)) fun x5 h1 => (zgR h1 9 x5 2).bind fun x6 => (zck h1 1 x6).bind fun q3 => zb2 (f_X1_with N q3 k m s h1) fun x7 h2 => (zpu h2 9 x5 2 (zr x7)).bind fun h3 => (zgR h3 9 x5 2).bind fun x8 => (zck h3 1 x8).bind fun q4 => (f_X1_count N q4 h3).bind fun x9 => some (x9, h3) := by
    unfold f_X11_law
    rw [cg0_5 hl, Option.bind_some, i4, fgR s0.c rfl, Option.bind_some, fk w0.c, Option.bind_some, hca, Option.bind_some, ck0 hl]
    rfl
  have bad : (k < 1 ∨ 9 < k ∨ n = 6 ∨ m < 1 ∨ 5 < m ∨ s < 0 ∨ 2000 < s) → OPo (f_X11_law N 0 k m s) (f_X12_law N 27 k m s) h := by
    intro hb
    refine OPo.same H (r := -1) ?_ ?_
    · rw [cx]
      by_cases hc : k < 1 ∨ 9 < k ∨ n = 6 ∨ m < 1 ∨ 5 < m
      · rw [if_pos hc, if_pos rfl]
      · rw [if_neg hc, if_neg (by decide)]
        unfold f_X11_isScore
        by_cases h5 : s < 0
        · rw [if_pos h5]; rfl
        · have h6 : 2000 < s := by
            rcases hb with q | q | q | q | q | q | q
            · exact absurd (Or.inl q) hc
            · exact absurd (Or.inr (Or.inl q)) hc
            · exact absurd (Or.inr (Or.inr (Or.inl q))) hc
            · exact absurd (Or.inr (Or.inr (Or.inr (Or.inl q)))) hc
            · exact absurd (Or.inr (Or.inr (Or.inr (Or.inr q)))) hc
            · exact absurd q h5
            · exact q
          rw [if_neg h5, if_pos h6]; rfl
    · unfold f_X12_law
      by_cases h1 : k < 1
      · rw [if_pos h1]
      by_cases h2 : 9 < k
      · rw [if_neg h1, if_pos h2]
      by_cases h3 : m < 1
      · rw [if_neg h1, if_neg h2, if_pos h3]
      by_cases h4 : 5 < m
      · rw [if_neg h1, if_neg h2, if_neg h3, if_pos h4]
      by_cases h5 : s < 0
      · rw [if_neg h1, if_neg h2, if_neg h3, if_neg h4, if_pos h5]
      by_cases h6 : 2000 < s
      · rw [if_neg h1, if_neg h2, if_neg h3, if_neg h4, if_neg h5, if_pos h6]
      · have hn6 : n = 6 := by
          rcases hb with q | q | q | q | q | q | q
          · exact absurd q h1
          · exact absurd q h2
          · exact q
          · exact absurd q h3
          · exact absurd q h4
          · exact absurd q h5
          · exact absurd q h6
        rw [if_neg h1, if_neg h2, if_neg h3, if_neg h4, if_neg h5, if_neg h6]
        simp (disch := omega) only [mg0 hl, ml0L hl, Option.bind_some, z1]
        rw [hn6, if_pos (show nI 6 = (6 : Int32) from rfl)]
  by_cases hb : k < 1 ∨ 9 < k ∨ n = 6 ∨ m < 1 ∨ 5 < m ∨ s < 0 ∨ 2000 < s
  · exact bad hb
  · simp only [not_or] at hb
    obtain ⟨g1, g2, g3, g4, g5, g6, g7⟩ := hb
    have hn6 : n < 6 := by omega
    have hb19 : 19 ≤ b := fz_19 w1.1
    have hlq : 19 ≤ lq := fz_19 w0.1
    refine OPo.chg H (r := nI (n + 1)) (d' := upd (upd (upd (upd (kpD (A 0) c) (6846 + 3 * n) k) (6846 + 3 * n + 1) m) (6846 + 3 * n + 2) s) 6845 (nI (n + 1))) (ns := [.inr (9, [zr rq, zr (some (h.length + 1)), zr (some (h.length + 3)), zr (some nq), zi (seg (A 0) 0 6897)]), .inl (4, 16, .inr AR), .inl (0, n * 3 + 3, .inl (upd (upd (upd (cpy f (n * 3)) (n * 3) k) (n * 3 + 1) m) (n * 3 + 2) s)), .inr (1, [zr (some (h.length + 2))])]) ?_ (fun h1' hl1 => m_law1 hl1 hN i3 i2 g1 g2 g4 g5 g6 g7 z1 hn6) ?_ ?_ (by simp) (by simp [zsl, zsz]; omega)
    · rw [cx, if_neg (by simp [g1, g2, g3, g4, g5]), f_X11_isScore, if_neg g6, if_neg g7, Option.bind_some, if_neg (by decide)]
      rw [c_change hl (by omega) hq haq s0.2 s1.2 i4 i1 i3 (fun i hi => by
        obtain ⟨p, e1, e2⟩ := i6 i hi
        obtain ⟨e3, ps, e4⟩ := e2.st
        exact ⟨p, ps, e1, e3, e4⟩)]
      rw [zb2, Option.bind_some, n_R hl (i := 0) rfl rfl, Option.bind_some, fk (n_old hlq w0.2), Option.bind_some]
      unfold f_X1_with
      rw [fgR (n_old hlq w0.2) rfl, Option.bind_some, Option.bind_some, flen (n_old hb19 w1.2) (by omega), Option.bind_some, la_r, n_cp hl hb19 w1.2 (by omega) (by omega) (by omega)]
      rw [zb2s, fgR (n_old hlq w0.2) rfl, Option.bind_some, flen (n_old hb19 w1.2) (by omega), Option.bind_some, la_r, Nat.min_eq_left (by omega)]
      rw [show ([(.inr (9, [zr rq, zr (some (h.length + 1)), zr (some lq), zr (some nq), zi (seg (A 0) 0 6897)]) : zE), .inl (4, 16, .inr AR)] : List zE).length = 2 from rfl]
      rw [n_st hl (i := 2) rfl (by simp) (by simp; omega), Option.bind_some, fgR (n_old hlq w0.2) rfl, Option.bind_some, flen (n_old hb19 w1.2) (by omega), Option.bind_some, la_r]
      rw [n_st hl (i := 2) rfl (by simp) (by simp; omega), Option.bind_some, fgR (n_old hlq w0.2) rfl, Option.bind_some, flen (n_old hb19 w1.2) (by omega), Option.bind_some, la_r]
      refine zS (bS (n_st hl (i := 2) rfl (by simp) (by simp; omega)) (nS hl 3 rfl (bS (bS (n_u hl (i := 3) rfl (Nat.le_of_ble_eq_true rfl)) rfl) rfl))) ?_
      refine bS (n_u hl (i := 0) rfl (Nat.le_of_ble_eq_true rfl)) (bS (n_R hl (i := 0) rfl rfl) (bS (n_k hl (i := 3) rfl) (bS (bS (n_R hl (i := 3) rfl rfl) (bS (n_ln hl (i := 2) rfl (by omega)) rfl)) ?_)))
      rw [show (3 : Int32) = nI 3 from rfl, pk_div (by omega) (by omega) (by omega), show (n * 3 + 3) / 3 = n + 1 by omega]
      rfl
    · intro i hi
      rw [seg_upi _ (by omega) hi, seg_upi _ (by omega) hi, seg_upi _ (by omega) hi, seg_upi _ (by omega) hi]
    · rw [seg_up0 _ (by omega), seg_up0 _ (by omega), seg_up0 _ (by omega), seg_up0 _ (by omega), seg_kp0]
      have kk := kept.cp (h := h) (ns := [.inr (9, [zr rq, zr (some (h.length + 1)), zr (some (h.length + 3)), zr (some nq), zi (seg (A 0) 0 6897)]), .inl (4, 16, .inr AR), .inl (0, n * 3 + 3, .inl (upd (upd (upd (cpy f (n * 3)) (n * 3) k) (n * 3 + 1) m) (n * 3 + 2) s)), .inr (1, [zr (some (h.length + 2))])]) (KI := upd KI 0 (nI (kpC c))) (KR := va_up KR 0 (some (h.length + 0))) (KA := KA) (KP := kpP KP c q)
      have nu : ∀ j, (j < 6845 ∨ 6864 ≤ j) → upd (upd (upd (upd (seg (A 0) 0) (6846 + 3 * n) k) (6846 + 3 * n + 1) m) (6846 + 3 * n + 2) s) 6845 (nI (n + 1)) j = seg (A 0) 0 j := by
        intro j hj
        rw [up_ne _ _ (by omega), up_ne _ _ (by omega), up_ne _ _ (by omega), up_ne _ _ (by omega)]
      refine ⟨rq, h.length + 1, h.length + 3, nq, AR, ⟨fz_new hl 0, ?_⟩, ⟨fz_new hl 1, ?_⟩, (s2.mono kk).cg ?_, fun a ha => ((s3 a ha).mono kk).cg ?_, ?_, (s5.mono kk).cg ?_ ?_, ?_⟩
      · rw [n_get hl, nu _ (by omega)]; rfl
      · rw [n_get hl]; rfl
      · exact fun j hj => nu j (by omega)
      · exact fun j hj => nu j (by unfold regA at hj; omega)
      · refine ⟨h.length + 2, n + 1, upd (upd (upd (cpy f (n * 3)) (n * 3) k) (n * 3 + 1) m) (n * 3 + 2) s, ⟨fz_new hl 3, (n_get hl).trans rfl⟩, ⟨fz_new hl 2, ?_⟩, up_at _ _ _, by omega, ?_⟩
        · rw [n_get hl, Nat.add_mul]; rfl
        · intro k' hk' i hi
          by_cases hk : k' < n
          · rw [up_ne _ _ (by omega), up_ne _ _ (by omega), up_ne _ _ (by omega), up_ne _ _ (by omega), up_ne _ _ (by omega), up_ne _ _ (by omega), up_ne _ _ (by omega), cpy, if_pos (by omega)]
            exact z3 k' hk i hi
          · have hkn : k' = n := by omega
            subst hkn
            rcases (show i = 0 ∨ i = 1 ∨ i = 2 by omega) with rfl | rfl | rfl
            · rw [up_ne _ _ (by omega), up_ne _ _ (by omega), Nat.add_zero, up_at, up_ne _ _ (by omega), up_ne _ _ (by omega), up_ne _ _ (by omega), Nat.add_zero, up_at]
            · rw [up_ne _ _ (by omega), up_at, up_ne _ _ (by omega), up_ne _ _ (by omega), up_at]
            · rw [up_at, up_ne _ _ (by omega), up_at]
      · exact fun j h5 h6 => nu j (by omega)
      · intro a ha h5
        rw [nu _ (by omega)]
        exact h5
      · obtain ⟨t, e1, e2⟩ := s6
        exact ⟨t, by rw [nu _ (by omega)]; exact e1, e2⟩
