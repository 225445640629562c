/-! ===== round: the class's numbers and words ===== -/
theorem nI_dig {x d : Nat} (hd : 48 ≤ d) : nI x * 10 + (nI d - 48) = nI (x * 10 + (d - 48)) := by
  rw [lm_r, show nI d - (48 : Int32) = nI (d - 48) from pk_sub (b := 48) hd, nI_add]
section rn
variable {h : zH} {K : Nat → Int32} {KR : Nat → Option Nat} {KA : Nat → Nat → Int32} {KP : Nat → Option Nat} {N t : Nat} {T : Nat → Nat} {n s f pl : Int32}
theorem c_n17 (hl : 46 ≤ h.length) (w : tpC K KA T t) {q e : Nat} (r : run isD T t q e) (x y : Int32) : ∀ (m i fuel : Nat), i + m ≤ e - q → i + m ≤ 6 → f_X5_readNumber_17 N (fuel + m) 1 x y (cp h (rK K (nI (q + i)) (nI (dv T q i)) (nI q) f pl) KR KA KP) = f_X5_readNumber_17 N fuel 1 x y (cp h (rK K (nI (q + (i + m))) (nI (dv T q (i + m))) (nI q) f pl) KR KA KP) := by
  obtain ⟨w1, w2, w3⟩ := id w
  obtain ⟨e1, e2, e3, e4⟩ := id r
  intro m
  induction m with
  | zero => intro i fuel _ _; rfl
  | succ m ih =>
    intro i fuel h1 h2
    obtain ⟨v, v1, v0, v2⟩ := c_isD (N := N) (H := cp h (rK K (nI (q + i)) (nI (dv T q i)) (nI q) f pl) KR KA KP) (w3 (q + i) (by omega)).2
    have hd := e3 (q + i) (by omega) (by omega)
    rw [show fuel + (m + 1) = fuel + m + 1 by omega, f_X5_readNumber_17]
    refine bS (r2 hl) (bS (cg1_0 hl) (bS (rl hl w) (iF (nI_ge (by omega) (by omega)) (bS (cg1_0 hl) (bS (r2 hl) (bS (ck2 hl) (bS (c_at hl w (by omega)) (bS v1 (iF (fun z => v2.mp z hd) (bS (r2 hl) (bS (r4 hl) ?_)))))))))))
    rw [pk_sub (by omega)]
    refine iT (nI_lt (b := 6) (by omega) (by omega)) (bS (r3 hl) (bS (cg1_0 hl) (bS (r2 hl) (bS (ck2 hl) (bS (c_at hl w (by omega)) ?_)))))
    rw [nI_dig hd.1]
    refine bS (u3 hl) (bS (r2 hl) (bS (u2 hl) ?_))
    rw [la_r, show i + (m + 1) = i + 1 + m by omega]
    exact ih (i + 1) fuel (by omega) (by omega)
theorem c_nbeg (hl : 46 ≤ h.length) (w : tpC K KA T t) (hN : 1100 ≤ N) {p q : Nat} (rb : run isB T t p q) (x y : Int32) : f_X5_readNumber N 1 x y (cp h (rK K (nI p) n s f pl) KR KA KP) = f_X5_readNumber_17 N N 1 x y (cp h (rK K (nI q) 0 (nI q) f pl) KR KA KP) :=
  bS (ck1 hl) (bS (c_skipB hl w hN rb) (bS (r2 hl) (bS (u4 hl) (bS (u3 hl) rfl))))
/-- the run's end reached -/
theorem c_n111 (hl : 46 ≤ h.length) (w : tpC K KA T t) {q e : Nat} (r : run isD T t q e) {x y nn ss : Int32} {fuel : Nat} : f_X5_readNumber_17 N (fuel + 1) 1 x y (cp h (rK K (nI e) nn ss f pl) KR KA KP) = f_X5_readNumber_111 N 1 x y (cp h (rK K (nI e) nn ss f pl) KR KA KP) := by
  obtain ⟨w1, w2, w3⟩ := id w
  obtain ⟨e1, e2, e3, e4⟩ := id r
  rw [f_X5_readNumber_17]
  refine bS (r2 hl) (bS (cg1_0 hl) (bS (rl hl w) ?_))
  by_cases he : e < t
  · obtain ⟨v, v1, v0, v2⟩ := c_isD (N := N) (H := cp h (rK K (nI e) nn ss f pl) KR KA KP) (w3 e he).2
    exact iF (nI_ge he (by omega)) (bS (cg1_0 hl) (bS (r2 hl) (bS (ck2 hl) (bS (c_at hl w he) (bS v1 (iT (v2.mpr (e4 he)) rfl))))))
  · exact iT (nI_le (by omega) (by omega)) rfl
theorem c_num0 (hl : 46 ≤ h.length) (w : tpC K KA T t) (hN : 1100 ≤ N) {p q : Nat} (rb : run isB T t p q) (hd : ¬ (q < t ∧ isD (T q))) (x y : Int32) : f_X5_readNumber N 1 x y (cp h (rK K (nI p) n s f pl) KR KA KP) = some (0, cp h (rK K (nI q) 0 (nI q) 1 (nI q)) KR KA KP) := by
  have r : run isD T t q q := ⟨by omega, rb.2.1, fun j h1 h2 => by omega, fun hq z => hd ⟨hq, z⟩⟩
  obtain ⟨N', rfl⟩ : ∃ m, N = m + 1 := ⟨N - 1, by omega⟩
  rw [c_nbeg hl w hN rb, c_n111 hl w r]
  exact bS (r2 hl) (bS (r4 hl) (iT rfl (bS (r2 hl) (bS (ck1 hl) (zS (c_refuse hl) (iT (Or.inl rfl) rfl))))))
theorem c_num7 (hl : 46 ≤ h.length) (w : tpC K KA T t) (hN : 1100 ≤ N) {p q e : Nat} (rb : run isB T t p q) (r : run isD T t q e) (h7 : q + 7 ≤ e) (x y : Int32) : f_X5_readNumber N 1 x y (cp h (rK K (nI p) n s f pl) KR KA KP) = some (0, cp h (rK K (nI (q + 6)) (nI (dv T q 6)) (nI q) 1 (nI (q + 6))) KR KA KP) := by
  obtain ⟨w1, w2, w3⟩ := id w
  obtain ⟨e1, e2, e3, e4⟩ := id r
  obtain ⟨N', hN'⟩ : ∃ m, N = m + 1 + 6 := ⟨N - 7, by omega⟩
  rw [c_nbeg hl w hN rb]
  have h1 := c_n17 (N := N) (h := h) (K := K) (KR := KR) (KP := KP) (f := f) (pl := pl) hl w r x y 6 0 (N' + 1) (by omega) (by omega)
  rw [← hN', Nat.zero_add] at h1
  refine h1.trans ?_
  obtain ⟨v, v1, v0, v2⟩ := c_isD (N := N) (H := cp h (rK K (nI (q + 6)) (nI (dv T q 6)) (nI q) f pl) KR KA KP) (w3 (q + 6) (by omega)).2
  rw [f_X5_readNumber_17]
  refine bS (r2 hl) (bS (cg1_0 hl) (bS (rl hl w) (iF (nI_ge (by omega) (by omega)) (bS (cg1_0 hl) (bS (r2 hl) (bS (ck2 hl) (bS (c_at hl w (by omega)) (bS v1 (iF (fun z => v2.mp z (e3 (q + 6) (by omega) (by omega))) (bS (r2 hl) (bS (r4 hl) ?_)))))))))))
  rw [pk_sub (by omega)]
  exact iF (nI_nlt (b := 6) (by omega) (by omega)) (bS (r2 hl) (bS (ck1 hl) (zS (c_refuse hl) (iT (Or.inl rfl) rfl))))
theorem c_numv (hl : 46 ≤ h.length) (w : tpC K KA T t) (hN : 1100 ≤ N) {p q e : Nat} (rb : run isB T t p q) (r : run isD T t q e) (h1 : q < e) (h6 : e ≤ q + 6) {x y : Nat} (hx : x < 2 ^ 31) (hy : y < 2 ^ 31) : f_X5_readNumber N 1 (nI x) (nI y) (cp h (rK K (nI p) n s f pl) KR KA KP) = if x ≤ dv T q (e - q) ∧ dv T q (e - q) ≤ y then some (1, cp h (rK K (nI e) (nI (dv T q (e - q))) (nI q) f pl) KR KA KP) else some (0, cp h (rK K (nI e) (nI (dv T q (e - q))) (nI q) 2 (nI q)) KR KA KP) := by
  obtain ⟨w1, w2, w3⟩ := id w
  obtain ⟨e1, e2, e3, e4⟩ := id r
  have hv := dv6 (T := T) (q := q) (i := e - q) (fun j hj => e3 (q + j) (by omega) (by omega)) (by omega)
  obtain ⟨N', hN'⟩ : ∃ m, N = m + 1 + (e - q) := ⟨N - (e - q) - 1, by omega⟩
  rw [c_nbeg hl w hN rb]
  have g1 := c_n17 (N := N) (h := h) (K := K) (KR := KR) (KP := KP) (f := f) (pl := pl) hl w r (nI x) (nI y) (e - q) 0 (N' + 1) (by omega) (by omega)
  rw [← hN', Nat.zero_add, show q + (e - q) = e by omega] at g1
  refine g1.trans ?_
  rw [c_n111 hl w r]
  have r48 : f_X5_readNumber_148 N 1 (cp h (rK K (nI e) (nI (dv T q (e - q))) (nI q) f pl) KR KA KP) = some (0, cp h (rK K (nI e) (nI (dv T q (e - q))) (nI q) 2 (nI q)) KR KA KP) := bS (r4 hl) (bS (ck1 hl) (zS (c_refuse hl) (iT rfl rfl)))
  refine bS (r2 hl) (bS (r4 hl) (iF (fun z => by have := (nI_eq (by omega) (by omega)).mp z; omega) (bS (r3 hl) ?_)))
  by_cases c1 : x ≤ dv T q (e - q)
  · refine iF (nI_nlt c1 (by omega)) (bS (r3 hl) ?_)
    by_cases c2 : dv T q (e - q) ≤ y
    · rw [if_pos (show x ≤ dv T q (e - q) ∧ dv T q (e - q) ≤ y from ⟨c1, c2⟩)]
      exact iT (nI_le c2 hy) rfl
    · rw [if_neg (show ¬ (x ≤ dv T q (e - q) ∧ dv T q (e - q) ≤ y) from fun z => c2 z.2)]
      exact iF (nI_ge (by omega) (by omega)) r48
  · rw [if_neg (show ¬ (x ≤ dv T q (e - q) ∧ dv T q (e - q) ≤ y) from fun z => c1 z.1)]
    exact iT (nI_lt (by omega) (by omega)) r48
/-- the bytes from q to e are word k -/
def wdQ (T : Nat → Nat) (q e k : Nat) : Prop := e - q = zSl.getD k 0 ∧ ∀ i, i < zSl.getD k 0 → nI (T (q + i)) = (zSb.getD k []).getD i 0
theorem zSl_le {k : Nat} (hk : k < 8) : zSl.getD k 0 ≤ 7 := by
  rcases (show k = 0 ∨ k = 1 ∨ k = 2 ∨ k = 3 ∨ k = 4 ∨ k = 5 ∨ k = 6 ∨ k = 7 by omega) with rfl | rfl | rfl | rfl | rfl | rfl | rfl | rfl <;> decide
theorem c_spelt (hl : 46 ≤ h.length) (w : tpC K KA T t) (hN : 1100 ≤ N) {q e k : Nat} (hk : k < 8) (r : run isL T t q e) : ∃ v, f_X5_isSpelt N 1 (nI q) k (cp h (rK K (nI e) n s f pl) KR KA KP) = some (v, cp h (rK K (nI e) n s f pl) KR KA KP) ∧ (v = 0 ↔ ¬ wdQ T q e k) := by
  obtain ⟨w1, w2, w3⟩ := id w
  obtain ⟨e1, e2, e3, e4⟩ := id r
  have l7 := zSl_le hk
  have hst : zstl k = some (nI (zSl.getD k 0)) := if_pos hk
  unfold f_X5_isSpelt
  rw [r2 hl, Option.bind_some, hst, Option.bind_some, pk_sub e1]
  by_cases hlen : e - q = zSl.getD k 0
  · rw [if_pos (by rw [hlen])]
    obtain ⟨a, a1, a2, a3⟩ := exFst (fun i => nI (T (q + i)) ≠ (zSb.getD k []).getD i 0) (zSl.getD k 0)
    have go : ∀ (m b fuel : Nat), b + m = a → m < fuel → f_X5_isSpelt_17 N fuel 1 (nI q) k (nI b) (cp h (rK K (nI e) n s f pl) KR KA KP) = some (if a < zSl.getD k 0 then 0 else 1, cp h (rK K (nI e) n s f pl) KR KA KP) := by
      intro m
      have hch : ∀ b, b < zSl.getD k 0 → zstc k (nI b) = some ((zSb.getD k []).getD b 0) := by
        intro b hb
        unfold zstc
        rw [nI_clamp (by omega)]
        exact if_pos ⟨hk, fun z => z.elim (nI_pos (by omega)) (by omega)⟩
      induction m with
      | zero =>
        intro b fuel h1 h2
        obtain ⟨fuel, rfl⟩ : ∃ x, fuel = x + 1 := ⟨fuel - 1, by omega⟩
        rw [f_X5_isSpelt_17, show b = a by omega]
        refine bS hst ?_
        by_cases ha : a < zSl.getD k 0
        · rw [if_pos (show a < zSl.getD k 0 from ha)]
          refine iF (nI_ge ha (by omega)) (bS (cg1_0 hl) (bS (ck2 hl) ?_))
          rw [nI_add]
          exact bS (c_at hl w (by omega)) (bS (hch a ha) (iF (a3 ha) rfl))
        · rw [if_neg (show ¬ a < zSl.getD k 0 from ha)]
          exact iT (nI_le (by omega) (by omega)) rfl
      | succ m ih =>
        intro b fuel h1 h2
        obtain ⟨fuel, rfl⟩ : ∃ x, fuel = x + 1 := ⟨fuel - 1, by omega⟩
        rw [f_X5_isSpelt_17]
        refine bS hst (iF (nI_ge (by omega) (by omega)) (bS (cg1_0 hl) (bS (ck2 hl) ?_)))
        rw [nI_add]
        refine bS (c_at hl w (by omega)) (bS (hch b (by omega)) (iT (Classical.not_not.mp (a2 b (by omega))) ?_))
        rw [la_r]
        exact ih (b + 1) fuel (by omega) (by omega)
    refine ⟨_, go a 0 N (by omega) (by omega), ?_⟩
    by_cases ha : a < zSl.getD k 0
    · rw [if_pos ha]
      exact ⟨fun _ z => a3 ha (z.2 a ha), fun _ => rfl⟩
    · rw [if_neg ha]
      exact ⟨fun z => absurd z (by decide), fun z => absurd ⟨hlen, fun i hi => Classical.not_not.mp (a2 i (by omega))⟩ z⟩
  · rw [if_neg (fun z => hlen ((nI_eq (by omega) (by omega)).mp z))]
    exact ⟨0, rfl, fun _ z => hlen z.1, fun _ => rfl⟩
end rn
