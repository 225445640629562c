/-! ===== round: its begin and its end ===== -/
section rbeg
variable {h : zH} {KI : Nat → Int32} {KR : Nat → Option Nat} {KA : Nat → Nat → Int32} {KP : Nat → Option Nat} {N : Nat}
def f8m : Nat → Int32 := upd (upd (upd (fun _ => 0) 0 (-1)) 1 (-1)) 2 (-1)
theorem dR_0 (h : zH) {R : Nat → Int32} (hR : ∀ j, j < 125 → R j = 0) (f8 : Nat → Int32) : dR h R (nI 0) f8 = dC h 0 0 0 (fun _ => 0) (fun _ => 0) (fun _ => 0) (fun _ => 0) (fun _ => 0) (fun _ => 0) (fun _ => 0) f8 := by
  have v0 : ∀ a m, a + m ≤ 125 → vw R a m = fun _ => 0 := by
    intro a m ham
    funext k
    unfold vw
    by_cases hk : k < m
    · rw [if_pos hk, hR _ (by omega)]
    · rw [if_neg hk]
  have v3 : ∀ a, a < 100 → vw3 R a = fun _ => 0 := by
    intro a ha
    funext k
    unfold vw3
    by_cases hk : k < 4
    · rw [if_pos hk, hR _ (by omega)]
    · rw [if_neg hk]
  unfold dR
  rw [hR 1 (by omega), hR 115 (by omega), v0 15 4 (by omega), v0 19 48 (by omega), v0 67 48 (by omega), v3 2 (by omega), v3 3 (by omega), v3 4 (by omega), v0 116 6 (by omega)]
  rfl
theorem c_rinit (hl : 46 ≤ h.length) {R : Nat → Int32} (hR : ∀ j, j < 125 → R j = 0) : f_X6_init N (h.length + 0) (cp (h ++ [.inr (6, [zi 0, zr none, zr none, zr none, zi 0, zr none, zr none, zr none, zi 0, zr none, zr none])]) KI KR KA KP) = some (cp (h ++ dR h R (nI 0) f8m) KI KR KA KP) := by
  rw [dR_0 h hR]
  unfold f_X6_init
  refine bS (a := cp (h ++ [.inr (6, [zi 0, zr none, zr none, zr none, zi 0, zr none, zr none, zr none, zi 0, zr none, zr none])]) KI KR KA KP) ((n_u hl (i := 0) rfl (Nat.le_of_ble_eq_true rfl)).trans rfl) ?_
  refine n_na hl (k := 4) (by omega) 1 rfl ?_
  rw [show ([.inr (6, [zi 0, zr none, zr none, zr none, zi 0, zr none, zr none, zr none, zi 0, zr none, zr none])] : List zE) ++ [.inl (0, 4, .inl (fun _ => 0))] = [.inr (6, [zi 0, zr none, zr none, zr none, zi 0, zr none, zr none, zr none, zi 0, zr none, zr none]), .inl (0, 4, .inl (fun _ => 0))] from rfl]
  refine bS (a := cp (h ++ [.inr (6, [zi 0, zr (some (h.length + 1)), zr none, zr none, zi 0, zr none, zr none, zr none, zi 0, zr none, zr none]), .inl (0, 4, .inl (fun _ => 0))]) KI KR KA KP) ((n_u hl (i := 0) rfl (Nat.le_of_ble_eq_true rfl)).trans rfl) ?_
  refine n_na hl (k := 48) (by omega) 2 rfl ?_
  rw [show ([.inr (6, [zi 0, zr (some (h.length + 1)), zr none, zr none, zi 0, zr none, zr none, zr none, zi 0, zr none, zr none]), .inl (0, 4, .inl (fun _ => 0))] : List zE) ++ [.inl (0, 48, .inl (fun _ => 0))] = [.inr (6, [zi 0, zr (some (h.length + 1)), zr none, zr none, zi 0, zr none, zr none, zr none, zi 0, zr none, zr none]), .inl (0, 4, .inl (fun _ => 0)), .inl (0, 48, .inl (fun _ => 0))] from rfl]
  refine bS (a := cp (h ++ [.inr (6, [zi 0, zr (some (h.length + 1)), zr (some (h.length + 2)), zr none, zi 0, zr none, zr none, zr none, zi 0, zr none, zr none]), .inl (0, 4, .inl (fun _ => 0)), .inl (0, 48, .inl (fun _ => 0))]) KI KR KA KP) ((n_u hl (i := 0) rfl (Nat.le_of_ble_eq_true rfl)).trans rfl) ?_
  refine n_na hl (k := 48) (by omega) 3 rfl ?_
  rw [show ([.inr (6, [zi 0, zr (some (h.length + 1)), zr (some (h.length + 2)), zr none, zi 0, zr none, zr none, zr none, zi 0, zr none, zr none]), .inl (0, 4, .inl (fun _ => 0)), .inl (0, 48, .inl (fun _ => 0))] : List zE) ++ [.inl (0, 48, .inl (fun _ => 0))] = [.inr (6, [zi 0, zr (some (h.length + 1)), zr (some (h.length + 2)), zr none, zi 0, zr none, zr none, zr none, zi 0, zr none, zr none]), .inl (0, 4, .inl (fun _ => 0)), .inl (0, 48, .inl (fun _ => 0)), .inl (0, 48, .inl (fun _ => 0))] from rfl]
  refine bS (a := cp (h ++ [.inr (6, [zi 0, zr (some (h.length + 1)), zr (some (h.length + 2)), zr (some (h.length + 3)), zi 0, zr none, zr none, zr none, zi 0, zr none, zr none]), .inl (0, 4, .inl (fun _ => 0)), .inl (0, 48, .inl (fun _ => 0)), .inl (0, 48, .inl (fun _ => 0))]) KI KR KA KP) ((n_u hl (i := 0) rfl (Nat.le_of_ble_eq_true rfl)).trans rfl) ?_
  refine bS (a := cp (h ++ [.inr (6, [zi 0, zr (some (h.length + 1)), zr (some (h.length + 2)), zr (some (h.length + 3)), zi 0, zr none, zr none, zr none, zi 0, zr none, zr none]), .inl (0, 4, .inl (fun _ => 0)), .inl (0, 48, .inl (fun _ => 0)), .inl (0, 48, .inl (fun _ => 0))]) KI KR KA KP) ((n_u hl (i := 0) rfl (Nat.le_of_ble_eq_true rfl)).trans rfl) ?_
  refine n_na hl (k := 4) (by omega) 4 rfl ?_
  rw [show ([.inr (6, [zi 0, zr (some (h.length + 1)), zr (some (h.length + 2)), zr (some (h.length + 3)), zi 0, zr none, zr none, zr none, zi 0, zr none, zr none]), .inl (0, 4, .inl (fun _ => 0)), .inl (0, 48, .inl (fun _ => 0)), .inl (0, 48, .inl (fun _ => 0))] : List zE) ++ [.inl (0, 4, .inl (fun _ => 0))] = [.inr (6, [zi 0, zr (some (h.length + 1)), zr (some (h.length + 2)), zr (some (h.length + 3)), zi 0, zr none, zr none, zr none, zi 0, zr none, zr none]), .inl (0, 4, .inl (fun _ => 0)), .inl (0, 48, .inl (fun _ => 0)), .inl (0, 48, .inl (fun _ => 0)), .inl (0, 4, .inl (fun _ => 0))] from rfl]
  refine bS (a := cp (h ++ [.inr (6, [zi 0, zr (some (h.length + 1)), zr (some (h.length + 2)), zr (some (h.length + 3)), zi 0, zr (some (h.length + 4)), zr none, zr none, zi 0, zr none, zr none]), .inl (0, 4, .inl (fun _ => 0)), .inl (0, 48, .inl (fun _ => 0)), .inl (0, 48, .inl (fun _ => 0)), .inl (0, 4, .inl (fun _ => 0))]) KI KR KA KP) ((n_u hl (i := 0) rfl (Nat.le_of_ble_eq_true rfl)).trans rfl) ?_
  refine n_na hl (k := 4) (by omega) 5 rfl ?_
  rw [show ([.inr (6, [zi 0, zr (some (h.length + 1)), zr (some (h.length + 2)), zr (some (h.length + 3)), zi 0, zr (some (h.length + 4)), zr none, zr none, zi 0, zr none, zr none]), .inl (0, 4, .inl (fun _ => 0)), .inl (0, 48, .inl (fun _ => 0)), .inl (0, 48, .inl (fun _ => 0)), .inl (0, 4, .inl (fun _ => 0))] : List zE) ++ [.inl (0, 4, .inl (fun _ => 0))] = [.inr (6, [zi 0, zr (some (h.length + 1)), zr (some (h.length + 2)), zr (some (h.length + 3)), zi 0, zr (some (h.length + 4)), zr none, zr none, zi 0, zr none, zr none]), .inl (0, 4, .inl (fun _ => 0)), .inl (0, 48, .inl (fun _ => 0)), .inl (0, 48, .inl (fun _ => 0)), .inl (0, 4, .inl (fun _ => 0)), .inl (0, 4, .inl (fun _ => 0))] from rfl]
  refine bS (a := cp (h ++ [.inr (6, [zi 0, zr (some (h.length + 1)), zr (some (h.length + 2)), zr (some (h.length + 3)), zi 0, zr (some (h.length + 4)), zr (some (h.length + 5)), zr none, zi 0, zr none, zr none]), .inl (0, 4, .inl (fun _ => 0)), .inl (0, 48, .inl (fun _ => 0)), .inl (0, 48, .inl (fun _ => 0)), .inl (0, 4, .inl (fun _ => 0)), .inl (0, 4, .inl (fun _ => 0))]) KI KR KA KP) ((n_u hl (i := 0) rfl (Nat.le_of_ble_eq_true rfl)).trans rfl) ?_
  refine n_na hl (k := 4) (by omega) 6 rfl ?_
  rw [show ([.inr (6, [zi 0, zr (some (h.length + 1)), zr (some (h.length + 2)), zr (some (h.length + 3)), zi 0, zr (some (h.length + 4)), zr (some (h.length + 5)), zr none, zi 0, zr none, zr none]), .inl (0, 4, .inl (fun _ => 0)), .inl (0, 48, .inl (fun _ => 0)), .inl (0, 48, .inl (fun _ => 0)), .inl (0, 4, .inl (fun _ => 0)), .inl (0, 4, .inl (fun _ => 0))] : List zE) ++ [.inl (0, 4, .inl (fun _ => 0))] = [.inr (6, [zi 0, zr (some (h.length + 1)), zr (some (h.length + 2)), zr (some (h.length + 3)), zi 0, zr (some (h.length + 4)), zr (some (h.length + 5)), zr none, zi 0, zr none, zr none]), .inl (0, 4, .inl (fun _ => 0)), .inl (0, 48, .inl (fun _ => 0)), .inl (0, 48, .inl (fun _ => 0)), .inl (0, 4, .inl (fun _ => 0)), .inl (0, 4, .inl (fun _ => 0)), .inl (0, 4, .inl (fun _ => 0))] from rfl]
  refine bS (a := cp (h ++ [.inr (6, [zi 0, zr (some (h.length + 1)), zr (some (h.length + 2)), zr (some (h.length + 3)), zi 0, zr (some (h.length + 4)), zr (some (h.length + 5)), zr (some (h.length + 6)), zi 0, zr none, zr none]), .inl (0, 4, .inl (fun _ => 0)), .inl (0, 48, .inl (fun _ => 0)), .inl (0, 48, .inl (fun _ => 0)), .inl (0, 4, .inl (fun _ => 0)), .inl (0, 4, .inl (fun _ => 0)), .inl (0, 4, .inl (fun _ => 0))]) KI KR KA KP) ((n_u hl (i := 0) rfl (Nat.le_of_ble_eq_true rfl)).trans rfl) ?_
  refine bS (a := cp (h ++ [.inr (6, [zi 0, zr (some (h.length + 1)), zr (some (h.length + 2)), zr (some (h.length + 3)), zi 0, zr (some (h.length + 4)), zr (some (h.length + 5)), zr (some (h.length + 6)), zi 0, zr none, zr none]), .inl (0, 4, .inl (fun _ => 0)), .inl (0, 48, .inl (fun _ => 0)), .inl (0, 48, .inl (fun _ => 0)), .inl (0, 4, .inl (fun _ => 0)), .inl (0, 4, .inl (fun _ => 0)), .inl (0, 4, .inl (fun _ => 0))]) KI KR KA KP) ((n_u hl (i := 0) rfl (Nat.le_of_ble_eq_true rfl)).trans rfl) ?_
  refine n_na hl (k := 6) (by omega) 7 rfl ?_
  rw [show ([.inr (6, [zi 0, zr (some (h.length + 1)), zr (some (h.length + 2)), zr (some (h.length + 3)), zi 0, zr (some (h.length + 4)), zr (some (h.length + 5)), zr (some (h.length + 6)), zi 0, zr none, zr none]), .inl (0, 4, .inl (fun _ => 0)), .inl (0, 48, .inl (fun _ => 0)), .inl (0, 48, .inl (fun _ => 0)), .inl (0, 4, .inl (fun _ => 0)), .inl (0, 4, .inl (fun _ => 0)), .inl (0, 4, .inl (fun _ => 0))] : List zE) ++ [.inl (0, 6, .inl (fun _ => 0))] = [.inr (6, [zi 0, zr (some (h.length + 1)), zr (some (h.length + 2)), zr (some (h.length + 3)), zi 0, zr (some (h.length + 4)), zr (some (h.length + 5)), zr (some (h.length + 6)), zi 0, zr none, zr none]), .inl (0, 4, .inl (fun _ => 0)), .inl (0, 48, .inl (fun _ => 0)), .inl (0, 48, .inl (fun _ => 0)), .inl (0, 4, .inl (fun _ => 0)), .inl (0, 4, .inl (fun _ => 0)), .inl (0, 4, .inl (fun _ => 0)), .inl (0, 6, .inl (fun _ => 0))] from rfl]
  refine bS (a := cp (h ++ [.inr (6, [zi 0, zr (some (h.length + 1)), zr (some (h.length + 2)), zr (some (h.length + 3)), zi 0, zr (some (h.length + 4)), zr (some (h.length + 5)), zr (some (h.length + 6)), zi 0, zr (some (h.length + 7)), zr none]), .inl (0, 4, .inl (fun _ => 0)), .inl (0, 48, .inl (fun _ => 0)), .inl (0, 48, .inl (fun _ => 0)), .inl (0, 4, .inl (fun _ => 0)), .inl (0, 4, .inl (fun _ => 0)), .inl (0, 4, .inl (fun _ => 0)), .inl (0, 6, .inl (fun _ => 0))]) KI KR KA KP) ((n_u hl (i := 0) rfl (Nat.le_of_ble_eq_true rfl)).trans rfl) ?_
  refine n_na hl (k := 3) (by omega) 8 rfl ?_
  rw [show ([.inr (6, [zi 0, zr (some (h.length + 1)), zr (some (h.length + 2)), zr (some (h.length + 3)), zi 0, zr (some (h.length + 4)), zr (some (h.length + 5)), zr (some (h.length + 6)), zi 0, zr (some (h.length + 7)), zr none]), .inl (0, 4, .inl (fun _ => 0)), .inl (0, 48, .inl (fun _ => 0)), .inl (0, 48, .inl (fun _ => 0)), .inl (0, 4, .inl (fun _ => 0)), .inl (0, 4, .inl (fun _ => 0)), .inl (0, 4, .inl (fun _ => 0)), .inl (0, 6, .inl (fun _ => 0))] : List zE) ++ [.inl (0, 3, .inl (fun _ => 0))] = [.inr (6, [zi 0, zr (some (h.length + 1)), zr (some (h.length + 2)), zr (some (h.length + 3)), zi 0, zr (some (h.length + 4)), zr (some (h.length + 5)), zr (some (h.length + 6)), zi 0, zr (some (h.length + 7)), zr none]), .inl (0, 4, .inl (fun _ => 0)), .inl (0, 48, .inl (fun _ => 0)), .inl (0, 48, .inl (fun _ => 0)), .inl (0, 4, .inl (fun _ => 0)), .inl (0, 4, .inl (fun _ => 0)), .inl (0, 4, .inl (fun _ => 0)), .inl (0, 6, .inl (fun _ => 0)), .inl (0, 3, .inl (fun _ => 0))] from rfl]
  refine bS (a := cp (h ++ [.inr (6, [zi 0, zr (some (h.length + 1)), zr (some (h.length + 2)), zr (some (h.length + 3)), zi 0, zr (some (h.length + 4)), zr (some (h.length + 5)), zr (some (h.length + 6)), zi 0, zr (some (h.length + 7)), zr none]), .inl (0, 4, .inl (fun _ => 0)), .inl (0, 48, .inl (fun _ => 0)), .inl (0, 48, .inl (fun _ => 0)), .inl (0, 4, .inl (fun _ => 0)), .inl (0, 4, .inl (fun _ => 0)), .inl (0, 4, .inl (fun _ => 0)), .inl (0, 6, .inl (fun _ => 0)), .inl (0, 3, .inl (upd (fun _ => 0) 0 (-1)))]) KI KR KA KP) ((n_st hl (i := 8) (j := 0) rfl (by omega) (by omega)).trans rfl) ?_
  refine bS (a := cp (h ++ [.inr (6, [zi 0, zr (some (h.length + 1)), zr (some (h.length + 2)), zr (some (h.length + 3)), zi 0, zr (some (h.length + 4)), zr (some (h.length + 5)), zr (some (h.length + 6)), zi 0, zr (some (h.length + 7)), zr none]), .inl (0, 4, .inl (fun _ => 0)), .inl (0, 48, .inl (fun _ => 0)), .inl (0, 48, .inl (fun _ => 0)), .inl (0, 4, .inl (fun _ => 0)), .inl (0, 4, .inl (fun _ => 0)), .inl (0, 4, .inl (fun _ => 0)), .inl (0, 6, .inl (fun _ => 0)), .inl (0, 3, .inl (upd (upd (fun _ => 0) 0 (-1)) 1 (-1)))]) KI KR KA KP) ((n_st hl (i := 8) (j := 1) rfl (by omega) (by omega)).trans rfl) ?_
  refine bS (a := cp (h ++ [.inr (6, [zi 0, zr (some (h.length + 1)), zr (some (h.length + 2)), zr (some (h.length + 3)), zi 0, zr (some (h.length + 4)), zr (some (h.length + 5)), zr (some (h.length + 6)), zi 0, zr (some (h.length + 7)), zr none]), .inl (0, 4, .inl (fun _ => 0)), .inl (0, 48, .inl (fun _ => 0)), .inl (0, 48, .inl (fun _ => 0)), .inl (0, 4, .inl (fun _ => 0)), .inl (0, 4, .inl (fun _ => 0)), .inl (0, 4, .inl (fun _ => 0)), .inl (0, 6, .inl (fun _ => 0)), .inl (0, 3, .inl f8m)]) KI KR KA KP) ((n_st hl (i := 8) (j := 2) rfl (by omega) (by omega)).trans rfl) ?_
  refine bS (a := cp (h ++ [.inr (6, [zi 0, zr (some (h.length + 1)), zr (some (h.length + 2)), zr (some (h.length + 3)), zi 0, zr (some (h.length + 4)), zr (some (h.length + 5)), zr (some (h.length + 6)), zi 0, zr (some (h.length + 7)), zr (some (h.length + 8))]), .inl (0, 4, .inl (fun _ => 0)), .inl (0, 48, .inl (fun _ => 0)), .inl (0, 48, .inl (fun _ => 0)), .inl (0, 4, .inl (fun _ => 0)), .inl (0, 4, .inl (fun _ => 0)), .inl (0, 4, .inl (fun _ => 0)), .inl (0, 6, .inl (fun _ => 0)), .inl (0, 3, .inl f8m)]) KI KR KA KP) ((n_u hl (i := 0) rfl (Nat.le_of_ble_eq_true rfl)).trans rfl) ?_
  rfl
theorem c_rd (hl : 46 ≤ h.length) (hN : 1100 ≤ N) {R : Nat → Int32} (hR : ∀ j, j < 125 → R j = 0) {T : Nat → Nat} {t q : Nat} (wc : tpC KI KA T t) (rb : run isB T t 0 q) : f_X5_read N 1 (cp h KI KR KA KP) = f_X5_read_32 N N 1 (nI 0) (cp (h ++ dR h R (nI 0) f8m) (rK KI (nI q) (KI 13) (KI 14) 0 (-1)) (va_up KR 1 (some (h.length + 0))) KA KP) := by
  have hlD : ∀ {D : List zE}, 46 ≤ (h ++ D).length := by intro D; rw [List.length_append]; omega
  have e0 : cp h KI KR KA KP = cp (h ++ []) (rK KI (KI 12) (KI 13) (KI 14) (KI 15) (KI 16)) KR KA KP := by rw [List.append_nil, rk_id]
  rw [e0]
  unfold f_X5_read
  exact nS hl 0 rfl (bS (c_rinit hl hR) (bS (cu1_1 hlD _) (bS (u2 hlD) (bS (u5 hlD) (bS (u6 hlD) (bS (ck1 hlD) (bS (c_skipB hlD wc hN rb) rfl)))))))
end rbeg
section mbeg
variable {h : zH} {I : Nat → Int32} {A : Nat → Nat → Int32} {N t c : Nat} {T : Nat → Nat} {R hd : Nat → Int32}
theorem m_r30 (hl : 46 ≤ h.length) {J f : Nat → Int32} : ∀ (j b fuel : Nat), b + j = 125 → j < fuel → f_X12_round_30 N fuel 27 (nI b) (mp h J (va_up (va_up A 21 (fillF f 0 b 0)) 22 hd)) = f_X12_round_51 N N 27 0 (mp h J (va_up (va_up A 21 (fillF f 0 125 0)) 22 hd)) := by
  intro j
  induction j with
  | zero =>
    intro b fuel h1 h2
    obtain ⟨fuel, rfl⟩ : ∃ x, fuel = x + 1 := ⟨fuel - 1, by omega⟩
    rw [f_X12_round_30, show b = 125 by omega]
    exact iT (by decide) rfl
  | succ j ih =>
    intro b fuel h1 h2
    obtain ⟨fuel, rfl⟩ : ∃ x, fuel = x + 1 := ⟨fuel - 1, by omega⟩
    rw [f_X12_round_30]
    have e := ff_up f 0 b 0
    rw [Nat.zero_add] at e
    refine iF (nI_ge (b := 125) (by omega) (by omega)) (bS (mg21 hl) (bS (sr hl (by omega)) ?_))
    rw [e, la_r]
    exact ih (b + 1) fuel (by omega) (by omega)
theorem m_r51 (hl : 46 ≤ h.length) {J f : Nat → Int32} : ∀ (j b fuel : Nat), b + j = 3 → j < fuel → f_X12_round_51 N fuel 27 (nI b) (mp h J (va_up (va_up A 21 R) 22 (fillF f 0 b 0))) = (f_X12_next N 27 (mp h J (va_up (va_up A 21 R) 22 (fillF f 0 3 0)))).bind fun h1 => f_X12_round_73 N N 27 h1 := by
  have vb : vp_nar .boolean (0 : Int32) = 0 := by decide
  intro j
  induction j with
  | zero =>
    intro b fuel h1 h2
    obtain ⟨fuel, rfl⟩ : ∃ x, fuel = x + 1 := ⟨fuel - 1, by omega⟩
    rw [f_X12_round_51, show b = 3 by omega]
    exact iT (by decide) (bS (mck hl) rfl)
  | succ j ih =>
    intro b fuel h1 h2
    obtain ⟨fuel, rfl⟩ : ∃ x, fuel = x + 1 := ⟨fuel - 1, by omega⟩
    rw [f_X12_round_51, vb]
    have e := ff_up f 0 b 0
    rw [Nat.zero_add] at e
    refine iF (nI_ge (b := 3) (by omega) (by omega)) (bS (mg22 hl) (bS (sh_ hl (by omega)) ?_))
    rw [e, la_r]
    exact ih (b + 1) fuel (by omega) (by omega)
/-- the model's numbers when a text is to be read -/
def I0 (I : Nat → Int32) (t : Nat) : Nat → Int32 := upd (upd I 5 (nI t)) 3 0
theorem I0_eq (I : Nat → Int32) (t : Nat) : upd (upd (upd (upd (upd I 4 0) 5 (nI t)) 3 0) 9 0) 10 (-1) = mK (I0 I t) 0 (I 6) (I 7) (I 8) 0 (-1) := by
  funext j
  unfold mK I0
  by_cases h1 : j = 10
  · subst h1; rw [up_at]; rfl
  rw [up_ne _ _ h1]
  by_cases h2 : j = 9
  · subst h2; rw [up_at]; rfl
  rw [up_ne _ _ h2]
  by_cases h3 : j = 3
  · subst h3; rw [up_at, if_neg (by decide), if_neg (by decide), if_neg (by decide), if_neg (by decide), if_neg (by decide), if_neg (by decide), up_at]
  rw [up_ne _ _ h3]
  by_cases h5 : j = 5
  · subst h5; rw [up_at, if_neg (by decide), if_neg (by decide), if_neg (by decide), if_neg (by decide), if_neg (by decide), if_neg (by decide), up_ne _ _ (by decide), up_at]
  rw [up_ne _ _ h5]
  by_cases h4 : j = 4
  · subst h4; rw [up_at]; rfl
  rw [up_ne _ _ h4, if_neg h4]
  by_cases h6 : j = 6
  · rw [if_pos h6, h6]
  rw [if_neg h6]
  by_cases h7 : j = 7
  · rw [if_pos h7, h7]
  rw [if_neg h7]
  by_cases h8 : j = 8
  · rw [if_pos h8, h8]
  rw [if_neg h8, if_neg h2, if_neg h1, up_ne _ _ h3, up_ne _ _ h5]
theorem m_rbeg (hN : 1100 ≤ N) (hI : I 3 = nI t) (wm : tpM (I0 I t) A T t) {q : Nat} (rb : run isB T t 0 q) : ∃ a k n, TK T t q a k n ∧ ∀ h : zH, 46 ≤ h.length → f_X12_round N 27 (mp h I A) = f_X12_round_73 N N 27 (mp h (mK (I0 I t) a k (nI q) n 0 (-1)) (va_up (va_up A 21 (fillF (A 21) 0 125 0)) 22 (fillF (A 22) 0 3 0))) := by
  obtain ⟨a, k, n, tk, nx⟩ := m_next (N := N) (k := I 6) (g := I 7) (n := I 8) (b := 0) (p := -1) trivial hN (wm.r (fillF (A 21) 0 125 0) (fillF (A 22) 0 3 0)) rb
  refine ⟨a, k, n, tk, fun h hl => ?_⟩
  refine bS (mu4 hl 0) (bS ((mg3 hl).trans (by rw [up_ne _ _ (by decide), hI])) (bS (mu5 hl _) (bS (mu3 hl 0) (bS (mu9 hl 0) (bS (mu10 hl (-1)) ?_)))))
  have a1 := m_r30 (N := N) (h := h) (A := A) (hd := A 22) (J := mK (I0 I t) 0 (I 6) (I 7) (I 8) 0 (-1)) (f := A 21) hl 125 0 N (by omega) (by omega)
  have a2 := m_r51 (N := N) (h := h) (A := A) (R := fillF (A 21) 0 125 0) (J := mK (I0 I t) 0 (I 6) (I 7) (I 8) 0 (-1)) (f := A 22) hl 3 0 N (by omega) (by omega)
  rw [ff_0] at a2
  rw [ff_0, va_id, va_id] at a1
  rw [I0_eq]
  refine a1.trans (a2.trans ?_)
  exact bS (nx h hl) rfl
def zF (D : Nat → Int32) (b : Nat) : Nat → Int32 := fillF (fillF D 141 b 0) 4765 b 0
theorem zF_up (D : Nat → Int32) {b : Nat} (hb : b < 16) : upd (upd (zF D b) (141 + b) 0) (4765 + b) 0 = zF D (b + 1) := by
  unfold zF
  rw [← ff_up, ← ff_up]
  funext p
  by_cases h1 : p = 4765 + b
  · subst h1; rw [up_at, up_at]
  rw [up_ne _ _ h1, up_ne _ _ h1]
  by_cases h2 : p = 141 + b
  · subst h2; rw [up_at, ff_out _ _ (by omega), up_at]
  · rw [up_ne _ _ h2]
    by_cases h3 : 4765 ≤ p ∧ p < 4765 + b
    · rw [ff_in _ _ h3, ff_in _ _ h3]
    · rw [ff_out _ _ h3, ff_out _ _ h3, up_ne _ _ h2]
theorem m_r194 (hl : 46 ≤ h.length) (hN : 100 ≤ N) {J D : Nat → Int32} {B : Nat → Nat → Int32} (w : wfR (zF D 16)) : ∀ (j b fuel : Nat), b + j = 16 → j < fuel → f_X12_round_194 N fuel 27 (nI b) (mp h J (va_up B 0 (zF D b))) = some (nI (tE (zF D 16)), mp h J (va_up B 0 (zF D 16))) := by
  intro j
  induction j with
  | zero =>
    intro b fuel h1 h2
    obtain ⟨fuel, rfl⟩ : ∃ x, fuel = x + 1 := ⟨fuel - 1, by omega⟩
    rw [f_X12_round_194, show b = 16 by omega]
    have mo := m_of1 (N := N) (h := h) (I := J) (A := va_up B 0 (zF D 16)) hl (by omega) (by rw [vu_at]; exact w)
    rw [vu_at] at mo
    exact iT (by decide) (bS (mck hl) (bS mo rfl))
  | succ j ih =>
    intro b fuel h1 h2
    obtain ⟨fuel, rfl⟩ : ∃ x, fuel = x + 1 := ⟨fuel - 1, by omega⟩
    rw [f_X12_round_194]
    refine iF (nI_ge (b := 16) (by omega) (by omega)) (bS (mg0 hl) ?_)
    rw [la_l, ms0 hl (by omega), Option.bind_some, bx_uu, vu_at]
    refine bS (mg0 hl) ?_
    rw [la_l, ms0 hl (by omega), Option.bind_some, bx_uu, vu_at, zF_up _ (by omega), la_r]
    exact ih (b + 1) fuel (by omega) (by omega)
theorem m_r168 (hl : 46 ≤ h.length) {J D R1 : Nat → Int32} {B : Nat → Nat → Int32} (hB : B 21 = R1) : ∀ (j b fuel : Nat), b + j = 125 → j < fuel → f_X12_round_168 N fuel 27 (nI b) (mp h J (va_up B 0 (catF D 0 b R1))) = f_X12_round_194 N N 27 0 (mp h J (va_up B 0 (catF D 0 125 R1))) := by
  intro j
  induction j with
  | zero =>
    intro b fuel h1 h2
    obtain ⟨fuel, rfl⟩ : ∃ x, fuel = x + 1 := ⟨fuel - 1, by omega⟩
    rw [f_X12_round_168, show b = 125 by omega]
    exact iT (by decide) rfl
  | succ j ih =>
    intro b fuel h1 h2
    obtain ⟨fuel, rfl⟩ : ∃ x, fuel = x + 1 := ⟨fuel - 1, by omega⟩
    rw [f_X12_round_168]
    have e := cf_up D 0 b R1
    rw [Nat.zero_add] at e
    refine iF (nI_ge (b := 125) (by omega) (by omega)) (bS (mg0 hl) (bS (mg21 hl) (bS (a := R1 b) ((ml21 hl (by omega)).trans (by rw [vu_ne _ _ (by decide), hB])) ?_)))
    rw [ms0 hl (by omega), Option.bind_some, bx_uu, vu_at, e, la_r]
    exact ih (b + 1) fuel (by omega) (by omega)
/-- the end of round() when the text is a round -/
theorem m_rend (hl : 46 ≤ h.length) (hN : 21000 ≤ N) (hc : c ≤ 4) {a k g n : Int32} (hI : I 1 = nI c) (w : wfR (zF (catF (kpD (A 0) c) 0 125 (upd R 0 1)) 16)) : f_X12_round_130 N 27 (mp h (mK I a k g n 0 (-1)) (va_up (va_up A 21 R) 22 hd)) = some (nI (tE (zF (catF (kpD (A 0) c) 0 125 (upd R 0 1)) 16)), mp h (upd (upd (upd (mK I a k g n 0 (-1)) 11 0) 12 (-1)) 1 (nI (kpC c))) (va_up (va_up (va_up A 21 (upd R 0 1)) 22 hd) 0 (zF (catF (kpD (A 0) c) 0 125 (upd R 0 1)) 16))) := by
  refine bS (x9 hl) (bS (mu11 hl 0) (bS ((mg10 hl).trans (congrArg some (up_ne _ _ (by decide)))) (bS (mu12 hl _) (bS (a := 0) ((mg9 hl).trans (by rw [up_ne _ _ (by decide), up_ne _ _ (by decide)]; rfl)) (iT rfl (bS (mck hl) ?_))))))
  have mk := m_keeps (N := N) (h := h) (I := upd (upd (mK I a k g n 0 (-1)) 11 0) 12 (mK I a k g n 0 (-1) 10)) (A := va_up (va_up A 21 R) 22 hd) hl hN hc (by rw [up_ne _ _ (by decide), up_ne _ _ (by decide), mk_o (by omega), hI])
  rw [show va_up (va_up A 21 R) 22 hd 0 = A 0 by rw [vu_ne _ _ (by decide), vu_ne _ _ (by decide)]] at mk
  refine bS mk (bS (mg21 hl) ?_)
  have e1 : va_up (va_up (va_up A 21 R) 22 hd) 0 (kpD (A 0) c) = va_up (va_up (va_up A 0 (kpD (A 0) c)) 21 R) 22 hd := by
    funext p
    by_cases p0 : p = 0
    · subst p0; rw [vu_at, vu_ne _ _ (by decide), vu_ne _ _ (by decide), vu_at]
    rw [vu_ne _ _ p0]
    by_cases p2 : p = 22
    · subst p2; rw [vu_at, vu_at]
    rw [vu_ne _ _ p2, vu_ne _ _ p2]
    by_cases p1 : p = 21
    · subst p1; rw [vu_at, vu_at]
    · rw [vu_ne _ _ p1, vu_ne _ _ p1, vu_ne _ _ p0]
  have e2 : va_up (va_up (va_up A 0 (kpD (A 0) c)) 21 (upd R 0 1)) 22 hd = va_up (va_up (va_up A 21 (upd R 0 1)) 22 hd) 0 (kpD (A 0) c) := by
    funext p
    by_cases p0 : p = 0
    · subst p0; rw [vu_at, vu_ne _ _ (by decide), vu_ne _ _ (by decide), vu_at]
    rw [vu_ne _ _ p0]
    by_cases p2 : p = 22
    · subst p2; rw [vu_at, vu_at]
    rw [vu_ne _ _ p2, vu_ne _ _ p2]
    by_cases p1 : p = 21
    · subst p1; rw [vu_at, vu_at]
    · rw [vu_ne _ _ p1, vu_ne _ _ p1, vu_ne _ _ p0]
  rw [e1]
  refine bS (sr (j := 0) hl (by omega)) ?_
  rw [e2]
  have a1 := m_r168 (N := N) (h := h) (J := upd (upd (upd (mK I a k g n 0 (-1)) 11 0) 12 (mK I a k g n 0 (-1) 10)) 1 (nI (kpC c))) (D := kpD (A 0) c) (R1 := upd R 0 1) (B := va_up (va_up A 21 (upd R 0 1)) 22 hd) hl (by rw [vu_ne _ _ (by decide), vu_at]) 125 0 N (by omega) (by omega)
  rw [cf_0] at a1
  refine a1.trans ?_
  have a2 := m_r194 (N := N) (h := h) (J := upd (upd (upd (mK I a k g n 0 (-1)) 11 0) 12 (mK I a k g n 0 (-1) 10)) 1 (nI (kpC c))) (D := catF (kpD (A 0) c) 0 125 (upd R 0 1)) (B := va_up (va_up A 21 (upd R 0 1)) 22 hd) hl (by omega) w 16 0 N (by omega) (by omega)
  have e3 : zF (catF (kpD (A 0) c) 0 125 (upd R 0 1)) 0 = catF (kpD (A 0) c) 0 125 (upd R 0 1) := by unfold zF; rw [ff_0, ff_0]
  rw [e3] at a2
  exact a2
end mbeg
