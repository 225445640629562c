/-! ===== the segments of d ===== -/
def seg (d : Nat → Int32) (i : Nat) : Nat → Int32 := fun j => if j < 6898 then d (i * 6898 + j) else 0
theorem seg_ext {d d' : Nat → Int32} {i i' : Nat} (h : ∀ j, j < 6898 → d (i * 6898 + j) = d' (i' * 6898 + j)) : seg d i = seg d' i' := by
  funext j
  unfold seg
  by_cases hj : j < 6898
  · rw [if_pos hj, if_pos hj, h j hj]
  · rw [if_neg hj, if_neg hj]
theorem seg_lo (d : Nat → Int32) {j : Nat} (hj : j < 6898) : seg d 0 j = d j := by
  unfold seg
  rw [if_pos hj, Nat.zero_mul, Nat.zero_add]
theorem kp_lo (d : Nat → Int32) (c : Nat) {j : Nat} (hj : j < 6898) : kpD d c j = d j := by
  unfold kpD
  split
  · unfold cpD shD
    rw [if_neg (by omega), if_neg (by omega)]
  · unfold cpD
    rw [if_neg (by omega)]
theorem seg_kp0 (d : Nat → Int32) (c : Nat) : seg (kpD d c) 0 = seg d 0 := seg_ext (fun j hj => by rw [Nat.zero_mul, Nat.zero_add, kp_lo d c hj])
theorem seg_kpc (d : Nat → Int32) (c : Nat) : seg (kpD d c) (kpC c) = seg d 0 := seg_ext (fun j hj => by
  unfold kpD kpC
  rw [Nat.zero_mul, Nat.zero_add]
  split
  · unfold cpD
    rw [if_pos (by omega), Nat.add_sub_cancel_left]
    unfold shD
    rw [if_neg (by omega)]
  · unfold cpD
    rw [if_pos (by omega), Nat.add_sub_cancel_left])
theorem seg_kpi (d : Nat → Int32) {c i : Nat} (hc : c ≤ 4) (h1 : 1 ≤ i) (h2 : i < kpC c) : seg (kpD d c) i = seg d (if c = 4 then i + 1 else i) := by
  by_cases h4 : c = 4
  · rw [if_pos h4]
    have h2 : i < 4 := by simpa [kpC, h4] using h2
    refine seg_ext (fun j hj => ?_)
    unfold kpD
    rw [if_pos h4]
    unfold cpD
    rw [if_neg (by omega)]
    unfold shD
    rw [if_pos (by omega), show i * 6898 + j + 6898 = (i + 1) * 6898 + j by omega]
  · rw [if_neg h4]
    have h2 : i < c + 1 := by simpa [kpC, h4] using h2
    refine seg_ext (fun j hj => ?_)
    unfold kpD
    rw [if_neg h4]
    unfold cpD
    have h3 : (i + 1) * 6898 ≤ (c + 1) * 6898 := Nat.mul_le_mul_right 6898 h2
    rw [if_neg (by omega)]
theorem seg_up0 (d : Nat → Int32) {k : Nat} (hk : k < 6898) (x : Int32) : seg (upd d k x) 0 = upd (seg d 0) k x := by
  funext j
  by_cases hj : j = k
  · subst hj
    rw [seg_lo _ hk, up_at, up_at]
  · rw [up_ne _ _ hj]
    unfold seg
    by_cases h6 : j < 6898
    · rw [if_pos h6, if_pos h6, Nat.zero_mul, Nat.zero_add, up_ne _ _ hj]
    · rw [if_neg h6, if_neg h6]
theorem seg_upi (d : Nat → Int32) {k i : Nat} (hk : k < 6898) (hi : 1 ≤ i) (x : Int32) : seg (upd d k x) i = seg d i := seg_ext (fun j hj => up_ne _ _ (by omega))
theorem seg_bk0 (d : Nat → Int32) (c : Nat) : seg (bkD d c 6898) 0 = seg d c := seg_ext (fun j hj => by
  unfold bkD
  rw [Nat.zero_mul, Nat.zero_add, if_pos hj])
theorem seg_bki (d : Nat → Int32) {c i : Nat} (hi : 1 ≤ i) : seg (bkD d c 6898) i = seg d i := seg_ext (fun j hj => by
  unfold bkD
  rw [if_neg (by omega)])
