/-! ===== round: the draft ===== -/
def vw (R : Nat → Int32) (a m : Nat) : Nat → Int32 := fun k => if k < m then R (a + k) else 0
def vw3 (R : Nat → Int32) (a : Nat) : Nat → Int32 := fun l => if l < 4 then R (a + 3 * l) else 0
theorem vw_out {R : Nat → Int32} {a m j : Nat} {v : Int32} (h : j < a ∨ a + m ≤ j) : vw (upd R j v) a m = vw R a m := by
  funext k
  unfold vw
  by_cases hk : k < m
  · rw [if_pos hk, if_pos hk, up_ne _ _ (by omega)]
  · rw [if_neg hk, if_neg hk]
theorem vw_in {R : Nat → Int32} {a m k : Nat} {v : Int32} (h : k < m) : vw (upd R (a + k) v) a m = upd (vw R a m) k v := by
  funext j
  by_cases hj : j = k
  · subst hj
    rw [up_at]
    unfold vw
    rw [if_pos h, up_at]
  · rw [up_ne _ _ hj]
    unfold vw
    by_cases hk : j < m
    · rw [if_pos hk, if_pos hk, up_ne _ _ (by omega)]
    · rw [if_neg hk, if_neg hk]
theorem vw3_out {R : Nat → Int32} {a j : Nat} {v : Int32} (h : ∀ l, l < 4 → j ≠ a + 3 * l) : vw3 (upd R j v) a = vw3 R a := by
  funext k
  unfold vw3
  by_cases hk : k < 4
  · rw [if_pos hk, if_pos hk, up_ne _ _ (fun z => h k hk z.symm)]
  · rw [if_neg hk, if_neg hk]
theorem vw3_in {R : Nat → Int32} {a k : Nat} {v : Int32} (h : k < 4) : vw3 (upd R (a + 3 * k) v) a = upd (vw3 R a) k v := by
  funext j
  by_cases hj : j = k
  · subst hj
    rw [up_at]
    unfold vw3
    rw [if_pos h, up_at]
  · rw [up_ne _ _ hj]
    unfold vw3
    by_cases hk : j < 4
    · rw [if_pos hk, if_pos hk, up_ne _ _ (by omega)]
    · rw [if_neg hk, if_neg hk]
def dC (h : zH) (fc L ts : Int32) (f1 f2 f3 f4 f5 f6 f7 f8 : Nat → Int32) : List zE := [.inr (6, [zi fc, zr (some (h.length + 1)), zr (some (h.length + 2)), zr (some (h.length + 3)), zi L, zr (some (h.length + 4)), zr (some (h.length + 5)), zr (some (h.length + 6)), zi ts, zr (some (h.length + 7)), zr (some (h.length + 8))]), .inl (0, 4, .inl f1), .inl (0, 48, .inl f2), .inl (0, 48, .inl f3), .inl (0, 4, .inl f4), .inl (0, 4, .inl f5), .inl (0, 4, .inl f6), .inl (0, 6, .inl f7), .inl (0, 3, .inl f8)]
def dR (h : zH) (R : Nat → Int32) (fc : Int32) (f8 : Nat → Int32) : List zE := dC h fc (R 1) (R 115) (vw R 15 4) (vw R 19 48) (vw R 67 48) (vw3 R 2) (vw3 R 3) (vw3 R 4) (vw R 116 6) f8
def lnF (R : Nat → Int32) (c ln : Nat) (x y : Int32) : Nat → Int32 := upd (upd (upd R (19 + (c * 12 + ln)) x) (67 + (c * 12 + ln)) y) (15 + c) (nI (ln + 1))
def lgF (R : Nat → Int32) (L : Nat) (e w f : Int32) : Nat → Int32 := upd (upd (upd (upd R (2 + 3 * L) e) (3 + 3 * L) w) (4 + 3 * L) f) 1 (nI (L + 1))
def tiF (R : Nat → Int32) (ts : Nat) (x : Int32) : Nat → Int32 := upd (upd R (116 + ts) x) 115 (nI (ts + 1))
section draft
variable {h : zH} {K : Nat → Int32} {KR : Nat → Option Nat} {KA : Nat → Nat → Int32} {KP : Nat → Option Nat} {N c L ts i : Nat} {R f8 : Nat → Int32} {fc x y z : Int32}
theorem c_addFace1 (hl : 46 ≤ h.length) (hc : c < 4) : f_X6_addFace N (h.length + 0) (cp (h ++ dR h R (nI c) f8) K KR KA KP) = some (1, cp (h ++ dR h R (nI (c + 1)) f8) K KR KA KP) := by
  refine bS (n_I hl (i := 0) rfl rfl) (iT (nI_lt (b := 4) hc (by omega)) (bS (n_I hl (i := 0) rfl rfl) ?_))
  rw [la_r]
  exact bS (n_u hl (i := 0) rfl (Nat.le_of_ble_eq_true rfl)) rfl
theorem c_addFace0 (hl : 46 ≤ h.length) : f_X6_addFace N (h.length + 0) (cp (h ++ dR h R (nI 4) f8) K KR KA KP) = some (0, cp (h ++ dR h R (nI 4) f8) K KR KA KP) :=
  bS (n_I hl (i := 0) rfl rfl) (iF (by decide) rfl)
theorem c_addLine (hl : 46 ≤ h.length) {ln : Nat} (hc : c < 4) (hln : R (15 + c) = nI ln) (h12 : ln < 12) : f_X6_addLine N (h.length + 0) x y (cp (h ++ dR h R (nI (c + 1)) f8) K KR KA KP) = some (cp (h ++ dR h (lnF R c ln x y) (nI (c + 1)) f8) K KR KA KP) := by
  have e1 : vw R 15 4 c = nI ln := by unfold vw; rw [if_pos hc, hln]
  have e2 : dR h (lnF R c ln x y) (nI (c + 1)) f8 = dC h (nI (c + 1)) (R 1) (R 115) (upd (vw R 15 4) c (nI (ln + 1))) (upd (vw R 19 48) (c * 12 + ln) x) (upd (vw R 67 48) (c * 12 + ln) y) (vw3 R 2) (vw3 R 3) (vw3 R 4) (vw R 116 6) f8 := by
    unfold dR lnF
    rw [up_ne _ _ (show 1 ≠ 15 + c by omega), up_ne _ _ (by omega), up_ne _ _ (by omega), up_ne _ _ (show 115 ≠ 15 + c by omega), up_ne _ _ (by omega), up_ne _ _ (by omega), vw_in hc, vw_out (by omega), vw_out (by omega), vw_out (by omega), vw_out (by omega), vw_in (by omega), vw_out (by omega), vw_in (by omega), vw_out (by omega), vw3_out (fun l hl => by omega), vw3_out (fun l hl => by omega), vw3_out (fun l hl => by omega), vw3_out (fun l hl => by omega), vw3_out (fun l hl => by omega), vw3_out (fun l hl => by omega), vw3_out (fun l hl => by omega), vw3_out (fun l hl => by omega), vw3_out (fun l hl => by omega), vw_out (by omega), vw_out (by omega), vw_out (by omega)]
  rw [e2]
  unfold f_X6_addLine
  refine bS (n_I hl (i := 0) rfl rfl) ?_
  rw [nI_pred]
  refine iF (nI_pos (by omega)) (iF (nI_ge (b := 4) hc (by omega)) (bS (n_R hl (i := 0) rfl rfl) (bS ((n_ld hl (i := 1) rfl hc (by omega)).trans (congrArg some e1)) (iT (nI_lt (b := 12) h12 (by omega)) (bS (n_R hl (i := 0) rfl rfl) (bS ((n_ld hl (i := 1) rfl hc (by omega)).trans (congrArg some e1)) (bS (n_R hl (i := 0) rfl rfl) ?_)))))))
  rw [lm_r, nI_add]
  refine bS (n_st hl (i := 2) rfl (by omega) (by omega)) (bS (n_R hl (i := 0) rfl rfl) (bS (n_st hl (i := 3) rfl (by omega) (by omega)) (bS (n_R hl (i := 0) rfl rfl) (bS ((n_ld hl (i := 1) rfl hc (by omega)).trans (congrArg some e1)) ?_))))
  rw [la_r]
  exact bS (n_st hl (i := 1) rfl hc (by omega)) rfl
theorem c_addLeg1 (hl : 46 ≤ h.length) {f : Nat} (hL : L < 4) (hR : R 1 = nI L) (hf : f < c) (hc : c ≤ 4) : f_X6_addLeg N (h.length + 0) x y (nI f) (cp (h ++ dR h R (nI c) f8) K KR KA KP) = some (1, cp (h ++ dR h (lgF R L x y (nI f)) (nI c) f8) K KR KA KP) := by
  have e2 : dR h (lgF R L x y (nI f)) (nI c) f8 = dC h (nI c) (nI (L + 1)) (R 115) (vw R 15 4) (vw R 19 48) (vw R 67 48) (upd (vw3 R 2) L x) (upd (vw3 R 3) L y) (upd (vw3 R 4) L (nI f)) (vw R 116 6) f8 := by
    unfold dR lgF
    rw [up_at, up_ne _ _ (show 115 ≠ 1 by omega), up_ne _ _ (by omega), up_ne _ _ (by omega), up_ne _ _ (by omega)]
    rw [vw_out (by omega), vw_out (by omega), vw_out (by omega), vw_out (by omega), vw_out (by omega), vw_out (by omega), vw_out (by omega), vw_out (by omega), vw_out (by omega), vw_out (by omega), vw_out (by omega), vw_out (by omega)]
    rw [vw3_out (a := 2) (fun l hl => by omega), vw3_out (a := 2) (fun l hl => by omega), vw3_out (a := 2) (fun l hl => by omega), vw3_in hL]
    rw [vw3_out (a := 3) (fun l hl => by omega), vw3_out (a := 3) (fun l hl => by omega), vw3_in hL, vw3_out (a := 3) (fun l hl => by omega)]
    rw [vw3_out (a := 4) (fun l hl => by omega), vw3_in hL, vw3_out (a := 4) (fun l hl => by omega), vw3_out (a := 4) (fun l hl => by omega)]
    rw [vw_out (by omega), vw_out (by omega), vw_out (by omega), vw_out (by omega)]
  rw [e2]
  unfold f_X6_addLeg
  have e4 : ∀ {f1 f2 f3 f4 f5 f6 f7 f8 : Nat → Int32} {ts : Int32}, zgI (cp (h ++ dC h (nI c) (R 1) ts f1 f2 f3 f4 f5 f6 f7 f8) K KR KA KP) 6 (some (h.length + 0)) 4 = some (nI L) := (n_I hl (i := 0) rfl rfl).trans (congrArg some hR)
  refine bS e4 (iF (nI_ge (b := 4) hL (by omega)) (iF (nI_pos (by omega)) (bS (n_I hl (i := 0) rfl rfl) (iT (nI_lt hf (by omega)) (bS (n_R hl (i := 0) rfl rfl) (bS e4 (bS (n_st hl (i := 4) rfl hL (by omega)) (bS (n_R hl (i := 0) rfl rfl) (bS e4 (bS (n_st hl (i := 5) rfl hL (by omega)) (bS (n_R hl (i := 0) rfl rfl) (bS e4 (bS (n_st hl (i := 6) rfl hL (by omega)) (bS e4 ?_))))))))))))))
  rw [la_r]
  exact bS (n_u hl (i := 0) rfl (Nat.le_of_ble_eq_true rfl)) rfl
theorem c_addLeg0 (hl : 46 ≤ h.length) {f : Nat} (hL : L < 4) (hR : R 1 = nI L) (hf : c ≤ f) (hf2 : f < 2 ^ 31) : f_X6_addLeg N (h.length + 0) x y (nI f) (cp (h ++ dR h R (nI c) f8) K KR KA KP) = some (0, cp (h ++ dR h R (nI c) f8) K KR KA KP) :=
  bS ((n_I hl (i := 0) rfl rfl).trans (congrArg some hR)) (iF (nI_ge (b := 4) hL (by omega)) (iF (nI_pos (by omega)) (bS (n_I hl (i := 0) rfl rfl) (iF (nI_nlt hf (by omega)) rfl))))
/-- may a tie come -/
def cnT (R : Nat → Int32) (ts : Nat) : Prop := ts < 6 ∧ (ts = 0 ∨ R (116 + (ts - 1)) ≠ 22)
theorem c_canTie (hl : 46 ≤ h.length) (hR : R 115 = nI ts) (h6 : ts ≤ 6) : ∃ v, f_X6_canTie N (h.length + 0) (cp (h ++ dR h R fc f8) K KR KA KP) = some v ∧ (v = 0 ↔ ¬ cnT R ts) := by
  have e4 : zgI (cp (h ++ dR h R fc f8) K KR KA KP) 6 (some (h.length + 0)) 8 = some (nI ts) := (n_I hl (i := 0) rfl rfl).trans (congrArg some hR)
  unfold cnT
  by_cases c1 : ts = 6
  · exact ⟨0, bS e4 (iT (by rw [c1]; decide) rfl), fun _ z => by omega, fun _ => rfl⟩
  by_cases c2 : ts = 0
  · exact ⟨1, bS e4 (iF (nI_ge (b := 6) (by omega) (by omega)) (bS e4 (iT (by rw [c2]; rfl) rfl))), fun z => absurd z (by decide), fun z => absurd ⟨by omega, Or.inl c2⟩ z⟩
  have e5 : vw R 116 6 (ts - 1) = R (116 + (ts - 1)) := if_pos (by omega)
  have l7 : ∀ {X}, (if R (116 + (ts - 1)) = (22 : Int32) then some (0 : Int32) else some (1 : Int32)) = X → f_X6_canTie N (h.length + 0) (cp (h ++ dR h R fc f8) K KR KA KP) = X := by
    intro X hX
    refine bS e4 (iF (nI_ge (b := 6) (by omega) (by omega)) (bS e4 (iF (nI_ne0 (by omega) (by omega)) (bS (n_R hl (i := 0) rfl rfl) (bS e4 ?_)))))
    rw [show nI ts - (1 : Int32) = nI (ts - 1) from pk_sub (b := 1) (by omega)]
    exact bS ((n_ld hl (i := 7) rfl (by omega) (by omega)).trans (congrArg some e5)) hX
  by_cases c3 : R (116 + (ts - 1)) = 22
  · exact ⟨0, l7 (if_pos c3), fun _ z => z.2.elim c2 (fun q => q c3), fun _ => rfl⟩
  · exact ⟨1, l7 (if_neg c3), fun z => absurd z (by decide), fun z => absurd ⟨by omega, Or.inr c3⟩ z⟩
theorem c_addTie (hl : 46 ≤ h.length) (hR : R 115 = nI ts) (hc : cnT R ts) : f_X6_addTie N (h.length + 0) x (cp (h ++ dR h R fc f8) K KR KA KP) = some (1, cp (h ++ dR h (tiF R ts x) fc f8) K KR KA KP) := by
  have h6 := hc.1
  obtain ⟨v, v1, v2⟩ := c_canTie (N := N) (K := K) (KR := KR) (KA := KA) (KP := KP) (fc := fc) (f8 := f8) hl hR (by omega)
  have e2 : dR h (tiF R ts x) fc f8 = dC h fc (R 1) (nI (ts + 1)) (vw R 15 4) (vw R 19 48) (vw R 67 48) (vw3 R 2) (vw3 R 3) (vw3 R 4) (upd (vw R 116 6) ts x) f8 := by
    unfold dR tiF
    rw [up_ne _ _ (show 1 ≠ 115 by omega), up_ne _ _ (by omega), up_at, vw_out (by omega), vw_out (by omega), vw_out (by omega), vw_out (by omega), vw_out (by omega), vw_out (by omega), vw3_out (fun l hl => by omega), vw3_out (fun l hl => by omega), vw3_out (fun l hl => by omega), vw3_out (fun l hl => by omega), vw3_out (fun l hl => by omega), vw3_out (fun l hl => by omega), vw_out (by omega), vw_in (by omega)]
  have e4 : ∀ {f1 f2 f3 f4 f5 f6 f7 f8 : Nat → Int32} {fc L : Int32}, zgI (cp (h ++ dC h fc L (R 115) f1 f2 f3 f4 f5 f6 f7 f8) K KR KA KP) 6 (some (h.length + 0)) 8 = some (nI ts) := (n_I hl (i := 0) rfl rfl).trans (congrArg some hR)
  rw [e2]
  refine bS (n_k hl (i := 0) rfl) (bS v1 (iF (fun z => v2.mp z hc) (bS (n_R hl (i := 0) rfl rfl) (bS e4 (bS (n_st hl (i := 7) rfl (by omega) (by omega)) (bS e4 ?_))))))
  rw [la_r]
  exact bS (n_u hl (i := 0) rfl (Nat.le_of_ble_eq_true rfl)) rfl
theorem c_isSet (hl : 46 ≤ h.length) (hi : i < 3) : f_X6_isSet N (h.length + 0) (nI i) (cp (h ++ dR h R fc f8) K KR KA KP) = if f8 i = -1 then some 0 else some 1 :=
  iF (nI_pos (by omega)) (bS (n_R hl (i := 0) rfl rfl) (bS (n_ln hl (i := 8) rfl (by omega)) (iF (nI_ge hi (by omega)) (bS (n_R hl (i := 0) rfl rfl) (bS (n_ld hl (i := 8) rfl hi (by omega)) rfl)))))
theorem c_set (hl : 46 ≤ h.length) (hi : i < 3) : f_X6_set N (h.length + 0) (nI i) x (cp (h ++ dR h R fc f8) K KR KA KP) = some (1, cp (h ++ dR h R fc (upd f8 i x)) K KR KA KP) :=
  iF (nI_pos (by omega)) (bS (n_R hl (i := 0) rfl rfl) (bS (n_ln hl (i := 8) rfl (by omega)) (iT (nI_lt hi (by omega)) (bS (n_R hl (i := 0) rfl rfl) (bS (n_st hl (i := 8) rfl hi (by omega)) rfl)))))
theorem c_dr (hl : 46 ≤ h.length) {D : List zE} (hR : KR 1 = some (h.length + 0)) : zgR (cp (h ++ D) K KR KA KP) 5 (some 1) 1 = some (some (h.length + 0)) := (cg1_1 (by rw [List.length_append]; omega)).trans (congrArg some hR)
theorem c_dk (hl : 46 ≤ h.length) : zck (cp (h ++ dR h R fc f8) K KR KA KP) 6 (some (h.length + 0)) = some (h.length + 0) := n_k hl (i := 0) rfl
end draft
