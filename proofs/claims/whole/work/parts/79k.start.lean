/-! ===== the start: both made, and related ===== -/
def Iz : Nat → Int32 := fun j => if j = 12 then -1 else 0
def Az : Nat → Nat → Int32 := fun _ => z0
def KIz : Nat → Int32 := fun j => if j = 16 then -1 else 0
def KRz : Nat → Option Nat := fun j => if j = 0 then some 19 else some 4
def KPz : Nat → Option Nat := fun _ => none
theorem mhz : MH mH0 Iz Az := by
  intro k e hk
  unfold mC at hk
  split at hk <;> first | (cases hk; rfl) | cases hk
theorem chz : CH mH0 KIz KRz Az KPz := by
  intro k e hk
  unfold cC at hk
  split at hk <;> first | (cases hk; rfl) | cases hk
def iD (b : Nat) : Nat → Int32 := fillF (fillF z0 125 b (-1)) 6881 b (-1)
theorem iD_up {b : Nat} (hb : b < 16) : upd (upd (iD b) (125 + b) (-1)) (6881 + b) (-1) = iD (b + 1) := by
  unfold iD
  rw [← ff_up, ← ff_up]
  funext p
  by_cases h1 : p = 6881 + b
  · subst h1; rw [up_at, up_at]
  rw [up_ne _ _ h1, up_ne _ _ h1]
  by_cases h2 : p = 125 + b
  · subst h2; rw [up_at, ff_out _ _ (by omega), up_at]
  · rw [up_ne _ _ h2]
    by_cases h3 : 6881 ≤ p ∧ p < 6881 + b
    · rw [ff_in _ _ h3, ff_in _ _ h3]
    · rw [ff_out _ _ h3, ff_out _ _ h3, up_ne _ _ h2]
theorem m_i352 {h : zH} {I : Nat → Int32} {A : Nat → Nat → Int32} {N : Nat} (hl : 46 ≤ h.length) : ∀ (j b fuel : Nat), b + j = 16 → j < fuel → f_X12_init_352 N fuel 27 (nI b) (mp h I (va_up A 0 (iD b))) = some (mp h I (va_up A 0 (iD 16))) := by
  intro j
  induction j with
  | zero =>
    intro b fuel h1 h2
    obtain ⟨fuel, rfl⟩ : ∃ x, fuel = x + 1 := ⟨fuel - 1, by omega⟩
    rw [f_X12_init_352, show b = 16 by omega]
    exact iT (by decide) rfl
  | succ j ih =>
    intro b fuel h1 h2
    obtain ⟨fuel, rfl⟩ : ∃ x, fuel = x + 1 := ⟨fuel - 1, by omega⟩
    rw [f_X12_init_352]
    refine iF (nI_ge (b := 16) (by omega) (by omega)) (bS (mg0 hl) ?_)
    rw [la_l, ms0 hl (by omega), Option.bind_some, bx_uu, vu_at]
    refine bS (mg0 hl) ?_
    rw [la_l, ms0 hl (by omega), Option.bind_some, bx_uu, vu_at, iD_up (by omega), la_r]
    exact ih (b + 1) fuel (by omega) (by omega)
theorem hl0 : 46 ≤ mH0.length := Nat.le_of_ble_eq_true rfl
theorem m_made {N : Nat} (hN : 100 ≤ N) : f_X12_init_352 N N 27 0 mH1 = some (mp mH0 Iz (va_up Az 0 (iD 16))) := by
  rw [mH_eq]
  have h1 := m_i352 (N := N) (h := mH0) (I := Iz) (A := Az) hl0 16 0 N (by omega) (by omega)
  have e0 : iD 0 = Az 0 := by unfold iD; rw [ff_0, ff_0]; rfl
  rw [e0, va_id, mhz.eq] at h1
  exact h1
theorem iD_o {j : Nat} (h1 : ¬ (125 ≤ j ∧ j < 141)) (h2 : ¬ (6881 ≤ j ∧ j < 6897)) : seg (iD 16) 0 j = 0 := by
  by_cases h6 : j < 6898
  · rw [seg_lo _ h6]
    unfold iD
    rw [ff_out _ _ (by omega), ff_out _ _ (by omega)]
    rfl
  · unfold seg
    rw [if_neg h6]
theorem in_start : INX (mp mH0 Iz (va_up Az 0 (iD 16))) := by
  have kk : kept mH0 (mp mH0 Iz (va_up Az 0 (iD 16))) := kept.mp
  have sr0 : SR mH0 19 (seg (iD 16) 0) := by
    have e7 : seg (iD 16) 0 6897 = 0 := iD_o (by omega) (by omega)
    refine ⟨none, 20, 21, 23, fun _ => none, ⟨Or.inr (by omega), by rw [e7]; rfl⟩, ⟨Or.inr (by omega), rfl⟩, iD_o (by omega) (by omega), fun a ha => ?_, ⟨22, 0, z0, ⟨Or.inr (by omega), rfl⟩, ⟨Or.inr (by omega), rfl⟩, iD_o (by omega) (by omega), by omega, fun k hk => by omega⟩, ⟨24, 25, 26, 0, z0, z0, z0, ⟨Or.inr (by omega), rfl⟩, ⟨Or.inr (by omega), rfl⟩, ⟨Or.inr (by omega), rfl⟩, ⟨Or.inr (by omega), rfl⟩, iD_o (by omega) (by omega), by omega, fun k hk => by omega, fun p hp => by omega, fun a ha => Or.inl ?_, fun a ha p hp => by omega⟩, 0, e7, by omega⟩
    · show seg (iD 16) 0 (125 + a) = -1
      rw [seg_lo _ (by omega)]
      unfold iD
      rw [ff_out _ _ (by omega), ff_in _ _ (by omega)]
    · rw [seg_lo _ (by omega)]
      unfold iD
      rw [ff_in _ _ (by omega)]
  exact ⟨KIz, KRz, Az, KPz, Iz, va_up Az 0 (iD 16), 0, 19, by rw [mp_len]; exact hl0, chz.mp, MH.of hl0, rfl, rfl, by omega, rfl, by rw [vu_at]; exact sr0.mono kk, fun i hi => by omega, ⟨0, rfl, rfl, by omega, fun j hj => by omega⟩, ⟨rfl, rfl⟩, ⟨0, rfl, rfl, by omega, fun k hk => by omega⟩⟩
