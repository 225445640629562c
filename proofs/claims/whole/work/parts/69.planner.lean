/-! ===== layout: the class's planner ===== -/
def plC (h : zH) (P A t : Nat) (nb cb pl st sc : Nat → Int32) : List zE := [.inr (3, [zr (some (h.length + 1)), zr (some (h.length + 2)), zr (some (h.length + 3)), zi (nI A), zr (some (h.length + 4)), zr (some (h.length + 5)), zi (nI t)]), .inl (0, 16, .inl nb), .inl (0, 16, .inl cb), .inl (0, 16, .inl pl), .inl (0, P, .inl st), .inl (0, P, .inl sc)]
/-- seats hold what W says -/
def sv (st nb : Nat → Int32) (i P : Nat) (W : Nat → Nat) : Prop := (∀ k, k < i → st (W k) = nb k) ∧ ∀ p, p < P → fre i p W → st p = -1
theorem x1_16 : ∀ p : Nat, p < 16 → nI p ^^^ 1 = nI (p + 1 - 2 * (p % 2)) := by
  intro p hp
  rcases (show p = 0 ∨ p = 1 ∨ p = 2 ∨ p = 3 ∨ p = 4 ∨ p = 5 ∨ p = 6 ∨ p = 7 ∨ p = 8 ∨ p = 9 ∨ p = 10 ∨ p = 11 ∨ p = 12 ∨ p = 13 ∨ p = 14 ∨ p = 15 by omega) with rfl | rfl | rfl | rfl | rfl | rfl | rfl | rfl | rfl | rfl | rfl | rfl | rfl | rfl | rfl | rfl <;> rfl
section plan
variable {h : zH} {KI : Nat → Int32} {KR : Nat → Option Nat} {KA : Nat → Nat → Int32} {KP : Nat → Option Nat} {N P A t i p : Nat} {nb cb pl st sc : Nat → Int32} {W : Nat → Nat}
theorem cOn_in (hl : 46 ≤ h.length) (hP : P ≤ 16) {q : Nat} (hq : q < P) : f_X3_clubOn N (h.length + 0) (nI q) (cp (h ++ plC h P A t nb cb pl st sc) KI KR KA KP) = some (sc q) :=
  iF (nI_pos (by omega)) (bS (n_R hl (i := 0) rfl rfl) (bS (n_ln hl (i := 5) rfl (by omega)) (iF (nI_ge hq (by omega)) (bS (n_R hl (i := 0) rfl rfl) (bS (n_ld hl (i := 5) rfl hq (by omega)) rfl)))))
theorem cOn_out (hl : 46 ≤ h.length) (hP : P ≤ 16) {x : Int32} (hx : x < 0 ∨ nI P ≤ x) : f_X3_clubOn N (h.length + 0) x (cp (h ++ plC h P A t nb cb pl st sc) KI KR KA KP) = some (-1) := by
  unfold f_X3_clubOn
  by_cases h1 : x < 0
  · exact iT h1 rfl
  · exact iF h1 (bS (n_R hl (i := 0) rfl rfl) (bS (n_ln hl (i := 5) rfl (by omega)) (iT (hx.resolve_left h1) rfl)))
/-- the club of i sits on q -/
def hitQ (cb : Nat → Int32) (i : Nat) (W : Nat → Nat) (q : Nat) : Prop := ∃ k, k < i ∧ W k = q ∧ cb k = cb i
theorem sc_hit (hs : sv sc cb i P W) (hc : cb i ≠ -1) {q : Nat} (hq : q < P) : sc q = cb i ↔ hitQ cb i W q := by
  constructor
  · intro z
    apply Classical.byContradiction
    intro n
    by_cases hf : fre i q W
    · rw [hs.2 q hq hf] at z
      exact hc z.symm
    · apply hf
      intro k hk hw
      apply n
      refine ⟨k, hk, hw, ?_⟩
      rw [← hs.1 k hk, hw, z]
  · rintro ⟨k, hk, rfl, h2⟩
    rw [hs.1 k hk, h2]
theorem g_parted (hl : 46 ≤ h.length) (hP : P ≤ 16) (he : P % 2 = 0) (hs : sv sc cb i P W) (hc : cb i ≠ -1) (hp : p < P) (hf : fre i p W) (hW : ∀ k, k < i → W k < P) : ∃ v, f_X3_isParted N (h.length + 0) (cb i) (nI p) (cp (h ++ plC h P A t nb cb pl st sc) KI KR KA KP) = some v ∧ (v = 0 ↔ ¬ prt cb i p W) := by
  have ck : zck (cp (h ++ plC h P A t nb cb pl st sc) KI KR KA KP) 3 (some (h.length + 0)) = some (h.length + 0) := n_k hl (i := 0) rfl
  have v1 : ∃ v, f_X3_clubOn N (h.length + 0) (nI p ^^^ 1) (cp (h ++ plC h P A t nb cb pl st sc) KI KR KA KP) = some v ∧ (v = cb i ↔ hitQ cb i W (p + 1 - 2 * (p % 2))) := by
    rw [x1_16 p (by omega)]
    exact ⟨_, cOn_in hl hP (by omega), sc_hit hs hc (by omega)⟩
  have v2 : ∃ v, f_X3_clubOn N (h.length + 0) (nI p - 2) (cp (h ++ plC h P A t nb cb pl st sc) KI KR KA KP) = some v ∧ (v = cb i ↔ 2 ≤ p ∧ hitQ cb i W (p - 2)) := by
    by_cases h2 : 2 ≤ p
    · have e : nI p - 2 = nI (p - 2) := pk_sub (b := 2) h2
      rw [e]
      refine ⟨_, cOn_in hl hP (by omega), ?_⟩
      rw [sc_hit hs hc (by omega)]
      exact ⟨fun z => ⟨h2, z⟩, fun z => z.2⟩
    · exact ⟨-1, cOn_out hl hP (Or.inl (pk_sneg (b := 2) (by omega) (by omega))), ⟨fun z => absurd z.symm hc, fun z => absurd z.1 h2⟩⟩
  have v3 : ∃ v, f_X3_clubOn N (h.length + 0) (nI p + 2) (cp (h ++ plC h P A t nb cb pl st sc) KI KR KA KP) = some v ∧ (v = cb i ↔ p + 2 < P ∧ hitQ cb i W (p + 2)) := by
    rw [la_r]
    by_cases h2 : p + 2 < P
    · refine ⟨_, cOn_in hl hP h2, ?_⟩
      rw [sc_hit hs hc (by omega)]
      exact ⟨fun z => ⟨h2, z⟩, fun z => z.2⟩
    · exact ⟨-1, cOn_out hl hP (Or.inr (nI_le (by omega) (by omega))), ⟨fun z => absurd z.symm hc, fun z => absurd z.1 h2⟩⟩
  obtain ⟨a1, b1, c1⟩ := v1
  obtain ⟨a2, b2, c2⟩ := v2
  obtain ⟨a3, b3, c3⟩ := v3
  have no : ∀ q, hitQ cb i W q → adj q p → ¬ prt cb i p W := fun q ⟨k, k1, k2, k3⟩ ha z => z k k1 k3 (by rw [k2]; exact ha)
  by_cases d1 : a1 = cb i
  · refine ⟨0, bS ck (bS b1 (iT d1 rfl)), fun _ => no _ (c1.mp d1) ?_, fun _ => rfl⟩
    unfold adj; omega
  by_cases d2 : a2 = cb i
  · refine ⟨0, bS ck (bS b1 (iF d1 (bS ck (bS b2 (iT d2 rfl))))), fun _ => no _ (c2.mp d2).2 ?_, fun _ => rfl⟩
    have := (c2.mp d2).1
    unfold adj; omega
  by_cases d3 : a3 = cb i
  · refine ⟨0, bS ck (bS b1 (iF d1 (bS ck (bS b2 (iF d2 (bS ck (bS b3 (iT d3 rfl)))))))), fun _ => no _ (c3.mp d3).2 ?_, fun _ => rfl⟩
    unfold adj; omega
  · refine ⟨1, bS ck (bS b1 (iF d1 (bS ck (bS b2 (iF d2 (bS ck (bS b3 (iF d3 rfl)))))))), fun z => absurd z (by decide), fun z => absurd ?_ z⟩
    intro k hk hck ha
    have hwp := hf k hk
    have hwP := hW k hk
    unfold adj at ha
    rcases (show W k = p + 1 - 2 * (p % 2) ∨ (2 ≤ p ∧ W k = p - 2) ∨ W k = p + 2 by omega) with e | ⟨e0, e⟩ | e
    · exact d1 (c1.mpr ⟨k, hk, e, hck⟩)
    · exact d2 (c2.mpr ⟨e0, k, hk, e, hck⟩)
    · exact d3 (c3.mpr ⟨by omega, k, hk, e, hck⟩)
/-! nextPlace, a step -/
theorem np_end (hl : 46 ≤ h.length) (hP : P ≤ 16) {f : Nat} {c : Int32} : f_X3_nextPlace_2 N (f + 1) (h.length + 0) c (nI P) (cp (h ++ plC h P A t nb cb pl st sc) KI KR KA KP) = some (nI P, cp (h ++ plC h P A t nb cb pl st sc) KI KR KA KP) := by
  rw [f_X3_nextPlace_2]
  exact bS (n_R hl (i := 0) rfl rfl) (bS (n_ln hl (i := 4) rfl (by omega)) (iT (Int32.le_refl _) (bS (n_R hl (i := 0) rfl rfl) (bS (n_ln hl (i := 4) rfl (by omega)) rfl))))
theorem np_skip (hl : 46 ≤ h.length) (hP : P ≤ 16) {f : Nat} {c : Int32} (hp : p < P) (hs : st p ≠ -1) : f_X3_nextPlace_2 N (f + 1) (h.length + 0) c (nI p) (cp (h ++ plC h P A t nb cb pl st sc) KI KR KA KP) = f_X3_nextPlace_2 N f (h.length + 0) c (nI (p + 1)) (cp (h ++ plC h P A t nb cb pl st sc) KI KR KA KP) := by
  rw [f_X3_nextPlace_2]
  exact bS (n_R hl (i := 0) rfl rfl) (bS (n_ln hl (i := 4) rfl (by omega)) (iF (nI_ge hp (by omega)) (bS (n_R hl (i := 0) rfl rfl) (bS (n_ld hl (i := 4) rfl hp (by omega)) (iF hs (by rw [la_r]))))))
theorem np_try (hl : 46 ≤ h.length) (hP : P ≤ 16) {f : Nat} {c : Int32} (hp : p < P) (hs : st p = -1) : f_X3_nextPlace_2 N (f + 1) (h.length + 0) c (nI p) (cp (h ++ plC h P A t nb cb pl st sc) KI KR KA KP) = if (20000 : Int32) < nI (t + 1) then some (nI p, cp (h ++ plC h P A (t + 1) nb cb pl st sc) KI KR KA KP) else (f_X3_isParted N (h.length + 0) c (nI p) (cp (h ++ plC h P A (t + 1) nb cb pl st sc) KI KR KA KP)).bind fun x9 => if x9 = 0 then f_X3_nextPlace_2 N f (h.length + 0) c (nI p + 1) (cp (h ++ plC h P A (t + 1) nb cb pl st sc) KI KR KA KP) else some (nI p, cp (h ++ plC h P A (t + 1) nb cb pl st sc) KI KR KA KP) := by
  rw [f_X3_nextPlace_2]
  refine bS (n_R hl (i := 0) rfl rfl) (bS (n_ln hl (i := 4) rfl (by omega)) (iF (nI_ge hp (by omega)) (bS (n_R hl (i := 0) rfl rfl) (bS (n_ld hl (i := 4) rfl hp (by omega)) (iT hs (bS (n_I hl (i := 0) rfl rfl) ?_))))))
  rw [nI_1]
  refine bS (n_u hl (i := 0) rfl (Nat.le_of_ble_eq_true rfl)) (bS (n_I hl (i := 0) rfl rfl) ?_)
  by_cases h1 : (20000 : Int32) < nI (t + 1)
  · refine iT h1 ?_
    rw [if_pos h1]
    rfl
  · refine iF h1 (bS (n_k hl (i := 0) rfl) ?_)
    rw [if_neg h1]
    rfl
theorem g_putP (hl : 46 ≤ h.length) (hP : P ≤ 16) (hi : i < 16) (hp : p < P) : f_X3_put N (h.length + 0) (nI i) (nI p) (cp (h ++ plC h P A t nb cb pl st sc) KI KR KA KP) = some (cp (h ++ plC h P A t nb cb (upd pl i (nI p)) (upd st p (nb i)) (upd sc p (cb i))) KI KR KA KP) :=
  bS (n_R hl (i := 0) rfl rfl) (bS (n_st hl (i := 3) rfl hi (by omega)) (bS (n_R hl (i := 0) rfl rfl) (bS (n_R hl (i := 0) rfl rfl) (bS (n_ld hl (i := 1) rfl hi (by omega)) (bS (n_st hl (i := 4) rfl hp (by omega)) (bS (n_R hl (i := 0) rfl rfl) (bS (n_R hl (i := 0) rfl rfl) (bS (n_ld hl (i := 2) rfl hi (by omega)) (bS (n_st hl (i := 5) rfl hp (by omega)) rfl)))))))))
theorem g_lift (hl : 46 ≤ h.length) (hP : P ≤ 16) (hp : p < P) : f_X3_lift N (h.length + 0) (nI p) (cp (h ++ plC h P A t nb cb pl st sc) KI KR KA KP) = some (cp (h ++ plC h P A t nb cb pl (upd st p (-1)) (upd sc p (-1))) KI KR KA KP) :=
  bS (n_R hl (i := 0) rfl rfl) (bS (n_st hl (i := 4) rfl hp (by omega)) (bS (n_R hl (i := 0) rfl rfl) (bS (n_st hl (i := 5) rfl hp (by omega)) rfl)))
/-- what search() does with a place -/
def sCont (N f L : Nat) (l1 l3 : Int32) (x4 : Int32) (h1 : zH) : Option (Int32 × zH) := (zgI h1 3 (some L) 6).bind fun x5 => if x5 ≤ (20000 : Int32) then (zgR h1 3 (some L) 4).bind fun x6 => (zlen h1 x6).bind fun x7 => if x7 ≤ x4 then if l1 = 0 then some (((-1) : Int32), h1) else (zgR h1 3 (some L) 2).bind fun x8 => (zld h1 0 x8 (l1 + ((-1) : Int32))).bind fun x9 => (zgR h1 3 (some L) 2).bind fun x10 => (zld h1 0 x10 (l1 + ((-1) : Int32))).bind fun x11 => (zck h1 3 (some L)).bind fun q2 => (f_X3_lift N q2 x11 h1).bind fun h2 => f_X3_search_6 N f L (l1 + ((-1) : Int32)) (x9 + (1 : Int32)) (l3 + (1 : Int32)) h2 else (zck h1 3 (some L)).bind fun q3 => (f_X3_put N q3 l1 x4 h1).bind fun h3 => f_X3_search_6 N f L (l1 + (1 : Int32)) (0 : Int32) (l3 + (1 : Int32)) h3 else some (((-2) : Int32), h1)
theorem s6_go (hl : 46 ≤ h.length) (hA : A ≤ 16) {f s : Nat} {x : Int32} (hi : i < A) (hs : s < 1000000) : f_X3_search_6 N (f + 1) (h.length + 0) (nI i) x (nI s) (cp (h ++ plC h P A t nb cb pl st sc) KI KR KA KP) = zb2 (f_X3_nextPlace_2 N N (h.length + 0) (cb i) x (cp (h ++ plC h P A t nb cb pl st sc) KI KR KA KP)) (sCont N f (h.length + 0) (nI i) (nI s)) := by
  rw [f_X3_search_6]
  exact iF (nI_ge (b := 1000000) hs (by omega)) (bS (n_I hl (i := 0) rfl rfl) (iF (nI_ge hi (by omega)) (bS (n_R hl (i := 0) rfl rfl) (bS (n_ld hl (i := 2) rfl (by omega) (by omega)) (bS (n_k hl (i := 0) rfl) rfl)))))
theorem s6_end (hl : 46 ≤ h.length) (hA : A ≤ 16) {f s : Nat} {x : Int32} (hs : s < 1000000) : f_X3_search_6 N (f + 1) (h.length + 0) (nI A) x (nI s) (cp (h ++ plC h P A t nb cb pl st sc) KI KR KA KP) = some (nI A, cp (h ++ plC h P A t nb cb pl st sc) KI KR KA KP) := by
  rw [f_X3_search_6]
  refine iF (nI_ge (b := 1000000) hs (by omega)) (bS (n_I hl (i := 0) rfl rfl) (iT (Int32.le_refl _) ?_))
  exact bS (n_I hl (i := 0) rfl rfl) (iT (Int32.le_refl _) (bS (n_I hl (i := 0) rfl rfl) rfl))
end plan
