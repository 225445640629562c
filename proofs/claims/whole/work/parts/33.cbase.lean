/-! ===== the class in the heap: what changes lies at 0, 1, 2, 3, 13 .. 18 ===== -/
def cF0 (KI : Nat → Int32) (KR : Nat → Option Nat) : List zV := [zr (some 1), zr (some 2), zr (some 13), zr (some 18), zi (KI 0), zr (KR 0)]
def cF1 (KI : Nat → Int32) (KR : Nat → Option Nat) : List zV := [zr (some 2), zr (KR 1), zi (KI 12), zi (KI 13), zi (KI 14), zi (KI 15), zi (KI 16)]
def cF2 (KI : Nat → Int32) (KR : Nat → Option Nat) : List zV := [zr (some 3), zi (KI 1)]
def cF13 (KI : Nat → Int32) (KR : Nat → Option Nat) : List zV := [zr (some 14), zr (some 15), zr (some 16), zi (KI 2), zr (some 17)]
def cC (KI : Nat → Int32) (KR : Nat → Option Nat) (KA : Nat → Nat → Int32) (KP : Nat → Option Nat) (k : Nat) : Option zE := match k with
  | 0 => some (.inr (11, cF0 KI KR))
  | 1 => some (.inr (5, cF1 KI KR))
  | 2 => some (.inr (10, cF2 KI KR))
  | 13 => some (.inr (4, cF13 KI KR))
  | 3 => some (.inl (1, 1000, .inl (KA 3)))
  | 14 => some (.inl (0, 6, .inl (KA 14)))
  | 15 => some (.inl (0, 6, .inl (KA 15)))
  | 16 => some (.inl (0, 6, .inl (KA 16)))
  | 17 => some (.inl (0, 6, .inl (KA 17)))
  | 18 => some (.inl (5, 4, .inr KP))
  | _ => none
def cp (h : zH) (KI : Nat → Int32) (KR : Nat → Option Nat) (KA : Nat → Nat → Int32) (KP : Nat → Option Nat) : zH := h.mapIdx (fun k e => (cC KI KR KA KP k).getD e)
theorem cp_len (h : zH) (KI : Nat → Int32) (KR : Nat → Option Nat) (KA : Nat → Nat → Int32) (KP : Nat → Option Nat) : (cp h KI KR KA KP).length = h.length := by simp [cp]
theorem cp_get {h : zH} {KI : Nat → Int32} {KR : Nat → Option Nat} {KA : Nat → Nat → Int32} {KP : Nat → Option Nat} (hl : 46 ≤ h.length) {k : Nat} {e : zE} (hk : cC KI KR KA KP k = some e) (hk2 : k < 46) : (cp h KI KR KA KP)[k]? = some e := by
  rw [cp, List.getElem?_mapIdx, List.getElem?_eq_getElem (by omega)]
  simp [hk]
theorem cp_out {h : zH} {KI : Nat → Int32} {KR : Nat → Option Nat} {KA : Nat → Nat → Int32} {KP : Nat → Option Nat} {k : Nat} (hk : cC KI KR KA KP k = none) : (cp h KI KR KA KP)[k]? = h[k]? := by
  rw [cp, List.getElem?_mapIdx]
  cases h[k]? <;> simp [hk]
theorem cC_none {KI : Nat → Int32} {KR : Nat → Option Nat} {KA : Nat → Nat → Int32} {KP : Nat → Option Nat} {k : Nat} (hk : 19 ≤ k ∨ (4 ≤ k ∧ k < 13)) : cC KI KR KA KP k = none := by
  unfold cC
  split <;> first | rfl | omega
theorem cp_hi {h : zH} {KI : Nat → Int32} {KR : Nat → Option Nat} {KA : Nat → Nat → Int32} {KP : Nat → Option Nat} {k : Nat} (hk : 19 ≤ k) : (cp h KI KR KA KP)[k]? = h[k]? := cp_out (cC_none (Or.inl hk))
theorem cp_set {h : zH} {KI : Nat → Int32} {KR : Nat → Option Nat} {KA : Nat → Nat → Int32} {KP : Nat → Option Nat} {KI' : Nat → Int32} {KR' : Nat → Option Nat} {KA' : Nat → Nat → Int32} {KP' : Nat → Option Nat} {k : Nat} {e : zE} (h1 : ∀ j, j ≠ k → cC KI' KR' KA' KP' j = cC KI KR KA KP j) (h2 : cC KI' KR' KA' KP' k = some e) : (cp h KI KR KA KP).set k e = cp h KI' KR' KA' KP' := by
  apply List.ext_getElem?
  intro i
  rw [List.getElem?_set]
  by_cases hi : k = i
  · subst hi
    rw [if_pos rfl]
    by_cases hl : k < (cp h KI KR KA KP).length
    · rw [if_pos hl, cp, List.getElem?_mapIdx, List.getElem?_eq_getElem (by simpa [cp] using hl)]
      simp [h2]
    · rw [if_neg hl, cp, List.getElem?_mapIdx, List.getElem?_eq_none (by simpa [cp] using hl)]
      rfl
  · rw [if_neg hi, cp, cp, List.getElem?_mapIdx, List.getElem?_mapIdx, h1 i (fun q => hi q.symm)]
theorem cp_seto {h : zH} {KI : Nat → Int32} {KR : Nat → Option Nat} {KA : Nat → Nat → Int32} {KP : Nat → Option Nat} {a : Nat} (ha : 19 ≤ a) (e : zE) : (cp h KI KR KA KP).set a e = cp (h.set a e) KI KR KA KP := by
  apply List.ext_getElem?
  intro i
  rw [List.getElem?_set]
  by_cases hi : a = i
  · subst hi
    rw [if_pos rfl, cp_out (cC_none (Or.inl ha)), List.getElem?_set, if_pos rfl, cp_len]
  · rw [if_neg hi]
    by_cases hn : cC KI KR KA KP i = none
    · rw [cp_out hn, cp_out hn, List.getElem?_set_ne hi]
    · obtain ⟨e2, he⟩ := Option.ne_none_iff_exists'.mp hn
      rw [cp, cp, List.getElem?_mapIdx, List.getElem?_mapIdx, List.getElem?_set_ne hi]
theorem cp_app {h : zH} {KI : Nat → Int32} {KR : Nat → Option Nat} {KA : Nat → Nat → Int32} {KP : Nat → Option Nat} (hl : 46 ≤ h.length) (e : zE) : cp h KI KR KA KP ++ [e] = cp (h ++ [e]) KI KR KA KP := by
  rw [cp, cp, List.mapIdx_append]
  simp [cC_none (KI := KI) (KR := KR) (KA := KA) (KP := KP) (k := h.length) (Or.inl (by omega))]
section crows
variable {h : zH} {KI : Nat → Int32} {KR : Nat → Option Nat} {KA : Nat → Nat → Int32} {KP : Nat → Option Nat}
theorem co0 (hl : 46 ≤ h.length) : zo (cp h KI KR KA KP) 11 (some 0) = some (0, cF0 KI KR) := by
  unfold zo
  simp only [cp_get (KI := KI) (KR := KR) (KA := KA) (KP := KP) hl (k := 0) (e := .inr (11, cF0 KI KR)) rfl (by omega), if_true]
theorem ck0 (hl : 46 ≤ h.length) : zck (cp h KI KR KA KP) 11 (some 0) = some 0 := by
  simp only [zck, co0 hl, Option.map_some]
theorem cg0_0 (hl : 46 ≤ h.length) : zgR (cp h KI KR KA KP) 11 (some 0) 0 = some (some 1) := by simp only [zgR, co0 hl, Option.bind_some]; rfl
theorem cg0_1 (hl : 46 ≤ h.length) : zgR (cp h KI KR KA KP) 11 (some 0) 1 = some (some 2) := by simp only [zgR, co0 hl, Option.bind_some]; rfl
theorem cg0_2 (hl : 46 ≤ h.length) : zgR (cp h KI KR KA KP) 11 (some 0) 2 = some (some 13) := by simp only [zgR, co0 hl, Option.bind_some]; rfl
theorem cg0_3 (hl : 46 ≤ h.length) : zgR (cp h KI KR KA KP) 11 (some 0) 3 = some (some 18) := by simp only [zgR, co0 hl, Option.bind_some]; rfl
theorem cg0_4 (hl : 46 ≤ h.length) : zgI (cp h KI KR KA KP) 11 (some 0) 4 = some (KI 0) := by simp only [zgI, co0 hl, Option.bind_some]; rfl
theorem cu0_4 (hl : 46 ≤ h.length) (v : Int32) : zpu (cp h KI KR KA KP) 11 (some 0) 4 (zi v) = some (cp h (upd KI 0 v) KR KA KP) := by
  simp only [zpu, co0 hl, Option.bind_some]
  rw [if_pos (show 4 < (cF0 KI KR).length from Nat.le_of_ble_eq_true rfl)]
  exact congrArg some (cp_set (fun j hj => by unfold cC; split <;> first | rfl | exact absurd rfl hj) rfl)
theorem cg0_5 (hl : 46 ≤ h.length) : zgR (cp h KI KR KA KP) 11 (some 0) 5 = some (KR 0) := by simp only [zgR, co0 hl, Option.bind_some]; rfl
theorem cu0_5 (hl : 46 ≤ h.length) (v : Option Nat) : zpu (cp h KI KR KA KP) 11 (some 0) 5 (zr v) = some (cp h KI (va_up KR 0 v) KA KP) := by
  simp only [zpu, co0 hl, Option.bind_some]
  rw [if_pos (show 5 < (cF0 KI KR).length from Nat.le_of_ble_eq_true rfl)]
  exact congrArg some (cp_set (fun j hj => by unfold cC; split <;> first | rfl | exact absurd rfl hj) rfl)
theorem co1 (hl : 46 ≤ h.length) : zo (cp h KI KR KA KP) 5 (some 1) = some (1, cF1 KI KR) := by
  unfold zo
  simp only [cp_get (KI := KI) (KR := KR) (KA := KA) (KP := KP) hl (k := 1) (e := .inr (5, cF1 KI KR)) rfl (by omega), if_true]
theorem ck1 (hl : 46 ≤ h.length) : zck (cp h KI KR KA KP) 5 (some 1) = some 1 := by
  simp only [zck, co1 hl, Option.map_some]
theorem cg1_0 (hl : 46 ≤ h.length) : zgR (cp h KI KR KA KP) 5 (some 1) 0 = some (some 2) := by simp only [zgR, co1 hl, Option.bind_some]; rfl
theorem cg1_1 (hl : 46 ≤ h.length) : zgR (cp h KI KR KA KP) 5 (some 1) 1 = some (KR 1) := by simp only [zgR, co1 hl, Option.bind_some]; rfl
theorem cu1_1 (hl : 46 ≤ h.length) (v : Option Nat) : zpu (cp h KI KR KA KP) 5 (some 1) 1 (zr v) = some (cp h KI (va_up KR 1 v) KA KP) := by
  simp only [zpu, co1 hl, Option.bind_some]
  rw [if_pos (show 1 < (cF1 KI KR).length from Nat.le_of_ble_eq_true rfl)]
  exact congrArg some (cp_set (fun j hj => by unfold cC; split <;> first | rfl | exact absurd rfl hj) rfl)
theorem cg1_2 (hl : 46 ≤ h.length) : zgI (cp h KI KR KA KP) 5 (some 1) 2 = some (KI 12) := by simp only [zgI, co1 hl, Option.bind_some]; rfl
theorem cu1_2 (hl : 46 ≤ h.length) (v : Int32) : zpu (cp h KI KR KA KP) 5 (some 1) 2 (zi v) = some (cp h (upd KI 12 v) KR KA KP) := by
  simp only [zpu, co1 hl, Option.bind_some]
  rw [if_pos (show 2 < (cF1 KI KR).length from Nat.le_of_ble_eq_true rfl)]
  exact congrArg some (cp_set (fun j hj => by unfold cC; split <;> first | rfl | exact absurd rfl hj) rfl)
theorem cg1_3 (hl : 46 ≤ h.length) : zgI (cp h KI KR KA KP) 5 (some 1) 3 = some (KI 13) := by simp only [zgI, co1 hl, Option.bind_some]; rfl
theorem cu1_3 (hl : 46 ≤ h.length) (v : Int32) : zpu (cp h KI KR KA KP) 5 (some 1) 3 (zi v) = some (cp h (upd KI 13 v) KR KA KP) := by
  simp only [zpu, co1 hl, Option.bind_some]
  rw [if_pos (show 3 < (cF1 KI KR).length from Nat.le_of_ble_eq_true rfl)]
  exact congrArg some (cp_set (fun j hj => by unfold cC; split <;> first | rfl | exact absurd rfl hj) rfl)
theorem cg1_4 (hl : 46 ≤ h.length) : zgI (cp h KI KR KA KP) 5 (some 1) 4 = some (KI 14) := by simp only [zgI, co1 hl, Option.bind_some]; rfl
theorem cu1_4 (hl : 46 ≤ h.length) (v : Int32) : zpu (cp h KI KR KA KP) 5 (some 1) 4 (zi v) = some (cp h (upd KI 14 v) KR KA KP) := by
  simp only [zpu, co1 hl, Option.bind_some]
  rw [if_pos (show 4 < (cF1 KI KR).length from Nat.le_of_ble_eq_true rfl)]
  exact congrArg some (cp_set (fun j hj => by unfold cC; split <;> first | rfl | exact absurd rfl hj) rfl)
theorem cg1_5 (hl : 46 ≤ h.length) : zgI (cp h KI KR KA KP) 5 (some 1) 5 = some (KI 15) := by simp only [zgI, co1 hl, Option.bind_some]; rfl
theorem cu1_5 (hl : 46 ≤ h.length) (v : Int32) : zpu (cp h KI KR KA KP) 5 (some 1) 5 (zi v) = some (cp h (upd KI 15 v) KR KA KP) := by
  simp only [zpu, co1 hl, Option.bind_some]
  rw [if_pos (show 5 < (cF1 KI KR).length from Nat.le_of_ble_eq_true rfl)]
  exact congrArg some (cp_set (fun j hj => by unfold cC; split <;> first | rfl | exact absurd rfl hj) rfl)
theorem cg1_6 (hl : 46 ≤ h.length) : zgI (cp h KI KR KA KP) 5 (some 1) 6 = some (KI 16) := by simp only [zgI, co1 hl, Option.bind_some]; rfl
theorem cu1_6 (hl : 46 ≤ h.length) (v : Int32) : zpu (cp h KI KR KA KP) 5 (some 1) 6 (zi v) = some (cp h (upd KI 16 v) KR KA KP) := by
  simp only [zpu, co1 hl, Option.bind_some]
  rw [if_pos (show 6 < (cF1 KI KR).length from Nat.le_of_ble_eq_true rfl)]
  exact congrArg some (cp_set (fun j hj => by unfold cC; split <;> first | rfl | exact absurd rfl hj) rfl)
theorem co2 (hl : 46 ≤ h.length) : zo (cp h KI KR KA KP) 10 (some 2) = some (2, cF2 KI KR) := by
  unfold zo
  simp only [cp_get (KI := KI) (KR := KR) (KA := KA) (KP := KP) hl (k := 2) (e := .inr (10, cF2 KI KR)) rfl (by omega), if_true]
theorem ck2 (hl : 46 ≤ h.length) : zck (cp h KI KR KA KP) 10 (some 2) = some 2 := by
  simp only [zck, co2 hl, Option.map_some]
theorem cg2_0 (hl : 46 ≤ h.length) : zgR (cp h KI KR KA KP) 10 (some 2) 0 = some (some 3) := by simp only [zgR, co2 hl, Option.bind_some]; rfl
theorem cg2_1 (hl : 46 ≤ h.length) : zgI (cp h KI KR KA KP) 10 (some 2) 1 = some (KI 1) := by simp only [zgI, co2 hl, Option.bind_some]; rfl
theorem cu2_1 (hl : 46 ≤ h.length) (v : Int32) : zpu (cp h KI KR KA KP) 10 (some 2) 1 (zi v) = some (cp h (upd KI 1 v) KR KA KP) := by
  simp only [zpu, co2 hl, Option.bind_some]
  rw [if_pos (show 1 < (cF2 KI KR).length from Nat.le_of_ble_eq_true rfl)]
  exact congrArg some (cp_set (fun j hj => by unfold cC; split <;> first | rfl | exact absurd rfl hj) rfl)
theorem co13 (hl : 46 ≤ h.length) : zo (cp h KI KR KA KP) 4 (some 13) = some (13, cF13 KI KR) := by
  unfold zo
  simp only [cp_get (KI := KI) (KR := KR) (KA := KA) (KP := KP) hl (k := 13) (e := .inr (4, cF13 KI KR)) rfl (by omega), if_true]
theorem ck13 (hl : 46 ≤ h.length) : zck (cp h KI KR KA KP) 4 (some 13) = some 13 := by
  simp only [zck, co13 hl, Option.map_some]
theorem cg13_0 (hl : 46 ≤ h.length) : zgR (cp h KI KR KA KP) 4 (some 13) 0 = some (some 14) := by simp only [zgR, co13 hl, Option.bind_some]; rfl
theorem cg13_1 (hl : 46 ≤ h.length) : zgR (cp h KI KR KA KP) 4 (some 13) 1 = some (some 15) := by simp only [zgR, co13 hl, Option.bind_some]; rfl
theorem cg13_2 (hl : 46 ≤ h.length) : zgR (cp h KI KR KA KP) 4 (some 13) 2 = some (some 16) := by simp only [zgR, co13 hl, Option.bind_some]; rfl
theorem cg13_3 (hl : 46 ≤ h.length) : zgI (cp h KI KR KA KP) 4 (some 13) 3 = some (KI 2) := by simp only [zgI, co13 hl, Option.bind_some]; rfl
theorem cu13_3 (hl : 46 ≤ h.length) (v : Int32) : zpu (cp h KI KR KA KP) 4 (some 13) 3 (zi v) = some (cp h (upd KI 2 v) KR KA KP) := by
  simp only [zpu, co13 hl, Option.bind_some]
  rw [if_pos (show 3 < (cF13 KI KR).length from Nat.le_of_ble_eq_true rfl)]
  exact congrArg some (cp_set (fun j hj => by unfold cC; split <;> first | rfl | exact absurd rfl hj) rfl)
theorem cg13_4 (hl : 46 ≤ h.length) : zgR (cp h KI KR KA KP) 4 (some 13) 4 = some (some 17) := by simp only [zgR, co13 hl, Option.bind_some]; rfl
theorem ca3 (hl : 46 ≤ h.length) : zaI (cp h KI KR KA KP) 1 (some 3) = some (3, 1000, KA 3) := by
  unfold zaI
  simp only [cp_get (KI := KI) (KR := KR) (KA := KA) (KP := KP) hl (k := 3) (e := .inl (1, 1000, .inl (KA 3))) rfl (by omega), if_true]
theorem cl3 (hl : 46 ≤ h.length) {j : Nat} (hj : j < 1000) : zld (cp h KI KR KA KP) 1 (some 3) (nI j) = some (KA 3 j) := by
  simp only [zld, ca3 hl, Option.bind_some]
  rw [if_neg (nI_in hj (by omega)), nI_clamp (by omega)]
theorem cs3 (hl : 46 ≤ h.length) {j : Nat} (hj : j < 1000) (x : Int32) : zst (cp h KI KR KA KP) 1 (some 3) (nI j) x = some (cp h KI KR (va_up KA 3 (upd (KA 3) j x)) KP) := by
  simp only [zst, ca3 hl, Option.bind_some]
  rw [if_neg (nI_in hj (by omega)), nI_clamp (by omega)]
  refine congrArg some (cp_set (fun i hi => ?_) rfl)
  unfold cC
  split <;> first | rfl | exact absurd rfl hi
theorem ca14 (hl : 46 ≤ h.length) : zaI (cp h KI KR KA KP) 0 (some 14) = some (14, 6, KA 14) := by
  unfold zaI
  simp only [cp_get (KI := KI) (KR := KR) (KA := KA) (KP := KP) hl (k := 14) (e := .inl (0, 6, .inl (KA 14))) rfl (by omega), if_true]
theorem cl14 (hl : 46 ≤ h.length) {j : Nat} (hj : j < 6) : zld (cp h KI KR KA KP) 0 (some 14) (nI j) = some (KA 14 j) := by
  simp only [zld, ca14 hl, Option.bind_some]
  rw [if_neg (nI_in hj (by omega)), nI_clamp (by omega)]
theorem cs14 (hl : 46 ≤ h.length) {j : Nat} (hj : j < 6) (x : Int32) : zst (cp h KI KR KA KP) 0 (some 14) (nI j) x = some (cp h KI KR (va_up KA 14 (upd (KA 14) j x)) KP) := by
  simp only [zst, ca14 hl, Option.bind_some]
  rw [if_neg (nI_in hj (by omega)), nI_clamp (by omega)]
  refine congrArg some (cp_set (fun i hi => ?_) rfl)
  unfold cC
  split <;> first | rfl | exact absurd rfl hi
theorem ca15 (hl : 46 ≤ h.length) : zaI (cp h KI KR KA KP) 0 (some 15) = some (15, 6, KA 15) := by
  unfold zaI
  simp only [cp_get (KI := KI) (KR := KR) (KA := KA) (KP := KP) hl (k := 15) (e := .inl (0, 6, .inl (KA 15))) rfl (by omega), if_true]
theorem cl15 (hl : 46 ≤ h.length) {j : Nat} (hj : j < 6) : zld (cp h KI KR KA KP) 0 (some 15) (nI j) = some (KA 15 j) := by
  simp only [zld, ca15 hl, Option.bind_some]
  rw [if_neg (nI_in hj (by omega)), nI_clamp (by omega)]
theorem cs15 (hl : 46 ≤ h.length) {j : Nat} (hj : j < 6) (x : Int32) : zst (cp h KI KR KA KP) 0 (some 15) (nI j) x = some (cp h KI KR (va_up KA 15 (upd (KA 15) j x)) KP) := by
  simp only [zst, ca15 hl, Option.bind_some]
  rw [if_neg (nI_in hj (by omega)), nI_clamp (by omega)]
  refine congrArg some (cp_set (fun i hi => ?_) rfl)
  unfold cC
  split <;> first | rfl | exact absurd rfl hi
theorem ca16 (hl : 46 ≤ h.length) : zaI (cp h KI KR KA KP) 0 (some 16) = some (16, 6, KA 16) := by
  unfold zaI
  simp only [cp_get (KI := KI) (KR := KR) (KA := KA) (KP := KP) hl (k := 16) (e := .inl (0, 6, .inl (KA 16))) rfl (by omega), if_true]
theorem cl16 (hl : 46 ≤ h.length) {j : Nat} (hj : j < 6) : zld (cp h KI KR KA KP) 0 (some 16) (nI j) = some (KA 16 j) := by
  simp only [zld, ca16 hl, Option.bind_some]
  rw [if_neg (nI_in hj (by omega)), nI_clamp (by omega)]
theorem cs16 (hl : 46 ≤ h.length) {j : Nat} (hj : j < 6) (x : Int32) : zst (cp h KI KR KA KP) 0 (some 16) (nI j) x = some (cp h KI KR (va_up KA 16 (upd (KA 16) j x)) KP) := by
  simp only [zst, ca16 hl, Option.bind_some]
  rw [if_neg (nI_in hj (by omega)), nI_clamp (by omega)]
  refine congrArg some (cp_set (fun i hi => ?_) rfl)
  unfold cC
  split <;> first | rfl | exact absurd rfl hi
theorem ca17 (hl : 46 ≤ h.length) : zaI (cp h KI KR KA KP) 0 (some 17) = some (17, 6, KA 17) := by
  unfold zaI
  simp only [cp_get (KI := KI) (KR := KR) (KA := KA) (KP := KP) hl (k := 17) (e := .inl (0, 6, .inl (KA 17))) rfl (by omega), if_true]
theorem cl17 (hl : 46 ≤ h.length) {j : Nat} (hj : j < 6) : zld (cp h KI KR KA KP) 0 (some 17) (nI j) = some (KA 17 j) := by
  simp only [zld, ca17 hl, Option.bind_some]
  rw [if_neg (nI_in hj (by omega)), nI_clamp (by omega)]
theorem cs17 (hl : 46 ≤ h.length) {j : Nat} (hj : j < 6) (x : Int32) : zst (cp h KI KR KA KP) 0 (some 17) (nI j) x = some (cp h KI KR (va_up KA 17 (upd (KA 17) j x)) KP) := by
  simp only [zst, ca17 hl, Option.bind_some]
  rw [if_neg (nI_in hj (by omega)), nI_clamp (by omega)]
  refine congrArg some (cp_set (fun i hi => ?_) rfl)
  unfold cC
  split <;> first | rfl | exact absurd rfl hi
theorem ca18 (hl : 46 ≤ h.length) : zaR (cp h KI KR KA KP) 5 (some 18) = some (18, 4, KP) := by
  unfold zaR
  simp only [cp_get (KI := KI) (KR := KR) (KA := KA) (KP := KP) hl (k := 18) (e := .inl (5, 4, .inr KP)) rfl (by omega), if_true]
theorem cl18 (hl : 46 ≤ h.length) {j : Nat} (hj : j < 4) : zldR (cp h KI KR KA KP) 5 (some 18) (nI j) = some (KP j) := by
  simp only [zldR, ca18 hl, Option.bind_some]
  rw [if_neg (nI_in hj (by omega)), nI_clamp (by omega)]
theorem cs18 (hl : 46 ≤ h.length) {j : Nat} (hj : j < 4) {v : Option Nat} (hv : v = none ∨ ∃ a, zck (cp h KI KR KA KP) 9 v = some a) : zstR (cp h KI KR KA KP) 5 9 (some 18) (nI j) v = some (cp h KI KR KA (va_up KP j v)) := by
  simp only [zstR, ca18 hl, Option.bind_some]
  rw [if_neg (nI_in hj (by omega)), nI_clamp (by omega), if_neg]
  · refine congrArg some (cp_set (fun i hi => ?_) rfl)
    unfold cC
    split <;> first | rfl | exact absurd rfl hi
  · rintro ⟨q1, q2⟩
    rcases hv with hv | ⟨a, hv⟩
    · exact q1 hv
    · rw [hv] at q2; cases q2
end crows
/-! cells that lie as they were made -/
section frows
variable {h : zH} {a ci n t k : Nat} {fs : List zV} {f : Nat → Int32} {fr : Nat → Option Nat}
theorem fo (ha : h[a]? = some (.inr (ci, fs))) : zo h ci (some a) = some (a, fs) := by
  unfold zo
  simp only [ha, if_true]
theorem fk (ha : h[a]? = some (.inr (ci, fs))) : zck h ci (some a) = some a := by simp only [zck, fo ha, Option.map_some]
theorem fgI {x : Int32} (ha : h[a]? = some (.inr (ci, fs))) (hk : fs[k]? = some (zi x)) : zgI h ci (some a) k = some x := by simp only [zgI, fo ha, Option.bind_some, hk]
theorem fgR {x : Option Nat} (ha : h[a]? = some (.inr (ci, fs))) (hk : fs[k]? = some (zr x)) : zgR h ci (some a) k = some x := by simp only [zgR, fo ha, Option.bind_some, hk]
theorem fpu {v : zV} (ha : h[a]? = some (.inr (ci, fs))) (hk : k < fs.length) : zpu h ci (some a) k v = some (h.set a (.inr (ci, fs.set k v))) := by
  simp only [zpu, fo ha, Option.bind_some]
  rw [if_pos hk]
theorem faI (ha : h[a]? = some (.inl (t, n, .inl f))) : zaI h t (some a) = some (a, n, f) := by
  unfold zaI
  simp only [ha, if_true]
theorem faR (ha : h[a]? = some (.inl (t, n, .inr fr))) : zaR h t (some a) = some (a, n, fr) := by
  unfold zaR
  simp only [ha, if_true]
theorem fld_ {j : Nat} (ha : h[a]? = some (.inl (t, n, .inl f))) (hj : j < n) (hn : n < 2 ^ 31) : zld h t (some a) (nI j) = some (f j) := by
  simp only [zld, faI ha, Option.bind_some]
  rw [if_neg (nI_in hj hn), nI_clamp (by omega)]
theorem fst_ {j : Nat} {x : Int32} (ha : h[a]? = some (.inl (t, n, .inl f))) (hj : j < n) (hn : n < 2 ^ 31) : zst h t (some a) (nI j) x = some (h.set a (.inl (t, n, .inl (upd f j x)))) := by
  simp only [zst, faI ha, Option.bind_some]
  rw [if_neg (nI_in hj hn), nI_clamp (by omega)]
theorem fldR {j : Nat} (ha : h[a]? = some (.inl (t, n, .inr fr))) (hj : j < n) (hn : n < 2 ^ 31) : zldR h t (some a) (nI j) = some (fr j) := by
  simp only [zldR, faR ha, Option.bind_some]
  rw [if_neg (nI_in hj hn), nI_clamp (by omega)]
theorem flen {x : (Nat → Int32) ⊕ (Nat → Option Nat)} (ha : h[a]? = some (.inl (t, n, x))) (ht : t < 6) : zlen h (some a) = some (nI n) := by
  unfold zlen
  simp only [ha]
  rw [if_pos ht]
theorem gpush {e : zE} (ha : h[a]? = some e) (x : zE) : (h ++ [x])[a]? = some e := by
  rw [List.getElem?_append_left (List.getElem?_eq_some_iff.mp ha).1]
  exact ha
theorem glast (h : zH) (x : zE) : (h ++ [x])[h.length]? = some x := by simp
theorem gset {e : zE} (ha : h[a]? = some e) (x : zE) : (h.set a x)[a]? = some x := by
  rw [List.getElem?_set_self (List.getElem?_eq_some_iff.mp ha).1]
theorem gne {e : zE} {b : Nat} (ha : h[a]? = some e) (x : zE) (hb : b ≠ a) : (h.set b x)[a]? = some e := by
  rw [List.getElem?_set_ne hb]
  exact ha
end frows
