/-! ===== the model in the heap: object at 27, rows at 28 .. 45 ===== -/
def mFs (I : Nat → Int32) : List zV := [zr (some 28), zi (I 1), zr (some 29), zi (I 3), zi (I 4), zi (I 5), zi (I 6), zi (I 7), zi (I 8), zi (I 9), zi (I 10), zi (I 11), zi (I 12), zr (some 30), zr (some 31), zr (some 32), zr (some 33), zr (some 34), zr (some 35), zr (some 36), zr (some 37), zr (some 38), zr (some 39), zi (I 23), zr (some 40), zr (some 41), zr (some 42), zr (some 43), zi (I 28), zr (some 44), zr (some 45)]
def mWd (l : List Int32) : Nat → Int32 := fun j => l.getD j 0
def mW13 : List Int32 := [102, 97, 99, 101]
def mW14 : List Int32 := [108, 101, 103]
def mW15 : List Int32 := [109, 111, 115, 116]
def mW16 : List Int32 := [108, 97, 115, 116]
def mW17 : List Int32 := [110, 101, 97, 114, 101, 115, 116]
def mW18 : List Int32 := [98, 111, 117, 110, 99, 101, 100]
def mW19 : List Int32 := [112, 97, 115, 115, 101, 100]
def mW20 : List Int32 := [115, 104, 97, 102, 116]
def mC (I : Nat → Int32) (A : Nat → Nat → Int32) (k : Nat) : Option zE := match k with
  | 27 => some (.inr (12, mFs I))
  | 28 => some (.inl (0, 34490, .inl (A 0)))
  | 29 => some (.inl (0, 1000, .inl (A 2)))
  | 38 => some (.inl (0, 125, .inl (A 21)))
  | 39 => some (.inl (3, 3, .inl (A 22)))
  | 40 => some (.inl (0, 6, .inl (A 24)))
  | 41 => some (.inl (0, 6, .inl (A 25)))
  | 42 => some (.inl (0, 6, .inl (A 26)))
  | 43 => some (.inl (0, 6, .inl (A 27)))
  | 44 => some (.inl (0, 16, .inl (A 29)))
  | 45 => some (.inl (0, 16, .inl (A 30)))
  | 30 => some (.inl (2, 4, .inl (mWd mW13)))
  | 31 => some (.inl (2, 3, .inl (mWd mW14)))
  | 32 => some (.inl (2, 4, .inl (mWd mW15)))
  | 33 => some (.inl (2, 4, .inl (mWd mW16)))
  | 34 => some (.inl (2, 7, .inl (mWd mW17)))
  | 35 => some (.inl (2, 7, .inl (mWd mW18)))
  | 36 => some (.inl (2, 6, .inl (mWd mW19)))
  | 37 => some (.inl (2, 5, .inl (mWd mW20)))
  | _ => none
def mp (h : zH) (I : Nat → Int32) (A : Nat → Nat → Int32) : zH := h.mapIdx (fun k e => (mC I A k).getD e)
theorem mp_len (h : zH) (I : Nat → Int32) (A : Nat → Nat → Int32) : (mp h I A).length = h.length := by simp [mp]
theorem mp_get {h : zH} {I : Nat → Int32} {A : Nat → Nat → Int32} (hl : 46 ≤ h.length) {k : Nat} {e : zE} (hk : mC I A k = some e) (hk2 : k < 46) : (mp h I A)[k]? = some e := by
  rw [mp, List.getElem?_mapIdx, List.getElem?_eq_getElem (by omega)]
  simp [hk]
theorem mp_out {h : zH} {I : Nat → Int32} {A : Nat → Nat → Int32} {k : Nat} (hk : mC I A k = none) : (mp h I A)[k]? = h[k]? := by
  rw [mp, List.getElem?_mapIdx]
  cases h[k]? <;> simp [hk]
theorem mC_none {I : Nat → Int32} {A : Nat → Nat → Int32} {k : Nat} (hk : k < 27 ∨ 46 ≤ k) : mC I A k = none := by
  unfold mC
  split <;> first | rfl | omega
theorem mp_set {h : zH} {I I' : Nat → Int32} {A A' : Nat → Nat → Int32} {k : Nat} {e : zE} (h1 : ∀ j, j ≠ k → mC I' A' j = mC I A j) (h2 : mC I' A' k = some e) : (mp h I A).set k e = mp h I' A' := by
  apply List.ext_getElem?
  intro i
  rw [List.getElem?_set]
  by_cases hi : k = i
  · subst hi
    rw [if_pos rfl]
    by_cases hl : k < (mp h I A).length
    · rw [if_pos hl, mp, List.getElem?_mapIdx, List.getElem?_eq_getElem (by simpa [mp] using hl)]
      simp [h2]
    · rw [if_neg hl, mp, List.getElem?_mapIdx, List.getElem?_eq_none (by simpa [mp] using hl)]
      rfl
  · rw [if_neg hi, mp, mp, List.getElem?_mapIdx, List.getElem?_mapIdx, h1 i (fun q => hi q.symm)]
theorem mp_setI {h : zH} {I : Nat → Int32} {A : Nat → Nat → Int32} (f : Nat) (v : Int32) : (mp h I A).set 27 (.inr (12, mFs (upd I f v))) = mp h (upd I f v) A :=
  mp_set (fun j hj => by unfold mC; split <;> first | rfl | exact absurd rfl hj) rfl
section mrows
variable {h : zH} {I : Nat → Int32} {A : Nat → Nat → Int32}
theorem mzo (hl : 46 ≤ h.length) : zo (mp h I A) 12 (some 27) = some (27, mFs I) := by
  unfold zo
  simp only [mp_get (I := I) (A := A) hl (k := 27) (e := .inr (12, mFs I)) rfl (by omega), if_true]
theorem mck (hl : 46 ≤ h.length) : zck (mp h I A) 12 (some 27) = some 27 := by
  simp only [zck, mzo hl, Option.map_some]
theorem mg1 (hl : 46 ≤ h.length) : zgI (mp h I A) 12 (some 27) 1 = some (I 1) := by simp only [zgI, mzo hl, Option.bind_some]; rfl
theorem mu1 (hl : 46 ≤ h.length) (v : Int32) : zpu (mp h I A) 12 (some 27) 1 (zi v) = some (mp h (upd I 1 v) A) := by
  simp only [zpu, mzo hl, Option.bind_some]
  rw [if_pos (show 1 < (mFs I).length from Nat.le_of_ble_eq_true rfl), ← mp_setI 1 v]
  rfl
theorem mg3 (hl : 46 ≤ h.length) : zgI (mp h I A) 12 (some 27) 3 = some (I 3) := by simp only [zgI, mzo hl, Option.bind_some]; rfl
theorem mu3 (hl : 46 ≤ h.length) (v : Int32) : zpu (mp h I A) 12 (some 27) 3 (zi v) = some (mp h (upd I 3 v) A) := by
  simp only [zpu, mzo hl, Option.bind_some]
  rw [if_pos (show 3 < (mFs I).length from Nat.le_of_ble_eq_true rfl), ← mp_setI 3 v]
  rfl
theorem mg4 (hl : 46 ≤ h.length) : zgI (mp h I A) 12 (some 27) 4 = some (I 4) := by simp only [zgI, mzo hl, Option.bind_some]; rfl
theorem mu4 (hl : 46 ≤ h.length) (v : Int32) : zpu (mp h I A) 12 (some 27) 4 (zi v) = some (mp h (upd I 4 v) A) := by
  simp only [zpu, mzo hl, Option.bind_some]
  rw [if_pos (show 4 < (mFs I).length from Nat.le_of_ble_eq_true rfl), ← mp_setI 4 v]
  rfl
theorem mg5 (hl : 46 ≤ h.length) : zgI (mp h I A) 12 (some 27) 5 = some (I 5) := by simp only [zgI, mzo hl, Option.bind_some]; rfl
theorem mu5 (hl : 46 ≤ h.length) (v : Int32) : zpu (mp h I A) 12 (some 27) 5 (zi v) = some (mp h (upd I 5 v) A) := by
  simp only [zpu, mzo hl, Option.bind_some]
  rw [if_pos (show 5 < (mFs I).length from Nat.le_of_ble_eq_true rfl), ← mp_setI 5 v]
  rfl
theorem mg6 (hl : 46 ≤ h.length) : zgI (mp h I A) 12 (some 27) 6 = some (I 6) := by simp only [zgI, mzo hl, Option.bind_some]; rfl
theorem mu6 (hl : 46 ≤ h.length) (v : Int32) : zpu (mp h I A) 12 (some 27) 6 (zi v) = some (mp h (upd I 6 v) A) := by
  simp only [zpu, mzo hl, Option.bind_some]
  rw [if_pos (show 6 < (mFs I).length from Nat.le_of_ble_eq_true rfl), ← mp_setI 6 v]
  rfl
theorem mg7 (hl : 46 ≤ h.length) : zgI (mp h I A) 12 (some 27) 7 = some (I 7) := by simp only [zgI, mzo hl, Option.bind_some]; rfl
theorem mu7 (hl : 46 ≤ h.length) (v : Int32) : zpu (mp h I A) 12 (some 27) 7 (zi v) = some (mp h (upd I 7 v) A) := by
  simp only [zpu, mzo hl, Option.bind_some]
  rw [if_pos (show 7 < (mFs I).length from Nat.le_of_ble_eq_true rfl), ← mp_setI 7 v]
  rfl
theorem mg8 (hl : 46 ≤ h.length) : zgI (mp h I A) 12 (some 27) 8 = some (I 8) := by simp only [zgI, mzo hl, Option.bind_some]; rfl
theorem mu8 (hl : 46 ≤ h.length) (v : Int32) : zpu (mp h I A) 12 (some 27) 8 (zi v) = some (mp h (upd I 8 v) A) := by
  simp only [zpu, mzo hl, Option.bind_some]
  rw [if_pos (show 8 < (mFs I).length from Nat.le_of_ble_eq_true rfl), ← mp_setI 8 v]
  rfl
theorem mg9 (hl : 46 ≤ h.length) : zgI (mp h I A) 12 (some 27) 9 = some (I 9) := by simp only [zgI, mzo hl, Option.bind_some]; rfl
theorem mu9 (hl : 46 ≤ h.length) (v : Int32) : zpu (mp h I A) 12 (some 27) 9 (zi v) = some (mp h (upd I 9 v) A) := by
  simp only [zpu, mzo hl, Option.bind_some]
  rw [if_pos (show 9 < (mFs I).length from Nat.le_of_ble_eq_true rfl), ← mp_setI 9 v]
  rfl
theorem mg10 (hl : 46 ≤ h.length) : zgI (mp h I A) 12 (some 27) 10 = some (I 10) := by simp only [zgI, mzo hl, Option.bind_some]; rfl
theorem mu10 (hl : 46 ≤ h.length) (v : Int32) : zpu (mp h I A) 12 (some 27) 10 (zi v) = some (mp h (upd I 10 v) A) := by
  simp only [zpu, mzo hl, Option.bind_some]
  rw [if_pos (show 10 < (mFs I).length from Nat.le_of_ble_eq_true rfl), ← mp_setI 10 v]
  rfl
theorem mg11 (hl : 46 ≤ h.length) : zgI (mp h I A) 12 (some 27) 11 = some (I 11) := by simp only [zgI, mzo hl, Option.bind_some]; rfl
theorem mu11 (hl : 46 ≤ h.length) (v : Int32) : zpu (mp h I A) 12 (some 27) 11 (zi v) = some (mp h (upd I 11 v) A) := by
  simp only [zpu, mzo hl, Option.bind_some]
  rw [if_pos (show 11 < (mFs I).length from Nat.le_of_ble_eq_true rfl), ← mp_setI 11 v]
  rfl
theorem mg12 (hl : 46 ≤ h.length) : zgI (mp h I A) 12 (some 27) 12 = some (I 12) := by simp only [zgI, mzo hl, Option.bind_some]; rfl
theorem mu12 (hl : 46 ≤ h.length) (v : Int32) : zpu (mp h I A) 12 (some 27) 12 (zi v) = some (mp h (upd I 12 v) A) := by
  simp only [zpu, mzo hl, Option.bind_some]
  rw [if_pos (show 12 < (mFs I).length from Nat.le_of_ble_eq_true rfl), ← mp_setI 12 v]
  rfl
theorem mg23 (hl : 46 ≤ h.length) : zgI (mp h I A) 12 (some 27) 23 = some (I 23) := by simp only [zgI, mzo hl, Option.bind_some]; rfl
theorem mu23 (hl : 46 ≤ h.length) (v : Int32) : zpu (mp h I A) 12 (some 27) 23 (zi v) = some (mp h (upd I 23 v) A) := by
  simp only [zpu, mzo hl, Option.bind_some]
  rw [if_pos (show 23 < (mFs I).length from Nat.le_of_ble_eq_true rfl), ← mp_setI 23 v]
  rfl
theorem mg28 (hl : 46 ≤ h.length) : zgI (mp h I A) 12 (some 27) 28 = some (I 28) := by simp only [zgI, mzo hl, Option.bind_some]; rfl
theorem mu28 (hl : 46 ≤ h.length) (v : Int32) : zpu (mp h I A) 12 (some 27) 28 (zi v) = some (mp h (upd I 28 v) A) := by
  simp only [zpu, mzo hl, Option.bind_some]
  rw [if_pos (show 28 < (mFs I).length from Nat.le_of_ble_eq_true rfl), ← mp_setI 28 v]
  rfl
theorem mg0 (hl : 46 ≤ h.length) : zgR (mp h I A) 12 (some 27) 0 = some (some 28) := by simp only [zgR, mzo hl, Option.bind_some]; rfl
theorem mg2 (hl : 46 ≤ h.length) : zgR (mp h I A) 12 (some 27) 2 = some (some 29) := by simp only [zgR, mzo hl, Option.bind_some]; rfl
theorem mg21 (hl : 46 ≤ h.length) : zgR (mp h I A) 12 (some 27) 21 = some (some 38) := by simp only [zgR, mzo hl, Option.bind_some]; rfl
theorem mg22 (hl : 46 ≤ h.length) : zgR (mp h I A) 12 (some 27) 22 = some (some 39) := by simp only [zgR, mzo hl, Option.bind_some]; rfl
theorem mg24 (hl : 46 ≤ h.length) : zgR (mp h I A) 12 (some 27) 24 = some (some 40) := by simp only [zgR, mzo hl, Option.bind_some]; rfl
theorem mg25 (hl : 46 ≤ h.length) : zgR (mp h I A) 12 (some 27) 25 = some (some 41) := by simp only [zgR, mzo hl, Option.bind_some]; rfl
theorem mg26 (hl : 46 ≤ h.length) : zgR (mp h I A) 12 (some 27) 26 = some (some 42) := by simp only [zgR, mzo hl, Option.bind_some]; rfl
theorem mg27 (hl : 46 ≤ h.length) : zgR (mp h I A) 12 (some 27) 27 = some (some 43) := by simp only [zgR, mzo hl, Option.bind_some]; rfl
theorem mg29 (hl : 46 ≤ h.length) : zgR (mp h I A) 12 (some 27) 29 = some (some 44) := by simp only [zgR, mzo hl, Option.bind_some]; rfl
theorem mg30 (hl : 46 ≤ h.length) : zgR (mp h I A) 12 (some 27) 30 = some (some 45) := by simp only [zgR, mzo hl, Option.bind_some]; rfl
theorem mg13 (hl : 46 ≤ h.length) : zgR (mp h I A) 12 (some 27) 13 = some (some 30) := by simp only [zgR, mzo hl, Option.bind_some]; rfl
theorem mg14 (hl : 46 ≤ h.length) : zgR (mp h I A) 12 (some 27) 14 = some (some 31) := by simp only [zgR, mzo hl, Option.bind_some]; rfl
theorem mg15 (hl : 46 ≤ h.length) : zgR (mp h I A) 12 (some 27) 15 = some (some 32) := by simp only [zgR, mzo hl, Option.bind_some]; rfl
theorem mg16 (hl : 46 ≤ h.length) : zgR (mp h I A) 12 (some 27) 16 = some (some 33) := by simp only [zgR, mzo hl, Option.bind_some]; rfl
theorem mg17 (hl : 46 ≤ h.length) : zgR (mp h I A) 12 (some 27) 17 = some (some 34) := by simp only [zgR, mzo hl, Option.bind_some]; rfl
theorem mg18 (hl : 46 ≤ h.length) : zgR (mp h I A) 12 (some 27) 18 = some (some 35) := by simp only [zgR, mzo hl, Option.bind_some]; rfl
theorem mg19 (hl : 46 ≤ h.length) : zgR (mp h I A) 12 (some 27) 19 = some (some 36) := by simp only [zgR, mzo hl, Option.bind_some]; rfl
theorem mg20 (hl : 46 ≤ h.length) : zgR (mp h I A) 12 (some 27) 20 = some (some 37) := by simp only [zgR, mzo hl, Option.bind_some]; rfl
theorem ma0 (hl : 46 ≤ h.length) : zaI (mp h I A) 0 (some 28) = some (28, 34490, A 0) := by
  unfold zaI
  simp only [mp_get (I := I) (A := A) hl (k := 28) (e := .inl (0, 34490, .inl (A 0))) rfl (by omega), if_true]
theorem ml0 (hl : 46 ≤ h.length) {j : Nat} (hj : j < 34490) : zld (mp h I A) 0 (some 28) (nI j) = some (A 0 j) := by
  simp only [zld, ma0 hl, Option.bind_some]
  rw [if_neg (nI_in hj (by omega)), nI_clamp (by omega)]
theorem ms0 (hl : 46 ≤ h.length) {j : Nat} (hj : j < 34490) (x : Int32) : zst (mp h I A) 0 (some 28) (nI j) x = some (mp h I (va_up A 0 (upd (A 0) j x))) := by
  simp only [zst, ma0 hl, Option.bind_some]
  rw [if_neg (nI_in hj (by omega)), nI_clamp (by omega)]
  refine congrArg some (mp_set (fun i hi => ?_) rfl)
  unfold mC
  split <;> first | rfl | exact absurd rfl hi
theorem ma2 (hl : 46 ≤ h.length) : zaI (mp h I A) 0 (some 29) = some (29, 1000, A 2) := by
  unfold zaI
  simp only [mp_get (I := I) (A := A) hl (k := 29) (e := .inl (0, 1000, .inl (A 2))) rfl (by omega), if_true]
theorem ml2 (hl : 46 ≤ h.length) {j : Nat} (hj : j < 1000) : zld (mp h I A) 0 (some 29) (nI j) = some (A 2 j) := by
  simp only [zld, ma2 hl, Option.bind_some]
  rw [if_neg (nI_in hj (by omega)), nI_clamp (by omega)]
theorem ms2 (hl : 46 ≤ h.length) {j : Nat} (hj : j < 1000) (x : Int32) : zst (mp h I A) 0 (some 29) (nI j) x = some (mp h I (va_up A 2 (upd (A 2) j x))) := by
  simp only [zst, ma2 hl, Option.bind_some]
  rw [if_neg (nI_in hj (by omega)), nI_clamp (by omega)]
  refine congrArg some (mp_set (fun i hi => ?_) rfl)
  unfold mC
  split <;> first | rfl | exact absurd rfl hi
theorem ma21 (hl : 46 ≤ h.length) : zaI (mp h I A) 0 (some 38) = some (38, 125, A 21) := by
  unfold zaI
  simp only [mp_get (I := I) (A := A) hl (k := 38) (e := .inl (0, 125, .inl (A 21))) rfl (by omega), if_true]
theorem ml21 (hl : 46 ≤ h.length) {j : Nat} (hj : j < 125) : zld (mp h I A) 0 (some 38) (nI j) = some (A 21 j) := by
  simp only [zld, ma21 hl, Option.bind_some]
  rw [if_neg (nI_in hj (by omega)), nI_clamp (by omega)]
theorem ms21 (hl : 46 ≤ h.length) {j : Nat} (hj : j < 125) (x : Int32) : zst (mp h I A) 0 (some 38) (nI j) x = some (mp h I (va_up A 21 (upd (A 21) j x))) := by
  simp only [zst, ma21 hl, Option.bind_some]
  rw [if_neg (nI_in hj (by omega)), nI_clamp (by omega)]
  refine congrArg some (mp_set (fun i hi => ?_) rfl)
  unfold mC
  split <;> first | rfl | exact absurd rfl hi
theorem ma22 (hl : 46 ≤ h.length) : zaI (mp h I A) 3 (some 39) = some (39, 3, A 22) := by
  unfold zaI
  simp only [mp_get (I := I) (A := A) hl (k := 39) (e := .inl (3, 3, .inl (A 22))) rfl (by omega), if_true]
theorem ml22 (hl : 46 ≤ h.length) {j : Nat} (hj : j < 3) : zld (mp h I A) 3 (some 39) (nI j) = some (A 22 j) := by
  simp only [zld, ma22 hl, Option.bind_some]
  rw [if_neg (nI_in hj (by omega)), nI_clamp (by omega)]
theorem ms22 (hl : 46 ≤ h.length) {j : Nat} (hj : j < 3) (x : Int32) : zst (mp h I A) 3 (some 39) (nI j) x = some (mp h I (va_up A 22 (upd (A 22) j x))) := by
  simp only [zst, ma22 hl, Option.bind_some]
  rw [if_neg (nI_in hj (by omega)), nI_clamp (by omega)]
  refine congrArg some (mp_set (fun i hi => ?_) rfl)
  unfold mC
  split <;> first | rfl | exact absurd rfl hi
theorem ma24 (hl : 46 ≤ h.length) : zaI (mp h I A) 0 (some 40) = some (40, 6, A 24) := by
  unfold zaI
  simp only [mp_get (I := I) (A := A) hl (k := 40) (e := .inl (0, 6, .inl (A 24))) rfl (by omega), if_true]
theorem ml24 (hl : 46 ≤ h.length) {j : Nat} (hj : j < 6) : zld (mp h I A) 0 (some 40) (nI j) = some (A 24 j) := by
  simp only [zld, ma24 hl, Option.bind_some]
  rw [if_neg (nI_in hj (by omega)), nI_clamp (by omega)]
theorem ms24 (hl : 46 ≤ h.length) {j : Nat} (hj : j < 6) (x : Int32) : zst (mp h I A) 0 (some 40) (nI j) x = some (mp h I (va_up A 24 (upd (A 24) j x))) := by
  simp only [zst, ma24 hl, Option.bind_some]
  rw [if_neg (nI_in hj (by omega)), nI_clamp (by omega)]
  refine congrArg some (mp_set (fun i hi => ?_) rfl)
  unfold mC
  split <;> first | rfl | exact absurd rfl hi
theorem ma25 (hl : 46 ≤ h.length) : zaI (mp h I A) 0 (some 41) = some (41, 6, A 25) := by
  unfold zaI
  simp only [mp_get (I := I) (A := A) hl (k := 41) (e := .inl (0, 6, .inl (A 25))) rfl (by omega), if_true]
theorem ml25 (hl : 46 ≤ h.length) {j : Nat} (hj : j < 6) : zld (mp h I A) 0 (some 41) (nI j) = some (A 25 j) := by
  simp only [zld, ma25 hl, Option.bind_some]
  rw [if_neg (nI_in hj (by omega)), nI_clamp (by omega)]
theorem ms25 (hl : 46 ≤ h.length) {j : Nat} (hj : j < 6) (x : Int32) : zst (mp h I A) 0 (some 41) (nI j) x = some (mp h I (va_up A 25 (upd (A 25) j x))) := by
  simp only [zst, ma25 hl, Option.bind_some]
  rw [if_neg (nI_in hj (by omega)), nI_clamp (by omega)]
  refine congrArg some (mp_set (fun i hi => ?_) rfl)
  unfold mC
  split <;> first | rfl | exact absurd rfl hi
theorem ma26 (hl : 46 ≤ h.length) : zaI (mp h I A) 0 (some 42) = some (42, 6, A 26) := by
  unfold zaI
  simp only [mp_get (I := I) (A := A) hl (k := 42) (e := .inl (0, 6, .inl (A 26))) rfl (by omega), if_true]
theorem ml26 (hl : 46 ≤ h.length) {j : Nat} (hj : j < 6) : zld (mp h I A) 0 (some 42) (nI j) = some (A 26 j) := by
  simp only [zld, ma26 hl, Option.bind_some]
  rw [if_neg (nI_in hj (by omega)), nI_clamp (by omega)]
theorem ms26 (hl : 46 ≤ h.length) {j : Nat} (hj : j < 6) (x : Int32) : zst (mp h I A) 0 (some 42) (nI j) x = some (mp h I (va_up A 26 (upd (A 26) j x))) := by
  simp only [zst, ma26 hl, Option.bind_some]
  rw [if_neg (nI_in hj (by omega)), nI_clamp (by omega)]
  refine congrArg some (mp_set (fun i hi => ?_) rfl)
  unfold mC
  split <;> first | rfl | exact absurd rfl hi
theorem ma27 (hl : 46 ≤ h.length) : zaI (mp h I A) 0 (some 43) = some (43, 6, A 27) := by
  unfold zaI
  simp only [mp_get (I := I) (A := A) hl (k := 43) (e := .inl (0, 6, .inl (A 27))) rfl (by omega), if_true]
theorem ml27 (hl : 46 ≤ h.length) {j : Nat} (hj : j < 6) : zld (mp h I A) 0 (some 43) (nI j) = some (A 27 j) := by
  simp only [zld, ma27 hl, Option.bind_some]
  rw [if_neg (nI_in hj (by omega)), nI_clamp (by omega)]
theorem ms27 (hl : 46 ≤ h.length) {j : Nat} (hj : j < 6) (x : Int32) : zst (mp h I A) 0 (some 43) (nI j) x = some (mp h I (va_up A 27 (upd (A 27) j x))) := by
  simp only [zst, ma27 hl, Option.bind_some]
  rw [if_neg (nI_in hj (by omega)), nI_clamp (by omega)]
  refine congrArg some (mp_set (fun i hi => ?_) rfl)
  unfold mC
  split <;> first | rfl | exact absurd rfl hi
theorem ma29 (hl : 46 ≤ h.length) : zaI (mp h I A) 0 (some 44) = some (44, 16, A 29) := by
  unfold zaI
  simp only [mp_get (I := I) (A := A) hl (k := 44) (e := .inl (0, 16, .inl (A 29))) rfl (by omega), if_true]
theorem ml29 (hl : 46 ≤ h.length) {j : Nat} (hj : j < 16) : zld (mp h I A) 0 (some 44) (nI j) = some (A 29 j) := by
  simp only [zld, ma29 hl, Option.bind_some]
  rw [if_neg (nI_in hj (by omega)), nI_clamp (by omega)]
theorem ms29 (hl : 46 ≤ h.length) {j : Nat} (hj : j < 16) (x : Int32) : zst (mp h I A) 0 (some 44) (nI j) x = some (mp h I (va_up A 29 (upd (A 29) j x))) := by
  simp only [zst, ma29 hl, Option.bind_some]
  rw [if_neg (nI_in hj (by omega)), nI_clamp (by omega)]
  refine congrArg some (mp_set (fun i hi => ?_) rfl)
  unfold mC
  split <;> first | rfl | exact absurd rfl hi
theorem ma30 (hl : 46 ≤ h.length) : zaI (mp h I A) 0 (some 45) = some (45, 16, A 30) := by
  unfold zaI
  simp only [mp_get (I := I) (A := A) hl (k := 45) (e := .inl (0, 16, .inl (A 30))) rfl (by omega), if_true]
theorem ml30 (hl : 46 ≤ h.length) {j : Nat} (hj : j < 16) : zld (mp h I A) 0 (some 45) (nI j) = some (A 30 j) := by
  simp only [zld, ma30 hl, Option.bind_some]
  rw [if_neg (nI_in hj (by omega)), nI_clamp (by omega)]
theorem ms30 (hl : 46 ≤ h.length) {j : Nat} (hj : j < 16) (x : Int32) : zst (mp h I A) 0 (some 45) (nI j) x = some (mp h I (va_up A 30 (upd (A 30) j x))) := by
  simp only [zst, ma30 hl, Option.bind_some]
  rw [if_neg (nI_in hj (by omega)), nI_clamp (by omega)]
  refine congrArg some (mp_set (fun i hi => ?_) rfl)
  unfold mC
  split <;> first | rfl | exact absurd rfl hi
theorem ma13 (hl : 46 ≤ h.length) : zaI (mp h I A) 2 (some 30) = some (30, 4, mWd mW13) := by
  unfold zaI
  simp only [mp_get (I := I) (A := A) hl (k := 30) (e := .inl (2, 4, .inl (mWd mW13))) rfl (by omega), if_true]
theorem ml13 (hl : 46 ≤ h.length) {j : Nat} (hj : j < 4) : zld (mp h I A) 2 (some 30) (nI j) = some (mWd mW13 j) := by
  simp only [zld, ma13 hl, Option.bind_some]
  rw [if_neg (nI_in hj (by omega)), nI_clamp (by omega)]
theorem mn13 (hl : 46 ≤ h.length) : zlen (mp h I A) (some 30) = some (nI 4) := by
  unfold zlen
  simp only [mp_get (I := I) (A := A) hl (k := 30) (e := .inl (2, 4, .inl (mWd mW13))) rfl (by omega)]
  rfl
theorem ma14 (hl : 46 ≤ h.length) : zaI (mp h I A) 2 (some 31) = some (31, 3, mWd mW14) := by
  unfold zaI
  simp only [mp_get (I := I) (A := A) hl (k := 31) (e := .inl (2, 3, .inl (mWd mW14))) rfl (by omega), if_true]
theorem ml14 (hl : 46 ≤ h.length) {j : Nat} (hj : j < 3) : zld (mp h I A) 2 (some 31) (nI j) = some (mWd mW14 j) := by
  simp only [zld, ma14 hl, Option.bind_some]
  rw [if_neg (nI_in hj (by omega)), nI_clamp (by omega)]
theorem mn14 (hl : 46 ≤ h.length) : zlen (mp h I A) (some 31) = some (nI 3) := by
  unfold zlen
  simp only [mp_get (I := I) (A := A) hl (k := 31) (e := .inl (2, 3, .inl (mWd mW14))) rfl (by omega)]
  rfl
theorem ma15 (hl : 46 ≤ h.length) : zaI (mp h I A) 2 (some 32) = some (32, 4, mWd mW15) := by
  unfold zaI
  simp only [mp_get (I := I) (A := A) hl (k := 32) (e := .inl (2, 4, .inl (mWd mW15))) rfl (by omega), if_true]
theorem ml15 (hl : 46 ≤ h.length) {j : Nat} (hj : j < 4) : zld (mp h I A) 2 (some 32) (nI j) = some (mWd mW15 j) := by
  simp only [zld, ma15 hl, Option.bind_some]
  rw [if_neg (nI_in hj (by omega)), nI_clamp (by omega)]
theorem mn15 (hl : 46 ≤ h.length) : zlen (mp h I A) (some 32) = some (nI 4) := by
  unfold zlen
  simp only [mp_get (I := I) (A := A) hl (k := 32) (e := .inl (2, 4, .inl (mWd mW15))) rfl (by omega)]
  rfl
theorem ma16 (hl : 46 ≤ h.length) : zaI (mp h I A) 2 (some 33) = some (33, 4, mWd mW16) := by
  unfold zaI
  simp only [mp_get (I := I) (A := A) hl (k := 33) (e := .inl (2, 4, .inl (mWd mW16))) rfl (by omega), if_true]
theorem ml16 (hl : 46 ≤ h.length) {j : Nat} (hj : j < 4) : zld (mp h I A) 2 (some 33) (nI j) = some (mWd mW16 j) := by
  simp only [zld, ma16 hl, Option.bind_some]
  rw [if_neg (nI_in hj (by omega)), nI_clamp (by omega)]
theorem mn16 (hl : 46 ≤ h.length) : zlen (mp h I A) (some 33) = some (nI 4) := by
  unfold zlen
  simp only [mp_get (I := I) (A := A) hl (k := 33) (e := .inl (2, 4, .inl (mWd mW16))) rfl (by omega)]
  rfl
theorem ma17 (hl : 46 ≤ h.length) : zaI (mp h I A) 2 (some 34) = some (34, 7, mWd mW17) := by
  unfold zaI
  simp only [mp_get (I := I) (A := A) hl (k := 34) (e := .inl (2, 7, .inl (mWd mW17))) rfl (by omega), if_true]
theorem ml17 (hl : 46 ≤ h.length) {j : Nat} (hj : j < 7) : zld (mp h I A) 2 (some 34) (nI j) = some (mWd mW17 j) := by
  simp only [zld, ma17 hl, Option.bind_some]
  rw [if_neg (nI_in hj (by omega)), nI_clamp (by omega)]
theorem mn17 (hl : 46 ≤ h.length) : zlen (mp h I A) (some 34) = some (nI 7) := by
  unfold zlen
  simp only [mp_get (I := I) (A := A) hl (k := 34) (e := .inl (2, 7, .inl (mWd mW17))) rfl (by omega)]
  rfl
theorem ma18 (hl : 46 ≤ h.length) : zaI (mp h I A) 2 (some 35) = some (35, 7, mWd mW18) := by
  unfold zaI
  simp only [mp_get (I := I) (A := A) hl (k := 35) (e := .inl (2, 7, .inl (mWd mW18))) rfl (by omega), if_true]
theorem ml18 (hl : 46 ≤ h.length) {j : Nat} (hj : j < 7) : zld (mp h I A) 2 (some 35) (nI j) = some (mWd mW18 j) := by
  simp only [zld, ma18 hl, Option.bind_some]
  rw [if_neg (nI_in hj (by omega)), nI_clamp (by omega)]
theorem mn18 (hl : 46 ≤ h.length) : zlen (mp h I A) (some 35) = some (nI 7) := by
  unfold zlen
  simp only [mp_get (I := I) (A := A) hl (k := 35) (e := .inl (2, 7, .inl (mWd mW18))) rfl (by omega)]
  rfl
theorem ma19 (hl : 46 ≤ h.length) : zaI (mp h I A) 2 (some 36) = some (36, 6, mWd mW19) := by
  unfold zaI
  simp only [mp_get (I := I) (A := A) hl (k := 36) (e := .inl (2, 6, .inl (mWd mW19))) rfl (by omega), if_true]
theorem ml19 (hl : 46 ≤ h.length) {j : Nat} (hj : j < 6) : zld (mp h I A) 2 (some 36) (nI j) = some (mWd mW19 j) := by
  simp only [zld, ma19 hl, Option.bind_some]
  rw [if_neg (nI_in hj (by omega)), nI_clamp (by omega)]
theorem mn19 (hl : 46 ≤ h.length) : zlen (mp h I A) (some 36) = some (nI 6) := by
  unfold zlen
  simp only [mp_get (I := I) (A := A) hl (k := 36) (e := .inl (2, 6, .inl (mWd mW19))) rfl (by omega)]
  rfl
theorem ma20 (hl : 46 ≤ h.length) : zaI (mp h I A) 2 (some 37) = some (37, 5, mWd mW20) := by
  unfold zaI
  simp only [mp_get (I := I) (A := A) hl (k := 37) (e := .inl (2, 5, .inl (mWd mW20))) rfl (by omega), if_true]
theorem ml20 (hl : 46 ≤ h.length) {j : Nat} (hj : j < 5) : zld (mp h I A) 2 (some 37) (nI j) = some (mWd mW20 j) := by
  simp only [zld, ma20 hl, Option.bind_some]
  rw [if_neg (nI_in hj (by omega)), nI_clamp (by omega)]
theorem mn20 (hl : 46 ≤ h.length) : zlen (mp h I A) (some 37) = some (nI 5) := by
  unfold zlen
  simp only [mp_get (I := I) (A := A) hl (k := 37) (e := .inl (2, 5, .inl (mWd mW20))) rfl (by omega)]
  rfl
end mrows
theorem nlit (n : Nat) : (OfNat.ofNat n : Int32) = nI n := rfl
