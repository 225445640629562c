/-! ===== the start: the model ===== -/
def mU13 : Nat → Int32 := upd (upd (upd (upd (z0) 0 102) 1 97) 2 99) 3 101
theorem mU13_eq : mU13 = mWd mW13 := by
  funext j
  unfold mU13 mWd mW13
  by_cases hj : j < 4
  · rcases (show j = 0 ∨ j = 1 ∨ j = 2 ∨ j = 3 by omega) with rfl | rfl | rfl | rfl <;> rfl
  · rw [up_ne _ _ (by omega), up_ne _ _ (by omega), up_ne _ _ (by omega), up_ne _ _ (by omega)]
    have : ([102, 97, 99, 101] : List Int32)[j]? = none := List.getElem?_eq_none (by simp; omega)
    rw [List.getD_eq_getElem?_getD, this]; rfl
def mU14 : Nat → Int32 := upd (upd (upd (z0) 0 108) 1 101) 2 103
theorem mU14_eq : mU14 = mWd mW14 := by
  funext j
  unfold mU14 mWd mW14
  by_cases hj : j < 3
  · rcases (show j = 0 ∨ j = 1 ∨ j = 2 by omega) with rfl | rfl | rfl <;> rfl
  · rw [up_ne _ _ (by omega), up_ne _ _ (by omega), up_ne _ _ (by omega)]
    have : ([108, 101, 103] : List Int32)[j]? = none := List.getElem?_eq_none (by simp; omega)
    rw [List.getD_eq_getElem?_getD, this]; rfl
def mU15 : Nat → Int32 := upd (upd (upd (upd (z0) 0 109) 1 111) 2 115) 3 116
theorem mU15_eq : mU15 = mWd mW15 := by
  funext j
  unfold mU15 mWd mW15
  by_cases hj : j < 4
  · rcases (show j = 0 ∨ j = 1 ∨ j = 2 ∨ j = 3 by omega) with rfl | rfl | rfl | rfl <;> rfl
  · rw [up_ne _ _ (by omega), up_ne _ _ (by omega), up_ne _ _ (by omega), up_ne _ _ (by omega)]
    have : ([109, 111, 115, 116] : List Int32)[j]? = none := List.getElem?_eq_none (by simp; omega)
    rw [List.getD_eq_getElem?_getD, this]; rfl
def mU16 : Nat → Int32 := upd (upd (upd (upd (z0) 0 108) 1 97) 2 115) 3 116
theorem mU16_eq : mU16 = mWd mW16 := by
  funext j
  unfold mU16 mWd mW16
  by_cases hj : j < 4
  · rcases (show j = 0 ∨ j = 1 ∨ j = 2 ∨ j = 3 by omega) with rfl | rfl | rfl | rfl <;> rfl
  · rw [up_ne _ _ (by omega), up_ne _ _ (by omega), up_ne _ _ (by omega), up_ne _ _ (by omega)]
    have : ([108, 97, 115, 116] : List Int32)[j]? = none := List.getElem?_eq_none (by simp; omega)
    rw [List.getD_eq_getElem?_getD, this]; rfl
def mU17 : Nat → Int32 := upd (upd (upd (upd (upd (upd (upd (z0) 0 110) 1 101) 2 97) 3 114) 4 101) 5 115) 6 116
theorem mU17_eq : mU17 = mWd mW17 := by
  funext j
  unfold mU17 mWd mW17
  by_cases hj : j < 7
  · rcases (show j = 0 ∨ j = 1 ∨ j = 2 ∨ j = 3 ∨ j = 4 ∨ j = 5 ∨ j = 6 by omega) with rfl | rfl | rfl | rfl | rfl | rfl | rfl <;> rfl
  · rw [up_ne _ _ (by omega), up_ne _ _ (by omega), up_ne _ _ (by omega), up_ne _ _ (by omega), up_ne _ _ (by omega), up_ne _ _ (by omega), up_ne _ _ (by omega)]
    have : ([110, 101, 97, 114, 101, 115, 116] : List Int32)[j]? = none := List.getElem?_eq_none (by simp; omega)
    rw [List.getD_eq_getElem?_getD, this]; rfl
def mU18 : Nat → Int32 := upd (upd (upd (upd (upd (upd (upd (z0) 0 98) 1 111) 2 117) 3 110) 4 99) 5 101) 6 100
theorem mU18_eq : mU18 = mWd mW18 := by
  funext j
  unfold mU18 mWd mW18
  by_cases hj : j < 7
  · rcases (show j = 0 ∨ j = 1 ∨ j = 2 ∨ j = 3 ∨ j = 4 ∨ j = 5 ∨ j = 6 by omega) with rfl | rfl | rfl | rfl | rfl | rfl | rfl <;> rfl
  · rw [up_ne _ _ (by omega), up_ne _ _ (by omega), up_ne _ _ (by omega), up_ne _ _ (by omega), up_ne _ _ (by omega), up_ne _ _ (by omega), up_ne _ _ (by omega)]
    have : ([98, 111, 117, 110, 99, 101, 100] : List Int32)[j]? = none := List.getElem?_eq_none (by simp; omega)
    rw [List.getD_eq_getElem?_getD, this]; rfl
def mU19 : Nat → Int32 := upd (upd (upd (upd (upd (upd (z0) 0 112) 1 97) 2 115) 3 115) 4 101) 5 100
theorem mU19_eq : mU19 = mWd mW19 := by
  funext j
  unfold mU19 mWd mW19
  by_cases hj : j < 6
  · rcases (show j = 0 ∨ j = 1 ∨ j = 2 ∨ j = 3 ∨ j = 4 ∨ j = 5 by omega) with rfl | rfl | rfl | rfl | rfl | rfl <;> rfl
  · rw [up_ne _ _ (by omega), up_ne _ _ (by omega), up_ne _ _ (by omega), up_ne _ _ (by omega), up_ne _ _ (by omega), up_ne _ _ (by omega)]
    have : ([112, 97, 115, 115, 101, 100] : List Int32)[j]? = none := List.getElem?_eq_none (by simp; omega)
    rw [List.getD_eq_getElem?_getD, this]; rfl
def mU20 : Nat → Int32 := upd (upd (upd (upd (upd (z0) 0 115) 1 104) 2 97) 3 102) 4 116
theorem mU20_eq : mU20 = mWd mW20 := by
  funext j
  unfold mU20 mWd mW20
  by_cases hj : j < 5
  · rcases (show j = 0 ∨ j = 1 ∨ j = 2 ∨ j = 3 ∨ j = 4 by omega) with rfl | rfl | rfl | rfl | rfl <;> rfl
  · rw [up_ne _ _ (by omega), up_ne _ _ (by omega), up_ne _ _ (by omega), up_ne _ _ (by omega), up_ne _ _ (by omega)]
    have : ([115, 104, 97, 102, 116] : List Int32)[j]? = none := List.getElem?_eq_none (by simp; omega)
    rw [List.getD_eq_getElem?_getD, this]; rfl
def mH1 : zH := cH0 ++ [.inr (12, [zr (some 28), zi 0, zr (some 29), zi 0, zi 0, zi 0, zi 0, zi 0, zi 0, zi 0, zi 0, zi 0, zi (-1), zr (some 30), zr (some 31), zr (some 32), zr (some 33), zr (some 34), zr (some 35), zr (some 36), zr (some 37), zr (some 38), zr (some 39), zi 0, zr (some 40), zr (some 41), zr (some 42), zr (some 43), zi 0, zr (some 44), zr (some 45)]), .inl (0, 34490, .inl z0), .inl (0, 1000, .inl z0), .inl (2, 4, .inl mU13), .inl (2, 3, .inl mU14), .inl (2, 4, .inl mU15), .inl (2, 4, .inl mU16), .inl (2, 7, .inl mU17), .inl (2, 7, .inl mU18), .inl (2, 6, .inl mU19), .inl (2, 5, .inl mU20), .inl (0, 125, .inl z0), .inl (3, 3, .inl z0), .inl (0, 6, .inl z0), .inl (0, 6, .inl z0), .inl (0, 6, .inl z0), .inl (0, 6, .inl z0), .inl (0, 16, .inl z0), .inl (0, 16, .inl z0)]
def mH0 : zH := cH0 ++ [.inr (12, [zr (some 28), zi 0, zr (some 29), zi 0, zi 0, zi 0, zi 0, zi 0, zi 0, zi 0, zi 0, zi 0, zi (-1), zr (some 30), zr (some 31), zr (some 32), zr (some 33), zr (some 34), zr (some 35), zr (some 36), zr (some 37), zr (some 38), zr (some 39), zi 0, zr (some 40), zr (some 41), zr (some 42), zr (some 43), zi 0, zr (some 44), zr (some 45)]), .inl (0, 34490, .inl z0), .inl (0, 1000, .inl z0), .inl (2, 4, .inl (mWd mW13)), .inl (2, 3, .inl (mWd mW14)), .inl (2, 4, .inl (mWd mW15)), .inl (2, 4, .inl (mWd mW16)), .inl (2, 7, .inl (mWd mW17)), .inl (2, 7, .inl (mWd mW18)), .inl (2, 6, .inl (mWd mW19)), .inl (2, 5, .inl (mWd mW20)), .inl (0, 125, .inl z0), .inl (3, 3, .inl z0), .inl (0, 6, .inl z0), .inl (0, 6, .inl z0), .inl (0, 6, .inl z0), .inl (0, 6, .inl z0), .inl (0, 16, .inl z0), .inl (0, 16, .inl z0)]
theorem mH_eq : mH1 = mH0 := by
  unfold mH1 mH0
  rw [mU13_eq, mU14_eq, mU15_eq, mU16_eq, mU17_eq, mU18_eq, mU19_eq, mU20_eq]
set_option maxHeartbeats 4000000 in
set_option maxRecDepth 100000 in
theorem m_new (N : Nat) : f_X12_init N 27 (cH0 ++ [.inr (12, [zr none, zi 0, zr none, zi 0, zi 0, zi 0, zi 0, zi 0, zi 0, zi 0, zi 0, zi 0, zi 0, zr none, zr none, zr none, zr none, zr none, zr none, zr none, zr none, zr none, zr none, zi 0, zr none, zr none, zr none, zr none, zi 0, zr none, zr none])]) = f_X12_init_352 N N 27 0 mH1 := rfl
