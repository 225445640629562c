/-! ===== off ===== -/
theorem sq_nI {x : Int32} (h1 : ¬ x < -20000) (h2 : ¬ 20000 < x) : ∃ s : Nat, x * x = nI s ∧ s ≤ 400000000 := by
  rw [Int32.lt_iff_toInt_lt] at h1 h2
  have e1 : (-20000 : Int32).toInt = -20000 := by decide
  have e2 : (20000 : Int32).toInt = 20000 := by decide
  rw [e1] at h1
  rw [e2] at h2
  have h5 : x.toInt.natAbs ≤ 20000 := by omega
  have h6 : x.toInt.natAbs * x.toInt.natAbs ≤ 20000 * 20000 := Nat.mul_le_mul h5 h5
  have h7 := Int.natAbs_mul_self (a := x.toInt)
  refine ⟨x.toInt.natAbs * x.toInt.natAbs, ?_, by omega⟩
  apply Int32.toInt_inj.mp
  rw [Int32.toInt_mul, nI_toInt (by omega), h7]
  exact Int.bmod_eq_of_le (by omega) (by omega)
