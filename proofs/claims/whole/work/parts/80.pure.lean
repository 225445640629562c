theorem zpure : ∀ (nS : Nat) (xS : Nat → Int32), nS ≤ 3072 → ∃ (N : Nat) (h' : zH), f_L_law N nS xS [] = some (1, h') ∧ h'.length ≤ 600000 ∧ zsl h' ≤ 7302250 := zpure0
