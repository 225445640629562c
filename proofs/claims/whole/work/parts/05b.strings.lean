/-! ===== strings: the eight constants ===== -/
def zstl (k : Nat) : Option Int32 := if k < 8 then some (nI (zSl.getD k 0)) else none
def zstc (k : Nat) (i : Int32) : Option Int32 := if k < 8 ∧ ¬ (i < 0 ∨ zSl.getD k 0 ≤ i.toNatClampNeg) then some ((zSb.getD k []).getD i.toNatClampNeg 0) else none
theorem zcl_got {h h1 : zH} {t a : Nat} {o : Option Nat} (hx : ∃ b nn y, a = h.length ∧ o = some b ∧ h[b]? = some (.inl (t, nn, y)) ∧ (match y with | .inl _ => t = 0 | .inr _ => t = 4) ∧ h1 = h ++ [.inl (t, nn, y)]) : ∃ a' nn y, some a = some a' ∧ h1[a']? = some (.inl (t, nn, y)) := by
  obtain ⟨b, nn, y, rfl, -, -, -, rfl⟩ := hx
  exact ⟨_, nn, y, rfl, by simp⟩
