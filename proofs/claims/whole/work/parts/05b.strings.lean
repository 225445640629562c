/-! ===== strings: the eight constants ===== -/
def zstl (k : Nat) : Option Int32 := if k < 8 then some (nI (zSl.getD k 0)) else none
def zstc (k : Nat) (i : Int32) : Option Int32 := if k < 8 ∧ ¬ (i < 0 ∨ zSl.getD k 0 ≤ i.toNatClampNeg) then some ((zSb.getD k []).getD i.toNatClampNeg 0) else none
theorem zcl_got {h h1 : zH} {t a : Nat} {o : Option Nat} (hx : ∃ b nn y, a = h.length ∧ o = some b ∧ h[b]? = some (.inl (t, nn, y)) ∧ (match y with | .inl _ => t = 0 | .inr _ => t = 4) ∧ h1 = h ++ [.inl (t, nn, y)]) : ∃ a' nn y, some a = some a' ∧ h1[a']? = some (.inl (t, nn, y)) := by
  obtain ⟨b, nn, y, rfl, -, -, -, rfl⟩ := hx
  exact ⟨_, nn, y, rfl, by simp⟩
section zstrs
variable {g : zG} {J : zJ} {h0 : zH} {pc idx k : Nat} {L : List (Option zV)} {st : List zV} {h : zH} {r : Option zV} {h' : zH} {x i : Int32}
theorem zq_strlen (hl : Cond.methodLink J.1.cls idx ⟨"java/lang/String", "length", "()I"⟩ ∈ zWd) (_e1 : True = True) (_e2 : True = True) (hf : 2 ≤ J.2.2.2.2.1 ∧ 45 ≤ J.2.2.2.2.2) (hd : decode J.2.1 pc = .ok (.invokevirtual idx, 3)) (hx : zstl k = some x) (kk : zR g J h0 (pc + 3) L (zi x :: st) h r h') : zR g J h0 pc L (zs k :: st) h r h' := sorry
theorem zq_strat (hl : Cond.methodLink J.1.cls idx ⟨"java/lang/String", "charAt", "(I)C"⟩ ∈ zWd) (_e1 : True = True) (_e2 : True = True) (hf : 4 ≤ J.2.2.2.2.1 ∧ 86 ≤ J.2.2.2.2.2) (hd : decode J.2.1 pc = .ok (.invokevirtual idx, 3)) (hx : zstc k i = some x) (kk : zR g J h0 (pc + 3) L (zi x :: st) h r h') : zR g J h0 pc L (zi i :: zs k :: st) h r h' := sorry
end zstrs
