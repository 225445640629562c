/-! ===== round: all shots are forgotten ===== -/
theorem cp_cp {h : zH} {KI KI' : Nat → Int32} {KR KR' : Nat → Option Nat} {KA KA' : Nat → Nat → Int32} {KP KP' : Nat → Option Nat} : cp (cp h KI KR KA KP) KI' KR' KA' KP' = cp h KI' KR' KA' KP' := by
  apply List.ext_getElem?
  intro i
  cases hn : cC KI' KR' KA' KP' i with
  | none =>
    rw [cp_out hn, cp_out hn]
    cases hm : cC KI KR KA KP i with
    | none => rw [cp_out hm]
    | some e =>
      obtain ⟨e0, h1, -⟩ := cC_sz (KI := KI') (KR := KR') (KA := KA') (KP := KP') hm
      rw [hn] at h1
      cases h1
  | some e =>
    rw [cp, List.getElem?_mapIdx, hn, cp, List.getElem?_mapIdx, cp, List.getElem?_mapIdx, hn]
    cases h[i]? <;> rfl
section fgt
variable {h : zH} {KI : Nat → Int32} {KR : Nat → Option Nat} {KA : Nat → Nat → Int32} {KP : Nat → Option Nat} {N : Nat}
theorem c_with {ns : List zE} {y sh : Nat} {o c : Option Nat} {cl : Int32} (hl : 46 ≤ h.length) (gy : ∀ {ns : List zE}, (cp (h ++ ns) KI KR KA KP)[y]? = some (.inr (0, [zi cl, zr o, zr c]))) : f_X0_with N y (some sh) (cp (h ++ ns) KI KR KA KP) = some (some (h.length + ns.length), cp (h ++ (ns ++ [.inr (0, [zi cl, zr (some sh), zr c])])) KI KR KA KP) := by
  have lk : ∀ (e : zE), (ns ++ [e])[ns.length]? = some e := fun e => by simp
  have ls : ∀ (e e' : zE), (ns ++ [e]).set ns.length e' = ns ++ [e'] := fun e e' => by simp
  have st : ∀ {fs : List zV} {k : Nat} {v : zV}, k < fs.length → zpu (cp (h ++ (ns ++ [.inr (0, fs)])) KI KR KA KP) 0 (some (h.length + ns.length)) k v = some (cp (h ++ (ns ++ [.inr (0, fs.set k v)])) KI KR KA KP) := fun hk => by
    rw [n_u hl (i := ns.length) (lk _) hk, ls]
  exact nS hl ns.length rfl (bS (fgI gy rfl) (bS (fgR gy rfl) (bS (bS (st (Nat.le_of_ble_eq_true rfl)) (bS (st (Nat.le_of_ble_eq_true rfl)) (bS (st (Nat.le_of_ble_eq_true rfl)) rfl))) rfl)))
/-- what forgetShots() has done up to archer b -/
def fgI_ (g : zH) (F : Nat → Int32) (AR AB : Nat → Option Nat) (more : List zE) (b : Nat) : Prop := (∀ a, b ≤ a → AB a = AR a) ∧ (∀ a, a < b → AR a = none → AB a = none) ∧ (∀ a, a < b → ∀ y, AR a = some y → ∃ i sc, AB a = some (g.length + (i + 6)) ∧ more[i]? = some (.inr (0, [zi (F (125 + a)), zr (some (g.length + 2)), zr (some sc)])) ∧ scR g sc F a) ∧ more.length ≤ b ∧ zsl more ≤ 10 * b
theorem c_fs10 {S e2 e3 e4 e5 : zE} {x0 x2 x3 x4 : zV} {F : Nat → Int32} {AR : Nat → Option Nat} (hl : 46 ≤ h.length) (hS : S = .inr (9, [x0, zr (some (h.length + 1)), x2, x3, x4])) (s3 : ∀ a, a < 16 → arR h (AR a) F a) : ∀ (j b fuel : Nat) (AB : Nat → Option Nat) (more : List zE), b + j = 16 → j < fuel → fgI_ h F AR AB more b →
    ∃ AB' more', f_X9_forgetShots_10 N fuel (h.length + 0) (some (h.length + 2)) (nI b) (cp (h ++ (S :: .inl (4, 16, .inr AB) :: e2 :: e3 :: e4 :: e5 :: more)) KI KR KA KP) = some (cp (h ++ (S :: .inl (4, 16, .inr AB') :: e2 :: e3 :: e4 :: e5 :: more')) KI KR KA KP) ∧ fgI_ h F AR AB' more' 16 := by
  subst hS
  intro j
  induction j with
  | zero =>
    intro b fuel AB more h1 h2 w
    obtain ⟨fuel, rfl⟩ : ∃ x, fuel = x + 1 := ⟨fuel - 1, by omega⟩
    have hb : b = 16 := by omega
    subst hb
    refine ⟨AB, more, ?_, w⟩
    rw [f_X9_forgetShots_10]
    exact bS (n_R hl (i := 0) rfl rfl) (bS (n_ln hl (i := 1) rfl (by omega)) (iT (by decide) rfl))
  | succ j ih =>
    intro b fuel AB more h1 h2 w
    obtain ⟨fuel, rfl⟩ : ∃ x, fuel = x + 1 := ⟨fuel - 1, by omega⟩
    obtain ⟨w1, w2, w3, w4, w5⟩ := id w
    have hb : b < 16 := by omega
    have eb : AB b = AR b := w1 b (by omega)
    have lR : ∀ {more : List zE}, zldR (cp (h ++ (.inr (9, [x0, zr (some (h.length + 1)), x2, x3, x4]) :: .inl (4, 16, .inr AB) :: e2 :: e3 :: e4 :: e5 :: more)) KI KR KA KP) 4 (some (h.length + 1)) (nI b) = some (AR b) := fun {more} => (fldR ((n_get hl (i := 1)).trans rfl) hb (by omega)).trans (congrArg some eb)
    rw [f_X9_forgetShots_10]
    cases hA : AR b with
    | none =>
      have lR' : ∀ {more : List zE}, _ := fun {more} => (lR (more := more)).trans (congrArg some hA)
      obtain ⟨AB', more', x1, x2'⟩ := ih (b + 1) fuel AB more (by omega) (by omega) ⟨fun a ha => w1 a (by omega), fun a ha hn => by
          by_cases c : a = b
          · subst c; rw [eb, hA]
          · exact w2 a (by omega) hn, fun a ha y hy => by
          by_cases c : a = b
          · subst c; rw [hA] at hy; cases hy
          · exact w3 a (by omega) y hy, by omega, by omega⟩
      refine ⟨AB', more', ?_, x2'⟩
      refine bS (n_R hl (i := 0) rfl rfl) (bS (n_ln hl (i := 1) rfl (by omega)) (iF (nI_ge (b := 16) hb (by omega)) (bS (n_R hl (i := 0) rfl rfl) (bS lR' (iT rfl ?_)))))
      rw [la_r]
      exact x1
    | some y =>
      have lR' : ∀ {more : List zE}, _ := fun {more} => (lR (more := more)).trans (congrArg some hA)
      have wa := s3 b hb
      rw [hA] at wa
      obtain ⟨-, sh, sc, y0, ws, wc⟩ := wa
      have gy : ∀ {ns : List zE}, (cp (h ++ ns) KI KR KA KP)[y]? = some (.inr (0, [zi (F (125 + b)), zr (some sh), zr (some sc)])) := n_old (fz_19 y0.1) y0.2
      have cw := c_with (N := N) (KI := KI) (KR := KR) (KA := KA) (KP := KP) (sh := h.length + 2) (ns := .inr (9, [x0, zr (some (h.length + 1)), x2, x3, x4]) :: .inl (4, 16, .inr AB) :: e2 :: e3 :: e4 :: e5 :: more) hl gy
      have hlk : ((.inr (9, [x0, zr (some (h.length + 1)), x2, x3, x4]) : zE) :: .inl (4, 16, .inr AB) :: e2 :: e3 :: e4 :: e5 :: more).length = more.length + 6 := rfl
      rw [hlk] at cw
      have hkk : (((.inr (9, [x0, zr (some (h.length + 1)), x2, x3, x4]) : zE) :: .inl (4, 16, .inr AB) :: e2 :: e3 :: e4 :: e5 :: more) ++ [.inr (0, [zi (F (125 + b)), zr (some (h.length + 2)), zr (some sc)])])[more.length + 6]? = some (.inr (0, [zi (F (125 + b)), zr (some (h.length + 2)), zr (some sc)])) := by simp
      obtain ⟨AB', more', x1, x2'⟩ := ih (b + 1) fuel (va_up AB b (some (h.length + (more.length + 6)))) (more ++ [.inr (0, [zi (F (125 + b)), zr (some (h.length + 2)), zr (some sc)])]) (by omega) (by omega) ⟨fun a ha => by rw [vu_ne _ _ (by omega)]; exact w1 a (by omega), fun a ha hn => by
          by_cases c : a = b
          · subst c; rw [hA] at hn; cases hn
          · rw [vu_ne _ _ c]; exact w2 a (by omega) hn, fun a ha y' hy => by
          by_cases c : a = b
          · subst c
            exact ⟨more.length, sc, vu_at _ _ _, by simp, wc⟩
          · rw [vu_ne _ _ c]
            obtain ⟨i, sc', u1, u2, u3⟩ := w3 a (by omega) y' hy
            refine ⟨i, sc', u1, ?_, u3⟩
            rw [List.getElem?_append_left (List.getElem?_eq_some_iff.mp u2).1]
            exact u2, by rw [List.length_append]; simp; omega, by rw [zsl_app]; simp [zsl, zsz]; omega⟩
      refine ⟨AB', more', ?_, x2'⟩
      refine bS (n_R hl (i := 0) rfl rfl) (bS (n_ln hl (i := 1) rfl (by omega)) (iF (nI_ge (b := 16) hb (by omega)) (bS (n_R hl (i := 0) rfl rfl) (bS lR' (iF (by simp) (bS (n_R hl (i := 0) rfl rfl) (bS (n_R hl (i := 0) rfl rfl) (bS lR' (bS (fk gy) (zS cw (bS (n_stR hl (i := 1) rfl hb (by omega) (Or.inr ⟨_, n_k hl (i := more.length + 6) hkk⟩)) ?_)))))))))))
      rw [la_r]
      exact x1
end fgt
