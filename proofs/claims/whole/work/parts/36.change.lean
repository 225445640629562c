/-! ===== new cells behind a heap; change() ===== -/
section newc
variable {h : zH} {ns : List zE} {KI : Nat → Int32} {KR : Nat → Option Nat} {KA : Nat → Nat → Int32} {KP : Nat → Option Nat} {i a ci k t n : Nat} {fs : List zV} {e : zE}
theorem n_len : (cp (h ++ ns) KI KR KA KP).length = h.length + ns.length := by rw [cp_len, List.length_append]
theorem n_app (hl : 46 ≤ h.length) (e : zE) : cp (h ++ ns) KI KR KA KP ++ [e] = cp (h ++ (ns ++ [e])) KI KR KA KP := by
  rw [cp_app (by rw [List.length_append]; omega), List.append_assoc]
theorem n_get (hl : 46 ≤ h.length) : (cp (h ++ ns) KI KR KA KP)[h.length + i]? = ns[i]? := by
  rw [cp_hi (by omega), List.getElem?_append_right (by omega), Nat.add_sub_cancel_left]
theorem n_old (ha : 19 ≤ a) (he : h[a]? = some e) : (cp (h ++ ns) KI KR KA KP)[a]? = some e := by
  rw [cp_hi ha, List.getElem?_append_left (List.getElem?_eq_some_iff.mp he).1, he]
theorem n_set (hl : 46 ≤ h.length) : (cp (h ++ ns) KI KR KA KP).set (h.length + i) e = cp (h ++ ns.set i e) KI KR KA KP := by
  rw [cp_seto (by omega), List.set_append_right _ _ (by omega), Nat.add_sub_cancel_left]
theorem n_I (hl : 46 ≤ h.length) {x : Int32} (hi : ns[i]? = some (.inr (ci, fs))) (hk : fs[k]? = some (zi x)) : zgI (cp (h ++ ns) KI KR KA KP) ci (some (h.length + i)) k = some x := fgI ((n_get hl).trans hi) hk
theorem n_R (hl : 46 ≤ h.length) {x : Option Nat} (hi : ns[i]? = some (.inr (ci, fs))) (hk : fs[k]? = some (zr x)) : zgR (cp (h ++ ns) KI KR KA KP) ci (some (h.length + i)) k = some x := fgR ((n_get hl).trans hi) hk
theorem n_u (hl : 46 ≤ h.length) {v : zV} (hi : ns[i]? = some (.inr (ci, fs))) (hk : k < fs.length) : zpu (cp (h ++ ns) KI KR KA KP) ci (some (h.length + i)) k v = some (cp (h ++ ns.set i (.inr (ci, fs.set k v))) KI KR KA KP) := by
  rw [fpu ((n_get hl).trans hi) hk, n_set hl]
theorem n_k (hl : 46 ≤ h.length) (hi : ns[i]? = some (.inr (ci, fs))) : zck (cp (h ++ ns) KI KR KA KP) ci (some (h.length + i)) = some (h.length + i) := fk ((n_get hl).trans hi)
theorem n_nw {α : Type} (hl : 46 ≤ h.length) (e : zE) (kk : Nat → zH → Option α) : znw (cp (h ++ ns) KI KR KA KP) e kk = kk (h.length + ns.length) (cp (h ++ (ns ++ [e])) KI KR KA KP) := by
  unfold znw
  rw [n_len, n_app hl]
theorem zcl_4 {α : Type} {H : zH} {f : Nat → Option Nat} (ha : H[a]? = some (.inl (4, n, .inr f))) (kk : Nat → zH → Option α) : zcl H 4 (some a) kk = kk H.length (H ++ [.inl (4, n, .inr f)]) := by
  unfold zcl
  simp [ha]
end newc
section chg
variable {h : zH} {KI : Nat → Int32} {KR : Nat → Option Nat} {KA : Nat → Nat → Int32} {KP : Nat → Option Nat} {N : Nat}
/-- a State is copied into a new one -/
theorem c_stcopy (hl : 46 ≤ h.length) {q aq : Nat} {rq x2 x3 : Option Nat} {td : Int32} {AR : Nat → Option Nat} (hq : 19 ≤ q) (hqa : 19 ≤ aq) (h1 : h[q]? = some (.inr (9, [zr rq, zr (some aq), zr x2, zr x3, zi td]))) (h2 : h[aq]? = some (.inl (4, 16, .inr AR))) :
    f_X9_init_ N (h.length + 0) (some q) (cp (h ++ [.inr (9, [zr none, zr none, zr none, zr none, zi 0])]) KI KR KA KP) = some (cp (h ++ [.inr (9, [zr rq, zr (some (h.length + 1)), zr x2, zr x3, zi td]), .inl (4, 16, .inr AR)]) KI KR KA KP) := by
  unfold f_X9_init_
  rw [fgR (n_old hq h1) rfl, Option.bind_some, n_u hl (i := 0) rfl (Nat.le_of_ble_eq_true rfl), Option.bind_some, fgR (n_old hq h1) rfl, Option.bind_some, zcl_4 (n_old hqa h2), n_len, n_app hl]
  rw [n_u hl (i := 0) rfl (Nat.le_of_ble_eq_true rfl), Option.bind_some, fgR (n_old hq h1) rfl, Option.bind_some, n_u hl (i := 0) rfl (Nat.le_of_ble_eq_true rfl), Option.bind_some, fgR (n_old hq h1) rfl, Option.bind_some, n_u hl (i := 0) rfl (Nat.le_of_ble_eq_true rfl), Option.bind_some, fgI (n_old hq h1) rfl, Option.bind_some, n_u hl (i := 0) rfl (Nat.le_of_ble_eq_true rfl), Option.bind_some]
  rfl
theorem c_change_45 (hl : 46 ≤ h.length) {q aq c : Nat} {rq x2 x3 : Option Nat} {td : Int32} {AR : Nat → Option Nat} (hq : 19 ≤ q) (hqa : 19 ≤ aq) (h1 : h[q]? = some (.inr (9, [zr rq, zr (some aq), zr x2, zr x3, zi td]))) (h2 : h[aq]? = some (.inl (4, 16, .inr AR))) (hR : KR 0 = some q) (hI : KI 0 = nI c) (hc : c < 4) :
    f_X11_change_45 N 0 (cp h KI KR KA KP) = some (some (h.length + 0), cp (h ++ [.inr (9, [zr rq, zr (some (h.length + 1)), zr x2, zr x3, zi td]), .inl (4, 16, .inr AR)]) (upd KI 0 (nI (c + 1))) (va_up KR 0 (some (h.length + 0))) KA (va_up KP c (some q))) := by
  unfold f_X11_change_45
  rw [cg0_3 hl, Option.bind_some, cg0_4 hl, Option.bind_some, cg0_5 hl, Option.bind_some, hI, hR, cs18 hl hc (Or.inr ⟨_, fk ((cp_hi hq).trans h1)⟩), Option.bind_some, cg0_4 hl, Option.bind_some, hI, nI_1, cu0_4 hl, Option.bind_some]
  have e0 : ∀ (KI : Nat → Int32) (KP : Nat → Option Nat), cp h KI KR KA KP = cp (h ++ []) KI KR KA KP := fun _ _ => by rw [List.append_nil]
  rw [e0, n_nw hl]
  have hl2 : 46 ≤ (h ++ ([] ++ [(.inr (9, [zr none, zr none, zr none, zr none, zi 0]) : zE)])).length := by simp; omega
  rw [cg0_5 hl2, Option.bind_some, hR]
  have e1 := c_stcopy (N := N) (KI := upd KI 0 (nI (c + 1))) (KR := KR) (KA := KA) (KP := va_up KP c (some q)) hl hq hqa h1 h2
  have hl3 : 46 ≤ (h ++ [(.inr (9, [zr rq, zr (some (h.length + 1)), zr x2, zr x3, zi td]) : zE), .inl (4, 16, .inr AR)]).length := by simp; omega
  rw [show (h.length + ([] : List zE).length) = h.length + 0 from rfl, show (([] : List zE) ++ [(.inr (9, [zr none, zr none, zr none, zr none, zi 0]) : zE)]) = [.inr (9, [zr none, zr none, zr none, zr none, zi 0])] from rfl, e1, Option.bind_some, cu0_5 hl3, Option.bind_some, cg0_5 hl3, Option.bind_some, vu_at]
end chg
section chg2
variable {h : zH} {KI : Nat → Int32} {KR : Nat → Option Nat} {KA : Nat → Nat → Int32} {KP : Nat → Option Nat} {N : Nat}
/-- kept[] behind a change: with four kept the oldest goes -/
def kpP (KP : Nat → Option Nat) (c q : Nat) : Nat → Option Nat := if c = 4 then va_up (va_up (va_up (va_up KP 0 (KP 1)) 1 (KP 2)) 2 (KP 3)) 3 (some q) else va_up KP c (some q)
theorem c_change (hl : 46 ≤ h.length) (hN : 5 ≤ N) {q aq c : Nat} {rq x2 x3 : Option Nat} {td : Int32} {AR : Nat → Option Nat} (hq : 19 ≤ q) (hqa : 19 ≤ aq) (h1 : h[q]? = some (.inr (9, [zr rq, zr (some aq), zr x2, zr x3, zi td]))) (h2 : h[aq]? = some (.inl (4, 16, .inr AR))) (hR : KR 0 = some q) (hI : KI 0 = nI c) (hc : c ≤ 4)
    (hK : ∀ i, i < c → ∃ p ps, KP i = some p ∧ 19 ≤ p ∧ h[p]? = some (.inr (9, ps))) :
    f_X11_change N 0 (cp h KI KR KA KP) = some (some (h.length + 0), cp (h ++ [.inr (9, [zr rq, zr (some (h.length + 1)), zr x2, zr x3, zi td]), .inl (4, 16, .inr AR)]) (upd KI 0 (nI (kpC c))) (va_up KR 0 (some (h.length + 0))) KA (kpP KP c q)) := by
  unfold f_X11_change
  rw [cg0_4 hl, Option.bind_some]
  by_cases h4 : c = 4
  · subst h4
    rw [if_pos (show KI 0 = (4 : Int32) from hI)]
    obtain ⟨N, rfl⟩ : ∃ m, N = m + 5 := ⟨N - 5, by omega⟩
    have hv : ∀ (KP' : Nat → Option Nat) (i : Nat), i < 4 → (KP i = none ∨ ∃ a, zck (cp h KI KR KA KP') 9 (KP i) = some a) := by
      intro KP' i hi
      obtain ⟨p, ps, e1, e2, e3⟩ := hK i hi
      rw [e1]
      exact Or.inr ⟨p, fk ((cp_hi e2).trans e3)⟩
    rw [f_X11_change_10, if_neg (by decide), cg0_3 hl, Option.bind_some, Option.bind_some, show (1 : Int32) = nI 1 from rfl, cl18 hl (by omega), Option.bind_some, show nI 1 - nI 1 = nI 0 from by decide, cs18 hl (by omega) (hv _ 1 (by omega)), Option.bind_some, show nI 1 + nI 1 = nI 2 from by decide]
    rw [f_X11_change_10, if_neg (by decide), cg0_3 hl, Option.bind_some, Option.bind_some, show (1 : Int32) = nI 1 from rfl, cl18 hl (by omega), Option.bind_some, show nI 2 - nI 1 = nI 1 from by decide, vu_ne _ _ (by omega), cs18 hl (by omega) (hv _ 2 (by omega)), Option.bind_some, show nI 2 + nI 1 = nI 3 from by decide]
    rw [f_X11_change_10, if_neg (by decide), cg0_3 hl, Option.bind_some, Option.bind_some, show (1 : Int32) = nI 1 from rfl, cl18 hl (by omega), Option.bind_some, show nI 3 - nI 1 = nI 2 from by decide, vu_ne _ _ (by omega), vu_ne _ _ (by omega), cs18 hl (by omega) (hv _ 3 (by omega)), Option.bind_some, show nI 3 + nI 1 = nI 4 from by decide]
    rw [f_X11_change_10, if_pos (by decide), cg0_4 hl, Option.bind_some, hI, show nI 4 - (1 : Int32) = nI 3 from by decide, cu0_4 hl, Option.bind_some]
    rw [c_change_45 hl hq hqa h1 h2 hR (c := 3) (up_at _ _ _) (by omega), upd2]
    rfl
  · rw [if_neg (show ¬ KI 0 = (4 : Int32) from by rw [hI]; exact fun z => h4 ((nI_eq (a := c) (b := 4) (by omega) (by omega)).mp z)), c_change_45 hl hq hqa h1 h2 hR hI (by omega)]
    simp only [kpC, kpP, if_neg h4]
end chg2
