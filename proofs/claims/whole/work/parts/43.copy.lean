/-! ===== Arrays.copyOf, new rows, fills ===== -/
section copy
variable {h : zH} {ns : List zE} {KI : Nat → Int32} {KR : Nat → Option Nat} {KA : Nat → Nat → Int32} {KP : Nat → Option Nat} {a n m N : Nat} {f : Nat → Int32}
theorem zna_n {α : Type} (H : zH) (t : Nat) {k : Nat} (hk : k ≤ 16777216) (kk : Nat → zH → Option α) : zna H t (nI k) kk = kk H.length (H ++ [.inl (t, k, .inl (fun _ => 0))]) := by
  unfold zna
  rw [nI_clamp (by omega), if_neg]
  rintro (q | q)
  · exact nI_pos (by omega) q
  · omega
/-- a row that is copied longer or as long: its first n entries -/
def cpy (f : Nat → Int32) (n : Nat) : Nat → Int32 := fun j => if j < n then f j else 0
theorem va_cpy0 (f : Nat → Int32) (n : Nat) : va_cpy f (fun _ => 0) 0 0 n = cpy f n := by
  funext j
  unfold va_cpy cpy
  by_cases hj : j < n
  · rw [if_pos (by omega), if_pos hj]; simp
  · rw [if_neg (by omega), if_neg hj]
/-- Arrays.copyOf, to another length -/
theorem c_copy {H : zH} (ha : H[a]? = some (.inl (0, n, .inl f))) (hne : m ≠ n) (hn : n < 2 ^ 31) (hm : m ≤ 16777216) : f_J7_copyOf_59c91 N (some a) (nI m) H = some (some H.length, H ++ [.inl (0, m, .inl (cpy f (min n m)))]) := by
  have hlt := (List.getElem?_eq_some_iff.mp ha).1
  unfold f_J7_copyOf_59c91
  rw [flen ha (by omega), Option.bind_some, if_neg (fun z => hne ((nI_eq (by omega) (by omega)).mp z)), zna_n _ _ hm, flen (gpush ha _) (by omega), Option.bind_some]
  have e1 : (if nI m < nI n then nI m else nI n) = nI (min n m) := by
    by_cases h1 : m < n
    · rw [if_pos (nI_lt h1 hn), Nat.min_eq_right (by omega)]
    · rw [if_neg (nI_nlt (by omega) (by omega)), Nat.min_eq_left (by omega)]
  rw [e1]
  unfold zcp
  rw [faI (gpush ha _), Option.bind_some, faI (glast H _), Option.bind_some, if_neg, Option.bind_some]
  · have e2 : (0 : Int32).toNatClampNeg = 0 := by decide
    rw [nI_clamp (by omega), e2, va_cpy0]
    refine congrArg some (congrArg (Prod.mk _) ?_)
    rw [List.set_append_right _ _ (Nat.le_refl _), Nat.sub_self]
    rfl
  · have e2 : (0 : Int32).toNatClampNeg = 0 := by decide
    dsimp only
    rw [nI_clamp (by omega), e2]
    rintro (q | q | q | q | q)
    · exact absurd q (by decide)
    · exact absurd q (by decide)
    · exact nI_pos (by omega) q
    · omega
    · omega
/-- Arrays.copyOf, to the same length -/
theorem c_copy_eq {H : zH} (ha : H[a]? = some (.inl (0, n, .inl f))) : f_J7_copyOf_59c91 N (some a) (nI n) H = some (some H.length, H ++ [.inl (0, n, .inl f)]) := by
  unfold f_J7_copyOf_59c91
  rw [flen ha (by omega), Option.bind_some, if_pos rfl]
  unfold zcl
  simp [ha]
end copy
