/-! ===== feed ===== -/
theorem byte_and (X : Int32) : X.toInt8.toInt32 &&& 255 = X &&& 255 := by
  rw [pk_and _ 8 (by decide), pk_and _ 8 (by decide)]
  apply congrArg nI
  have h1 : X.toInt8.toInt32.toInt = X.toInt.bmod (2 ^ 8) := by rw [Int8.toInt_toInt32, Int32.toInt_toInt8]
  have h2 : X.toInt = _ := BitVec.toInt_eq_toNat_cond X.toBitVec
  have h3 : X.toInt8.toInt32.toInt = _ := BitVec.toInt_eq_toNat_cond X.toInt8.toInt32.toBitVec
  have b1 : X.toBitVec.toNat < 2 ^ 32 := X.toBitVec.isLt
  have b2 : X.toInt8.toInt32.toBitVec.toNat < 2 ^ 32 := X.toInt8.toInt32.toBitVec.isLt
  rw [h1, h2, Int.bmod_def] at h3
  generalize X.toBitVec.toNat = a at *
  generalize X.toInt8.toInt32.toBitVec.toNat = b at *
  split at h3 <;> split at h3 <;> split at h3 <;> omega
/-- byte i of a word, as the class keeps it -/
def bB (w : Int32) (i : Nat) : Int32 := (w >>> (nI (24 - 8 * i) &&& 31)).toInt8.toInt32
def fW (a b c d e : Int32) (k : Nat) : Int32 := if k < 4 then a else if k < 8 then b else if k < 12 then c else if k < 16 then d else e
def mV (a b c d e : Int32) (k : Nat) : Int32 := (fW a b c d e k >>> (nI (8 * (3 - k % 4)) &&& 31)) &&& 255
section feed
variable {h : zH} {KI : Nat → Int32} {KR : Nat → Option Nat} {KA : Nat → Nat → Int32} {KP : Nat → Option Nat} {I : Nat → Int32} {A : Nat → Nat → Int32} {N t : Nat}
theorem g_app16 (hl : 46 ≤ h.length) (w : Int32) {K : Nat → Int32} {i fuel : Nat} (hi : i < 4) (ht : t + 4 ≤ 1000) {s' : Int32} (hs : nI (24 - 8 * i) + -8 = s') : f_X10_append_16 N (fuel + 1) 2 w (nI (24 - 8 * i)) (cp h (upd KI 1 (nI (t + i))) KR (va_up KA 3 (catF K t i (bB w))) KP) = f_X10_append_16 N fuel 2 w s' (cp h (upd KI 1 (nI (t + (i + 1)))) KR (va_up KA 3 (catF K t (i + 1) (bB w))) KP) := by
  rw [f_X10_append_16]
  refine iF (nI_pos (by omega)) (bS (cg2_0 hl) (bS (cg2_1 hl) ?_))
  rw [up_at, pk_vb, cs3 hl (by omega), Option.bind_some, bx_uu, vu_at, show (w >>> (nI (24 - 8 * i) &&& 31)).toInt8.toInt32 = bB w i from rfl, cf_up]
  refine bS (cg2_1 hl) ?_
  rw [up_at, la_r, cu2_1 hl, Option.bind_some, upd2, hs]
  rfl
theorem g_append (hl : 46 ≤ h.length) (hN : 5 ≤ N) (w : Int32) (hI : KI 1 = nI t) (ht : t + 4 ≤ 1000) : f_X10_append N 2 w (cp h KI KR KA KP) = some (cp h (upd KI 1 (nI (t + 4))) KR (va_up KA 3 (catF (KA 3) t 4 (bB w))) KP) := by
  unfold f_X10_append
  refine bS (cg2_1 hl) (iT (by rw [hI, la_r]; exact (nI_leI (b := 1000) (by omega) (by omega)).mpr ht) ?_)
  obtain ⟨N', rfl⟩ : ∃ m, N = m + 5 := ⟨N - 5, by omega⟩
  have e0 : cp h KI KR KA KP = cp h (upd KI 1 (nI (t + 0))) KR (va_up KA 3 (catF (KA 3) t 0 (bB w))) KP := by
    rw [cf_0, va_id]
    congr 1
    funext p
    by_cases hp : p = 1
    · subst hp; rw [up_at, hI]; rfl
    · rw [up_ne _ _ hp]
  rw [e0]
  refine (g_app16 hl w (i := 0) (by omega) ht (s' := nI (24 - 8 * 1)) (by decide)).trans ?_
  refine (g_app16 hl w (i := 1) (by omega) ht (s' := nI (24 - 8 * 2)) (by decide)).trans ?_
  refine (g_app16 hl w (i := 2) (by omega) ht (s' := nI (24 - 8 * 3)) (by decide)).trans ?_
  refine (g_app16 hl w (i := 3) (by omega) ht (s' := -8) (by decide)).trans ?_
  rw [f_X10_append_16]
  exact iT (by decide) rfl
theorem m_feed_18 (hl : 46 ≤ h.length) (ht : t + 20 ≤ 1000) (a b c d e : Int32) {M : Nat → Int32} : ∀ (j k fuel : Nat), k + j = 20 → j < fuel → f_X12_feed_18 N fuel 27 a b c d e (nI k) (mp h (upd I 3 (nI (t + k))) (va_up A 2 (catF M t k (mV a b c d e)))) = some (nI (t + 20), mp h (upd I 3 (nI (t + 20))) (va_up A 2 (catF M t 20 (mV a b c d e)))) := by
  intro j
  induction j with
  | zero =>
    intro k fuel h1 h2
    obtain ⟨fuel, rfl⟩ : ∃ x, fuel = x + 1 := ⟨fuel - 1, by omega⟩
    rw [f_X12_feed_18, show k = 20 by omega]
    exact iT (by decide) (bS (mg3 hl) (by rw [up_at]))
  | succ j ih =>
    intro k fuel h1 h2
    obtain ⟨fuel, rfl⟩ : ∃ x, fuel = x + 1 := ⟨fuel - 1, by omega⟩
    have st : f_X12_feed_71 N (fun l0 l1 l2 l3 l4 l5 l6 h => f_X12_feed_18 N fuel l0 l1 l2 l3 l4 l5 l6 h) 27 a b c d e (nI k) (fW a b c d e k) (mp h (upd I 3 (nI (t + k))) (va_up A 2 (catF M t k (mV a b c d e)))) = some (nI (t + 20), mp h (upd I 3 (nI (t + 20))) (va_up A 2 (catF M t 20 (mV a b c d e)))) := by
      unfold f_X12_feed_71
      have e1 : nI k - nI k / (4 : Int32) * (4 : Int32) = nI (k % 4) := pk_rem (d := 4) (by omega) (by omega) (by omega)
      have e2 : (3 : Int32) - nI (k % 4) = nI (3 - k % 4) := pk_sub (a := 3) (by omega)
      rw [e1, e2, lm_l, show (fW a b c d e k >>> (nI (8 * (3 - k % 4)) &&& 31)) &&& 255 = mV a b c d e k from rfl]
      refine bS (mg2 hl) (bS (mg3 hl) ?_)
      rw [up_at, ms2 hl (by omega), Option.bind_some, bx_uu, vu_at, cf_up]
      refine bS (mg3 hl) ?_
      rw [up_at, la_r, mu3 hl, Option.bind_some, upd2, la_r]
      exact ih (k + 1) fuel (by omega) (by omega)
    rw [f_X12_feed_18]
    refine iF (nI_ge (b := 20) (by omega) (by omega)) ?_
    unfold fW at st
    by_cases c4 : k < 4
    · rw [if_pos c4] at st
      exact iF (nI_ge (b := 4) c4 (by omega)) st
    rw [if_neg c4] at st
    refine iT (nI_le (a := 4) (by omega) (by omega)) ?_
    by_cases c8 : k < 8
    · rw [if_pos c8] at st
      exact iF (nI_ge (b := 8) c8 (by omega)) st
    rw [if_neg c8] at st
    refine iT (nI_le (a := 8) (by omega) (by omega)) ?_
    by_cases c12 : k < 12
    · rw [if_pos c12] at st
      exact iF (nI_ge (b := 12) c12 (by omega)) st
    rw [if_neg c12] at st
    refine iT (nI_le (a := 12) (by omega) (by omega)) ?_
    by_cases c16 : k < 16
    · rw [if_pos c16] at st
      exact iF (nI_ge (b := 16) c16 (by omega)) st
    rw [if_neg c16] at st
    exact iT (nI_le (a := 16) (by omega) (by omega)) st
end feed
theorem bB_mV (a b c d e w : Int32) {k i : Nat} (h : fW a b c d e k = w) (hi : 8 * (3 - k % 4) = 24 - 8 * i) : bB w i &&& 255 = mV a b c d e k := by
  unfold bB mV
  rw [byte_and, h, hi]
theorem op_feed {h : zH} {N : Nat} (hN : 21000 ≤ N) (H : INX h) (a b c d e : Int32) : OPo (f_X11_feed N 0 a b c d e) (f_X12_feed N 27 a b c d e) h := by
  obtain ⟨KI, KR, KA, KP, I, A, cc, q, H⟩ := H
  obtain ⟨hl, hC, hM, i1, i2, i3, i4, i5, i6, ⟨t, t1, t2, t3, t4⟩, i8, i9⟩ := id H
  by_cases h1 : t + 20 ≤ 1000
  · refine OPo.mut H (r := nI (t + 20)) (ns := []) (KI' := upd KI 1 (nI (t + 20))) (KR' := KR) (KA' := va_up KA 3 (catF (catF (catF (catF (catF (KA 3) t 4 (bB a)) (t + 4) 4 (bB b)) (t + 8) 4 (bB c)) (t + 12) 4 (bB d)) (t + 16) 4 (bB e))) (I' := upd I 3 (nI (t + 20))) (A' := va_up A 2 (catF (A 2) t 20 (mV a b c d e))) ?_ (fun h1' hl1 => ?_) (up_ne _ _ (by decide)) (up_ne _ _ (by decide)) (vu_ne _ _ (by decide)) rfl ?_ ?_ (i9.cg (up_ne _ _ (by decide)) (up_ne _ _ (by decide)) (vu_ne _ _ (by decide)) (vu_ne _ _ (by decide)) (vu_ne _ _ (by decide)) (vu_ne _ _ (by decide)) (vu_ne _ _ (by decide)) (vu_ne _ _ (by decide))) (by simp) (by simp [zsl])
    · rw [List.append_nil]
      refine bS (cg0_1 hl) (bS (cg2_1 hl) (iT (by rw [t1, la_r]; exact (nI_leI (b := 1000) (by omega) (by omega)).mpr h1) ?_))
      refine bS (cg0_1 hl) (bS (ck2 hl) (bS (g_append hl (by omega) a t1 (by omega)) ?_))
      refine bS (cg0_1 hl) (bS (ck2 hl) (bS (g_append hl (by omega) b (up_at _ _ _) (by omega)) ?_))
      refine bS (cg0_1 hl) (bS (ck2 hl) (bS (g_append hl (by omega) c (up_at _ _ _) (by omega)) ?_))
      refine bS (cg0_1 hl) (bS (ck2 hl) (bS (g_append hl (by omega) d (up_at _ _ _) (by omega)) ?_))
      refine bS (cg0_1 hl) (bS (ck2 hl) (bS (g_append hl (by omega) e (up_at _ _ _) (by omega)) ?_))
      refine bS (cg0_1 hl) (bS (cg2_1 hl) ?_)
      simp only [up_at, upd2, bx_uu, vu_at]
    · refine bS (mg3 hl1) (iT (by rw [t2, la_r]; exact (nI_leI (b := 1000) (by omega) (by omega)).mpr h1) ?_)
      have lp := m_feed_18 (N := N) (h := h1') (I := I) (A := A) (M := A 2) hl1 h1 a b c d e 20 0 N (by omega) (by omega)
      have e0 : upd I 3 (nI (t + 0)) = I := by
        funext p
        by_cases hp : p = 3
        · subst hp; rw [up_at, t2]; rfl
        · rw [up_ne _ _ hp]
      rw [cf_0, va_id, e0] at lp
      exact lp
    · refine ⟨t + 20, up_at _ _ _, up_at _ _ _, by omega, fun j hj => ?_⟩
      rw [vu_at, vu_at]
      by_cases j0 : j < t
      · rw [cf_out _ _ (by omega), cf_out _ _ (by omega), cf_out _ _ (by omega), cf_out _ _ (by omega), cf_out _ _ (by omega), cf_out _ _ (by omega)]
        exact t4 j j0
      rw [cf_in (A 2) _ (by omega)]
      refine ⟨?_, ?_⟩
      · by_cases j4 : j < t + 4
        · rw [cf_out _ _ (by omega), cf_out _ _ (by omega), cf_out _ _ (by omega), cf_out _ _ (by omega), cf_in _ _ (by omega)]
          exact bB_mV a b c d e a (by unfold fW; rw [if_pos (by omega)]) (by omega)
        by_cases j8 : j < t + 8
        · rw [cf_out _ _ (by omega), cf_out _ _ (by omega), cf_out _ _ (by omega), cf_in _ _ (by omega)]
          exact bB_mV a b c d e b (by unfold fW; rw [if_neg (by omega), if_pos (by omega)]) (by omega)
        by_cases j12 : j < t + 12
        · rw [cf_out _ _ (by omega), cf_out _ _ (by omega), cf_in _ _ (by omega)]
          exact bB_mV a b c d e c (by unfold fW; rw [if_neg (by omega), if_neg (by omega), if_pos (by omega)]) (by omega)
        by_cases j16 : j < t + 16
        · rw [cf_out _ _ (by omega), cf_in _ _ (by omega)]
          exact bB_mV a b c d e d (by unfold fW; rw [if_neg (by omega), if_neg (by omega), if_neg (by omega), if_pos (by omega)]) (by omega)
        · rw [cf_in _ _ (by omega)]
          exact bB_mV a b c d e e (by unfold fW; rw [if_neg (by omega), if_neg (by omega), if_neg (by omega), if_neg (by omega)]) (by omega)
      · obtain ⟨v, v1, v2⟩ := pk_andE (fW a b c d e (j - t) >>> (nI (8 * (3 - (j - t) % 4)) &&& 31)) (m := 255) 8 (by decide)
        exact ⟨v, v2, v1⟩
    · rw [up_ne _ _ (by decide), up_ne _ _ (by decide), up_ne _ _ (by decide), up_ne _ _ (by decide)]
      exact i8
  · refine OPo.same H (r := -1) (bS (cg0_1 hl) (bS (cg2_1 hl) (iF (by rw [t1, la_r]; exact nI_ge (a := 1000) (by omega) (by omega)) rfl))) (bS (mg3 hl) (iF (by rw [t2, la_r]; exact nI_ge (a := 1000) (by omega) (by omega)) rfl))
