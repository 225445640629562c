/-! ===== room, and the first calls ===== -/
theorem zsl_map : ∀ l : zH, zsl l = (l.map zsz).sum
  | [] => rfl
  | e :: l => by rw [zsl, zsl_map l, List.map_cons, List.sum_cons]
theorem zsl_app (a b : zH) : zsl (a ++ b) = zsl a + zsl b := by
  rw [zsl_map, zsl_map, zsl_map, List.map_append, List.sum_append]
theorem zsl_same {a b : zH} (h : a.map zsz = b.map zsz) : zsl a = zsl b := by rw [zsl_map, zsl_map, h]
theorem cC_sz {KI KI' : Nat → Int32} {KR KR' : Nat → Option Nat} {KA KA' : Nat → Nat → Int32} {KP KP' : Nat → Option Nat} {k : Nat} {e : zE} (hk : cC KI' KR' KA' KP' k = some e) : ∃ e0, cC KI KR KA KP k = some e0 ∧ zsz e = zsz e0 := by
  unfold cC at hk ⊢
  split at hk <;> first | (cases hk; exact ⟨_, rfl, rfl⟩) | cases hk
theorem mC_sz {I I' : Nat → Int32} {A A' : Nat → Nat → Int32} {k : Nat} {e : zE} (hk : mC I' A' k = some e) : ∃ e0, mC I A k = some e0 ∧ zsz e = zsz e0 := by
  unfold mC at hk ⊢
  split at hk <;> first | (cases hk; exact ⟨_, rfl, rfl⟩) | cases hk
theorem zsl_cp {h : zH} {ns : List zE} {KI KI' : Nat → Int32} {KR KR' : Nat → Option Nat} {KA KA' : Nat → Nat → Int32} {KP KP' : Nat → Option Nat} (q : CH h KI KR KA KP) : zsl (cp (h ++ ns) KI' KR' KA' KP') = zsl h + zsl ns := by
  rw [← zsl_app]
  apply zsl_same
  apply List.ext_getElem?
  intro i
  rw [List.getElem?_map, List.getElem?_map]
  cases hn : cC KI' KR' KA' KP' i with
  | none => rw [cp_out hn]
  | some e =>
    obtain ⟨e0, h1, h2⟩ := cC_sz (KI := KI) (KR := KR) (KA := KA) (KP := KP) hn
    have h3 := q i e0 h1
    have h4 : (h ++ ns)[i]? = some e0 := by
      rw [List.getElem?_append_left (List.getElem?_eq_some_iff.mp h3).1]
      exact h3
    rw [cp, List.getElem?_mapIdx, h4, hn]
    simp [h2]
theorem zsl_mp {h : zH} {I I' : Nat → Int32} {A A' : Nat → Nat → Int32} (q : MH h I A) : zsl (mp h I' A') = zsl h := by
  apply zsl_same
  apply List.ext_getElem?
  intro i
  rw [List.getElem?_map, List.getElem?_map]
  cases hn : mC I' A' i with
  | none => rw [mp_out hn]
  | some e =>
    obtain ⟨e0, h1, h2⟩ := mC_sz (I := I) (A := A) hn
    rw [mp, List.getElem?_mapIdx, q i e0 h1, hn]
    simp [h2]
def INX (h : zH) : Prop := ∃ KI KR KA KP I A c q, IN h KI KR KA KP I A c q
/-- what a call of the law must do: both answer r, and the invariant comes back, in the room of a call -/
def OPo (fx fm : zH → Option (Int32 × zH)) (h : zH) : Prop := ∃ r h1 h2, fx h = some (r, h1) ∧ fm h1 = some (r, h2) ∧ INX h2 ∧ h2.length ≤ h.length + 100 ∧ zsl h2 ≤ zsl h + 3000 ∧ zck h1 12 (some 27) = some 27
theorem MH.ck {h : zH} {I : Nat → Int32} {A : Nat → Nat → Int32} (q : MH h I A) (hl : 46 ≤ h.length) : zck h 12 (some 27) = some 27 := by
  have := mck (I := I) (A := A) hl
  rwa [q.eq] at this
def OPr (fx fm : zH → Option Int32) (h : zH) : Prop := ∃ r, fx h = some r ∧ fm h = some r
theorem tpR.cg {KI KI' : Nat → Int32} {KA KA' : Nat → Nat → Int32} {I I' : Nat → Int32} {A A' : Nat → Nat → Int32} (q : tpR KI KA I A) (h1 : KI' 1 = KI 1) (h2 : I' 3 = I 3) (h3 : KA' 3 = KA 3) (h4 : A' 2 = A 2) : tpR KI' KA' I' A' := by
  unfold tpR
  rw [h1, h2, h3, h4]
  exact q
theorem qvR.cg {KI KI' : Nat → Int32} {KA KA' : Nat → Nat → Int32} {I I' : Nat → Int32} {A A' : Nat → Nat → Int32} (q : qvR KI KA I A) (h1 : KI' 2 = KI 2) (h2 : I' 23 = I 23) (h3 : KA' 14 = KA 14) (h4 : KA' 15 = KA 15) (h5 : KA' 16 = KA 16) (h6 : A' 24 = A 24) (h7 : A' 25 = A 25) (h8 : A' 26 = A 26) : qvR KI' KA' I' A' := by
  unfold qvR
  rw [h1, h2, h3, h4, h5, h6, h7, h8]
  exact q
theorem c_undo0 {h : zH} {KI : Nat → Int32} {KR : Nat → Option Nat} {KA : Nat → Nat → Int32} {KP : Nat → Option Nat} {N : Nat} (hl : 46 ≤ h.length) (hI : KI 0 = nI 0) : f_X11_undo N 0 (cp h KI KR KA KP) = some (-1, cp h KI KR KA KP) := by
  unfold f_X11_undo
  rw [cg0_4 hl, Option.bind_some, hI, if_neg (by decide)]
theorem c_undo {h : zH} {KI : Nat → Int32} {KR : Nat → Option Nat} {KA : Nat → Nat → Int32} {KP : Nat → Option Nat} {N c : Nat} (hl : 46 ≤ h.length) (hc : c < 4) (hI : KI 0 = nI (c + 1)) : f_X11_undo N 0 (cp h KI KR KA KP) = some (nI c, cp h (upd KI 0 (nI c)) (va_up KR 0 (KP c)) KA KP) := by
  unfold f_X11_undo
  rw [cg0_4 hl, Option.bind_some, hI, if_pos (show (0 : Int32) < nI (c + 1) from nI_lt (a := 0) (by omega) (by omega)), Option.bind_some, nI_pred, cu0_4 hl, Option.bind_some, cg0_3 hl, Option.bind_some, cg0_4 hl, Option.bind_some, up_at, cl18 hl hc, Option.bind_some, cu0_5 hl, Option.bind_some, cg0_4 hl, Option.bind_some, up_at]
theorem op_undo {h : zH} {N : Nat} (hN : 21000 ≤ N) (H : INX h) : OPo (f_X11_undo N 0) (f_X12_undo N 27) h := by
  obtain ⟨KI, KR, KA, KP, I, A, c, q, H⟩ := H
  obtain ⟨hl, hC, hM, i1, i2, i3, i4, i5, i6, i7, i8, i9⟩ := id H
  have eC := hC.eq
  have eM := hM.eq
  cases c with
  | zero =>
    refine ⟨-1, h, h, ?_, ?_, ⟨KI, KR, KA, KP, I, A, 0, q, H⟩, by omega, by omega, hM.ck hl⟩
    · have := c_undo0 (N := N) (KR := KR) (KA := KA) (KP := KP) hl i1
      rw [eC] at this
      exact this
    · have := m_undo_0 (N := N) (A := A) hl i2
      rw [eM] at this
      exact this
  | succ c =>
    obtain ⟨p, e1, e2⟩ := i6 c (by omega)
    have x1 := c_undo (N := N) (KR := KR) (KA := KA) (KP := KP) hl (by omega) i1
    rw [eC, e1] at x1
    have e0 : cp h (upd KI 0 (nI c)) (va_up KR 0 (some p)) KA KP = cp (h ++ []) (upd KI 0 (nI c)) (va_up KR 0 (some p)) KA KP := by rw [List.append_nil]
    have hM2 : MH (cp (h ++ []) (upd KI 0 (nI c)) (va_up KR 0 (some p)) KA KP) I A := hM.cp
    have hl2 : 46 ≤ (cp (h ++ []) (upd KI 0 (nI c)) (va_up KR 0 (some p)) KA KP).length := by rw [cp_len]; simpa using hl
    have x2 := m_undo (N := N) (h := cp (h ++ []) (upd KI 0 (nI c)) (va_up KR 0 (some p)) KA KP) (A := A) hl2 (by omega) (by omega) i2
    rw [hM2.eq] at x2
    have kk : kept h (mp (cp (h ++ []) (upd KI 0 (nI c)) (va_up KR 0 (some p)) KA KP) (upd I 1 (nI c)) (va_up A 0 (bkD (A 0) (c + 1) 6898))) := kept.cp.tr kept.mp
    refine ⟨nI c, _, _, x1, by rw [e0]; exact x2, ⟨upd KI 0 (nI c), va_up KR 0 (some p), KA, KP, upd I 1 (nI c), va_up A 0 (bkD (A 0) (c + 1) 6898), c, p, ?_⟩, ?_, ?_, by rw [e0]; exact hM2.ck hl2⟩
    · refine ⟨by rw [mp_len]; exact hl2, (CH.of (by simpa using hl)).mp, MH.of hl2, up_at _ _ _, up_at _ _ _, by omega, vu_at _ _ _, ?_, ?_, i7.cg (up_ne _ _ (by decide)) (up_ne _ _ (by decide)) rfl (vu_ne _ _ (by decide)), ?_, i9.cg (up_ne _ _ (by decide)) (up_ne _ _ (by decide)) rfl rfl rfl (vu_ne _ _ (by decide)) (vu_ne _ _ (by decide)) (vu_ne _ _ (by decide))⟩
      · rw [vu_at, seg_bk0]
        exact e2.mono kk
      · intro i hi
        obtain ⟨p2, e3, e4⟩ := i6 i (by omega)
        refine ⟨p2, e3, ?_⟩
        rw [vu_at, seg_bki _ (by omega)]
        exact e4.mono kk
      · rw [up_ne _ _ (by decide), up_ne _ _ (by decide), up_ne _ _ (by decide), up_ne _ _ (by decide)]
        exact i8
    · rw [mp_len, cp_len, List.append_nil]; omega
    · rw [zsl_mp hM2, zsl_cp hC]
      show zsl h + 0 ≤ _
      omega
