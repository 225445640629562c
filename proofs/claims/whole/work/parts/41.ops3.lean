/-! ===== calls that change no State: end, fault, state ===== -/
theorem OPo.mut {fx fm : zH → Option (Int32 × zH)} {h : zH} {KI KI' : Nat → Int32} {KR KR' : Nat → Option Nat} {KA KA' : Nat → Nat → Int32} {KP : Nat → Option Nat} {I I' : Nat → Int32} {A A' : Nat → Nat → Int32} {c q : Nat} (H : IN h KI KR KA KP I A c q) {r : Int32} {ns : List zE}
    (hx : fx (cp h KI KR KA KP) = some (r, cp (h ++ ns) KI' KR' KA' KP)) (hm : ∀ h1 : zH, 46 ≤ h1.length → fm (mp h1 I A) = some (r, mp h1 I' A')) (e1 : KI' 0 = KI 0) (e2 : I' 1 = I 1) (e3 : A' 0 = A 0) (e4 : KR' 0 = KR 0)
    (hT : tpR KI' KA' I' A') (hF : KI' 15 = I' 11 ∧ KI' 16 = I' 12) (hQ : qvR KI' KA' I' A') (hn : ns.length ≤ 100) (hz : zsl ns ≤ 3000) : OPo fx fm h := by
  obtain ⟨hl, hC, hM, i1, i2, i3, i4, i5, i6, i7, i8, i9⟩ := id H
  rw [hC.eq] at hx
  have hM2 : MH (cp (h ++ ns) KI' KR' KA' KP) I A := hM.cp
  have hl2 : 46 ≤ (cp (h ++ ns) KI' KR' KA' KP).length := by rw [n_len]; omega
  have x2 := hm _ hl2
  rw [hM2.eq] at x2
  have kk : kept h (mp (cp (h ++ ns) KI' KR' KA' KP) I' A') := kept.cp.tr kept.mp
  refine ⟨r, _, _, hx, x2, ⟨KI', KR', KA', KP, I', A', c, q, by rw [mp_len]; exact hl2, (CH.of (by rw [List.length_append]; omega)).mp, MH.of hl2, e1.trans i1, e2.trans i2, i3, e4.trans i4, by rw [e3]; exact i5.mono kk, fun i hi => ?_, hT, hF, hQ⟩, ?_, ?_, hM2.ck hl2⟩
  · obtain ⟨p, x3, x4⟩ := i6 i hi
    exact ⟨p, x3, by rw [e3]; exact x4.mono kk⟩
  · rw [mp_len, n_len]; omega
  · rw [zsl_mp hM2, zsl_cp hC]; omega
theorem op_end {h : zH} {N : Nat} (H : INX h) (x : Int32) : OPo (f_X11_end N 0 x) (f_X12_end N 27 x) h := by
  obtain ⟨KI, KR, KA, KP, I, A, c, q, H⟩ := H
  obtain ⟨hl, hC, hM, i1, i2, i3, i4, i5, i6, ⟨t, t1, t2, t3, t4⟩, i8, i9⟩ := id H
  by_cases h1 : x < 0
  · refine OPo.same H (r := 0) ?_ ?_
    · unfold f_X11_end; rw [if_pos h1]
    · unfold f_X12_end; rw [if_pos h1]
  obtain ⟨j, hj, rfl⟩ := nI_of h1
  by_cases h2 : nI j ≤ nI t
  · have hjt : j ≤ t := (nI_leI hj (by omega)).mp h2
    refine OPo.mut H (r := 1) (ns := []) (KI' := upd KI 1 (nI j)) (KR' := KR) (KA' := KA) (I' := upd I 3 (nI j)) (A' := A) ?_ (fun h1' hl1 => ?_) (up_ne _ _ (by decide)) (up_ne _ _ (by decide)) rfl rfl ?_ ?_ (i9.cg (up_ne _ _ (by decide)) (up_ne _ _ (by decide)) rfl rfl rfl rfl rfl rfl) (by simp) (by simp [zsl])
    · unfold f_X11_end
      rw [if_neg h1, cg0_1 hl, Option.bind_some, cg2_1 hl, Option.bind_some, t1, if_pos h2, Option.bind_some, cu2_1 hl, Option.bind_some, List.append_nil]
    · unfold f_X12_end
      rw [if_neg h1, mg3 hl1, Option.bind_some, t2, if_pos h2, mu3 hl1, Option.bind_some]
    · exact ⟨j, up_at _ _ _, up_at _ _ _, by omega, fun i hi => t4 i (by omega)⟩
    · rw [up_ne _ _ (by decide), up_ne _ _ (by decide), up_ne _ _ (by decide), up_ne _ _ (by decide)]
      exact i8
  · refine OPo.same H (r := 0) ?_ ?_
    · unfold f_X11_end
      rw [if_neg h1, cg0_1 hl, Option.bind_some, cg2_1 hl, Option.bind_some, t1, if_neg h2]
    · unfold f_X12_end
      rw [if_neg h1, mg3 hl, Option.bind_some, t2, if_neg h2]
theorem OPr.of {fx fm : zH → Option Int32} {h : zH} {KI : Nat → Int32} {KR : Nat → Option Nat} {KA : Nat → Nat → Int32} {KP : Nat → Option Nat} {I : Nat → Int32} {A : Nat → Nat → Int32} {c q : Nat} (H : IN h KI KR KA KP I A c q) {r : Int32} (hx : fx (cp h KI KR KA KP) = some r) (hm : fm (mp h I A) = some r) : OPr fx fm h := by
  rw [H.2.1.eq] at hx
  rw [H.2.2.1.eq] at hm
  exact ⟨r, hx, hm⟩
theorem op_fault {h : zH} {N : Nat} (H : INX h) (x : Int32) : OPr (f_X11_fault N 0 x) (f_X12_fault N 27 x) h := by
  obtain ⟨KI, KR, KA, KP, I, A, c, q, H⟩ := H
  obtain ⟨hl, hC, hM, i1, i2, i3, i4, i5, i6, i7, i8, i9⟩ := id H
  by_cases h1 : x = 0
  · refine OPr.of H (r := I 11) ?_ ?_
    · unfold f_X11_fault
      rw [if_pos h1, cg0_0 hl, Option.bind_some, cg1_5 hl, Option.bind_some, i8.1]
    · unfold f_X12_fault
      rw [if_pos h1, mg11 hl, Option.bind_some]
  by_cases h2 : x = 1
  · refine OPr.of H (r := I 12) ?_ ?_
    · unfold f_X11_fault
      rw [if_neg h1, if_pos h2, cg0_0 hl, Option.bind_some, cg1_6 hl, Option.bind_some, i8.2]
    · unfold f_X12_fault
      rw [if_neg h1, if_pos h2, mg12 hl, Option.bind_some]
  · refine OPr.of H (r := -1) ?_ ?_
    · unfold f_X11_fault
      rw [if_neg h1, if_neg h2]
    · unfold f_X12_fault
      rw [if_neg h1, if_neg h2]
