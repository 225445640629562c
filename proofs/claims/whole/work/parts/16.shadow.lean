theorem dX11_value_0 : decode cX11_value 0 = .ok (.aload_n 0, 1) := by decide +kernel
theorem dX11_value_1 : decode cX11_value 1 = .ok (.getfield 39, 3) := by decide +kernel
theorem dX11_value_4 : decode cX11_value 4 = .ok (.iload_n 1, 1) := by decide +kernel
theorem dX11_value_5 : decode cX11_value 5 = .ok (.invokevirtual 101, 3) := by decide +kernel
theorem dX11_value_8 : decode cX11_value 8 = .ok (.astore_n 3, 1) := by decide +kernel
theorem dX11_value_9 : decode cX11_value 9 = .ok (.aload_n 3, 1) := by decide +kernel
theorem dX11_value_10 : decode cX11_value 10 = .ok (.ifnonnull 7, 3) := by decide +kernel
theorem dX11_value_13 : decode cX11_value 13 = .ok (.iconst (-1), 1) := by decide +kernel
theorem dX11_value_14 : decode cX11_value 14 = .ok (.goto 11, 3) := by decide +kernel
theorem dX11_value_17 : decode cX11_value 17 = .ok (.aload_n 3, 1) := by decide +kernel
theorem dX11_value_18 : decode cX11_value 18 = .ok (.getfield 118, 3) := by decide +kernel
theorem dX11_value_21 : decode cX11_value 21 = .ok (.iload_n 2, 1) := by decide +kernel
theorem dX11_value_22 : decode cX11_value 22 = .ok (.invokevirtual 173, 3) := by decide +kernel
theorem dX11_value_25 : decode cX11_value 25 = .ok (.ireturn, 1) := by decide +kernel
def f_X11_value (N : Nat) (l0 : Nat) (l1 : Int32) (l2 : Int32) (h : zH) : Option Int32 := (zgR h 11 (some l0) 5).bind fun x1 => (zck h 9 x1).bind fun q1 => (f_X9_find N q1 l1 h).bind fun x2 => if x2 = none then some ((-1) : Int32) else (zgR h 0 x2 1).bind fun x3 => (zck h 8 x3).bind fun q2 => (f_X8_counted N q2 l2 h).bind fun x4 => some x4
set_option maxHeartbeats 4000000 in
set_option maxRecDepth 100000 in
theorem s_X11_value {g : zG} (hg : g.2.1.map (fun q => q.2) = zty) {h0 : zH} (N : Nat) (l0 : Nat) (l1 : Int32) (l2 : Int32) (h : zH) (r : Int32) (hf : f_X11_value N l0 l1 l2 h = some r) : zR g jX11_value h0 0 [some (zr (some l0)), some (zi l1), some (zi l2), none] [] h (some (zi r)) h := by
  unfold f_X11_value at hf
  refine zr_aload_n (v := .inl (some l0)) dX11_value_0 rfl rfl ?_
  revert hf; refine zbi (fun x1 e_x1 hf => ?_)
  refine zq_getR kg_332 dX11_value_1 e_x1 ?_
  refine zr_iload_n (x := l1) dX11_value_4 rfl rfl ?_
  revert hf; refine zbi (fun q1 e_q1 hf => ?_)
  revert hf; refine zbi (fun x2 e_x2 hf => ?_)
  refine zq_callV (J' := jX9_find) (as := [zi l1]) (rest := []) (r1 := (some (zr x2))) (q := (RX9, TX9, 5)) kw_452 km_X9_find kt_401 dX11_value_5 rfl (Nat.le_of_ble_eq_true rfl) rfl rfl e_q1 rfl (c_X9_find hg e_x2) ?_
  refine zq_astore_n (v := .inl x2) (L' := [some (zr (some l0)), some (zi l1), some (zi l2), some (zr x2)]) dX11_value_8 rfl (by decide) rfl ?_
  refine zr_aload_n (v := .inl x2) dX11_value_9 rfl rfl ?_
  by_cases hc1 : x2 = none
  · rw [if_pos hc1] at hf
    refine zr_ifnonnull_f dX11_value_10 hc1 ?_
    refine zr_iconst (v := ((-1) : Int32)) dX11_value_13 (by decide) ?_
    refine zr_goto (tgt := 25) dX11_value_14 (by decide) ?_
    cases hf
    exact zr_ret _ rfl dX11_value_25
  · rw [if_neg hc1] at hf
    refine zr_ifnonnull_t (tgt := 17) dX11_value_10 (by decide) hc1 ?_
    refine zr_aload_n (v := .inl x2) dX11_value_17 rfl rfl ?_
    revert hf; refine zbi (fun x3 e_x3 hf => ?_)
    refine zq_getR kg_371 dX11_value_18 e_x3 ?_
    refine zr_iload_n (x := l2) dX11_value_21 rfl rfl ?_
    revert hf; refine zbi (fun q2 e_q2 hf => ?_)
    revert hf; refine zbi (fun x4 e_x4 hf => ?_)
    refine zq_callV (J' := jX8_counted) (as := [zi l2]) (rest := []) (r1 := (some (zi x4))) (q := (RX8, TX8, 3)) kw_500 km_X8_counted kt_403 dX11_value_22 rfl (Nat.le_of_ble_eq_true rfl) rfl rfl e_q2 rfl (c_X8_counted hg e_x4) ?_
    cases hf
    exact zr_ret _ rfl dX11_value_25
theorem c_X11_value {g : zG} (hg : g.2.1.map (fun q => q.2) = zty) {N : Nat} {l0 : Nat} {l1 : Int32} {l2 : Int32} {h : zH} {r : Int32} (hf : f_X11_value N l0 l1 l2 h = some r) : zCa g jX11_value [zr (some l0), zi l1, zi l2] h (some (zi r)) h :=
  zCa.of hg (by decide +kernel) (Nat.le_of_ble_eq_true rfl) (s_X11_value hg N l0 l1 l2 h r hf)
theorem dX11_take_0 : decode cX11_take 0 = .ok (.aload_n 0, 1) := by decide +kernel
theorem dX11_take_1 : decode cX11_take 1 = .ok (.getfield 39, 3) := by decide +kernel
theorem dX11_take_4 : decode cX11_take 4 = .ok (.iload_n 1, 1) := by decide +kernel
theorem dX11_take_5 : decode cX11_take 5 = .ok (.invokevirtual 101, 3) := by decide +kernel
theorem dX11_take_8 : decode cX11_take 8 = .ok (.astore_n 2, 1) := by decide +kernel
theorem dX11_take_9 : decode cX11_take 9 = .ok (.aload_n 2, 1) := by decide +kernel
theorem dX11_take_10 : decode cX11_take 10 = .ok (.ifnull 23, 3) := by decide +kernel
theorem dX11_take_13 : decode cX11_take 13 = .ok (.aload_n 0, 1) := by decide +kernel
theorem dX11_take_14 : decode cX11_take 14 = .ok (.getfield 39, 3) := by decide +kernel
theorem dX11_take_17 : decode cX11_take 17 = .ok (.getfield 60, 3) := by decide +kernel
theorem dX11_take_20 : decode cX11_take 20 = .ok (.ifnull 13, 3) := by decide +kernel
theorem dX11_take_23 : decode cX11_take 23 = .ok (.aload_n 2, 1) := by decide +kernel
theorem dX11_take_24 : decode cX11_take 24 = .ok (.getfield 118, 3) := by decide +kernel
theorem dX11_take_27 : decode cX11_take 27 = .ok (.invokevirtual 122, 3) := by decide +kernel
theorem dX11_take_30 : decode cX11_take 30 = .ok (.ifCond .ne 5, 3) := by decide +kernel
theorem dX11_take_33 : decode cX11_take 33 = .ok (.iconst (-1), 1) := by decide +kernel
theorem dX11_take_34 : decode cX11_take 34 = .ok (.ireturn, 1) := by decide +kernel
theorem dX11_take_35 : decode cX11_take 35 = .ok (.aload_n 2, 1) := by decide +kernel
theorem dX11_take_36 : decode cX11_take 36 = .ok (.getfield 118, 3) := by decide +kernel
theorem dX11_take_39 : decode cX11_take 39 = .ok (.invokevirtual 122, 3) := by decide +kernel
theorem dX11_take_42 : decode cX11_take 42 = .ok (.iconst 1, 1) := by decide +kernel
theorem dX11_take_43 : decode cX11_take 43 = .ok (.isub, 1) := by decide +kernel
theorem dX11_take_44 : decode cX11_take 44 = .ok (.istore_n 3, 1) := by decide +kernel
theorem dX11_take_45 : decode cX11_take 45 = .ok (.aload_n 0, 1) := by decide +kernel
theorem dX11_take_46 : decode cX11_take 46 = .ok (.getfield 39, 3) := by decide +kernel
theorem dX11_take_49 : decode cX11_take 49 = .ok (.getfield 60, 3) := by decide +kernel
theorem dX11_take_52 : decode cX11_take 52 = .ok (.aload_n 0, 1) := by decide +kernel
theorem dX11_take_53 : decode cX11_take 53 = .ok (.getfield 39, 3) := by decide +kernel
theorem dX11_take_56 : decode cX11_take 56 = .ok (.getfield 60, 3) := by decide +kernel
theorem dX11_take_59 : decode cX11_take 59 = .ok (.iload_n 3, 1) := by decide +kernel
theorem dX11_take_60 : decode cX11_take 60 = .ok (.invokevirtual 151, 3) := by decide +kernel
theorem dX11_take_63 : decode cX11_take 63 = .ok (.invokevirtual 154, 3) := by decide +kernel
theorem dX11_take_66 : decode cX11_take 66 = .ok (.istore 4, 2) := by decide +kernel
theorem dX11_take_68 : decode cX11_take 68 = .ok (.aload_n 0, 1) := by decide +kernel
theorem dX11_take_69 : decode cX11_take 69 = .ok (.invokevirtual 56, 3) := by decide +kernel
theorem dX11_take_72 : decode cX11_take 72 = .ok (.iload_n 1, 1) := by decide +kernel
theorem dX11_take_73 : decode cX11_take 73 = .ok (.aload_n 2, 1) := by decide +kernel
theorem dX11_take_74 : decode cX11_take 74 = .ok (.aload_n 2, 1) := by decide +kernel
theorem dX11_take_75 : decode cX11_take 75 = .ok (.getfield 118, 3) := by decide +kernel
theorem dX11_take_78 : decode cX11_take 78 = .ok (.iload 4, 2) := by decide +kernel
theorem dX11_take_80 : decode cX11_take 80 = .ok (.invokevirtual 176, 3) := by decide +kernel
theorem dX11_take_83 : decode cX11_take 83 = .ok (.invokevirtual 169, 3) := by decide +kernel
theorem dX11_take_86 : decode cX11_take 86 = .ok (.invokevirtual 97, 3) := by decide +kernel
theorem dX11_take_89 : decode cX11_take 89 = .ok (.iload_n 3, 1) := by decide +kernel
theorem dX11_take_90 : decode cX11_take 90 = .ok (.ireturn, 1) := by decide +kernel
def f_X11_take (N : Nat) (l0 : Nat) (l1 : Int32) (h : zH) : Option (Int32 × zH) := (zgR h 11 (some l0) 5).bind fun x1 => (zck h 9 x1).bind fun q1 => (f_X9_find N q1 l1 h).bind fun x2 => if x2 = none then some (((-1) : Int32), h) else (zgR h 11 (some l0) 5).bind fun x3 => (zgR h 9 x3 0).bind fun x4 => if x4 = none then some (((-1) : Int32), h) else (zgR h 0 x2 1).bind fun x5 => (zck h 8 x5).bind fun q2 => (f_X8_countEnds N q2 h).bind fun x6 => if x6 = 0 then some (((-1) : Int32), h) else (zgR h 0 x2 1).bind fun x7 => (zck h 8 x7).bind fun q3 => (f_X8_countEnds N q3 h).bind fun x8 => (zgR h 11 (some l0) 5).bind fun x9 => (zgR h 9 x9 0).bind fun x10 => (zgR h 11 (some l0) 5).bind fun x11 => (zgR h 9 x11 0).bind fun x12 => (zck h 6 x12).bind fun q4 => (f_X6_legOf N q4 (x8 - (1 : Int32)) h).bind fun x13 => (zck h 6 x10).bind fun q5 => (f_X6_arrowsOf N q5 x13 h).bind fun x14 => (zck h 11 (some l0)).bind fun q6 => zb2 (f_X11_change N q6 h) fun x15 h1 => (zgR h1 0 x2 1).bind fun x16 => (zck h1 8 x16).bind fun q7 => zb2 (f_X8_withoutLast N q7 x14 h1) fun x17 h2 => (zck h2 0 x2).bind fun q8 => zb2 (f_X0_with N q8 x17 h2) fun x18 h3 => (zck h3 9 x15).bind fun q9 => (f_X9_put N q9 l1 x18 h3).bind fun h4 => some ((x8 - (1 : Int32)), h4)
set_option maxHeartbeats 4000000 in
set_option maxRecDepth 100000 in
theorem s_X11_take {g : zG} (hg : g.2.1.map (fun q => q.2) = zty) {h0 : zH} (N : Nat) (l0 : Nat) (l1 : Int32) (h : zH) (r : Int32) (h' : zH) (hf : f_X11_take N l0 l1 h = some (r, h')) : zR g jX11_take h0 0 [some (zr (some l0)), some (zi l1), none, none, none] [] h (some (zi r)) h' := by
  unfold f_X11_take at hf
  refine zr_aload_n (v := .inl (some l0)) dX11_take_0 rfl rfl ?_
  revert hf; refine zbi (fun x1 e_x1 hf => ?_)
  refine zq_getR kg_332 dX11_take_1 e_x1 ?_
  refine zr_iload_n (x := l1) dX11_take_4 rfl rfl ?_
  revert hf; refine zbi (fun q1 e_q1 hf => ?_)
  revert hf; refine zbi (fun x2 e_x2 hf => ?_)
  refine zq_callV (J' := jX9_find) (as := [zi l1]) (rest := []) (r1 := (some (zr x2))) (q := (RX9, TX9, 5)) kw_452 km_X9_find kt_404 dX11_take_5 rfl (Nat.le_of_ble_eq_true rfl) rfl rfl e_q1 rfl (c_X9_find hg e_x2) ?_
  refine zq_astore_n (v := .inl x2) (L' := [some (zr (some l0)), some (zi l1), some (zr x2), none, none]) dX11_take_8 rfl (by decide) rfl ?_
  refine zr_aload_n (v := .inl x2) dX11_take_9 rfl rfl ?_
  by_cases hc1 : x2 = none
  · rw [if_pos hc1] at hf
    refine zr_ifnull_t (tgt := 33) dX11_take_10 (by decide) hc1 ?_
    refine zr_iconst (v := ((-1) : Int32)) dX11_take_33 (by decide) ?_
    cases hf
    exact zr_ret _ rfl dX11_take_34
  · rw [if_neg hc1] at hf
    refine zr_ifnull_f dX11_take_10 hc1 ?_
    refine zr_aload_n (v := .inl (some l0)) dX11_take_13 rfl rfl ?_
    revert hf; refine zbi (fun x3 e_x3 hf => ?_)
    refine zq_getR kg_332 dX11_take_14 e_x3 ?_
    revert hf; refine zbi (fun x4 e_x4 hf => ?_)
    refine zq_getR kg_347 dX11_take_17 e_x4 ?_
    by_cases hc2 : x4 = none
    · rw [if_pos hc2] at hf
      refine zr_ifnull_t (tgt := 33) dX11_take_20 (by decide) hc2 ?_
      refine zr_iconst (v := ((-1) : Int32)) dX11_take_33 (by decide) ?_
      cases hf
      exact zr_ret _ rfl dX11_take_34
    · rw [if_neg hc2] at hf
      refine zr_ifnull_f dX11_take_20 hc2 ?_
      refine zr_aload_n (v := .inl x2) dX11_take_23 rfl rfl ?_
      revert hf; refine zbi (fun x5 e_x5 hf => ?_)
      refine zq_getR kg_371 dX11_take_24 e_x5 ?_
      revert hf; refine zbi (fun q2 e_q2 hf => ?_)
      revert hf; refine zbi (fun x6 e_x6 hf => ?_)
      refine zq_callV (J' := jX8_countEnds) (as := []) (rest := []) (r1 := (some (zi x6))) (q := (RX8, TX8, 3)) kw_460 km_X8_countEnds kt_405 dX11_take_27 rfl (Nat.le_of_ble_eq_true rfl) rfl rfl e_q2 rfl (c_X8_countEnds hg e_x6) ?_
      by_cases hc3 : x6 = 0
      · rw [if_pos hc3] at hf
        refine zr_ifne_f 35 dX11_take_30 (by decide) hc3 ?_
        refine zr_iconst (v := ((-1) : Int32)) dX11_take_33 (by decide) ?_
        cases hf
        exact zr_ret _ rfl dX11_take_34
      · rw [if_neg hc3] at hf
        refine zr_ifne_t (tgt := 35) dX11_take_30 (by decide) hc3 ?_
        refine zr_aload_n (v := .inl x2) dX11_take_35 rfl rfl ?_
        revert hf; refine zbi (fun x7 e_x7 hf => ?_)
        refine zq_getR kg_371 dX11_take_36 e_x7 ?_
        revert hf; refine zbi (fun q3 e_q3 hf => ?_)
        revert hf; refine zbi (fun x8 e_x8 hf => ?_)
        refine zq_callV (J' := jX8_countEnds) (as := []) (rest := []) (r1 := (some (zi x8))) (q := (RX8, TX8, 3)) kw_460 km_X8_countEnds kt_405 dX11_take_39 rfl (Nat.le_of_ble_eq_true rfl) rfl rfl e_q3 rfl (c_X8_countEnds hg e_x8) ?_
        refine zr_iconst (v := (1 : Int32)) dX11_take_42 (by decide) ?_
        refine zr_isub dX11_take_43 ?_
        refine zq_istore_n (x := (x8 - (1 : Int32))) (L' := [some (zr (some l0)), some (zi l1), some (zr x2), some (zi (x8 - (1 : Int32))), none]) dX11_take_44 rfl (by decide) rfl ?_
        refine zr_aload_n (v := .inl (some l0)) dX11_take_45 rfl rfl ?_
        revert hf; refine zbi (fun x9 e_x9 hf => ?_)
        refine zq_getR kg_332 dX11_take_46 e_x9 ?_
        revert hf; refine zbi (fun x10 e_x10 hf => ?_)
        refine zq_getR kg_347 dX11_take_49 e_x10 ?_
        refine zr_aload_n (v := .inl (some l0)) dX11_take_52 rfl rfl ?_
        revert hf; refine zbi (fun x11 e_x11 hf => ?_)
        refine zq_getR kg_332 dX11_take_53 e_x11 ?_
        revert hf; refine zbi (fun x12 e_x12 hf => ?_)
        refine zq_getR kg_347 dX11_take_56 e_x12 ?_
        refine zr_iload_n (x := (x8 - (1 : Int32))) dX11_take_59 rfl rfl ?_
        revert hf; refine zbi (fun q4 e_q4 hf => ?_)
        revert hf; refine zbi (fun x13 e_x13 hf => ?_)
        refine zq_callV (J' := jX6_legOf) (as := [zi (x8 - (1 : Int32))]) (rest := [zr x10]) (r1 := (some (zi x13))) (q := (RX6, TX6, 11)) kw_482 km_X6_legOf kt_406 dX11_take_60 rfl (Nat.le_of_ble_eq_true rfl) rfl rfl e_q4 rfl (c_X6_legOf hg e_x13) ?_
        revert hf; refine zbi (fun q5 e_q5 hf => ?_)
        revert hf; refine zbi (fun x14 e_x14 hf => ?_)
        refine zq_callV (J' := jX6_arrowsOf) (as := [zi x13]) (rest := []) (r1 := (some (zi x14))) (q := (RX6, TX6, 11)) kw_486 km_X6_arrowsOf kt_407 dX11_take_63 rfl (Nat.le_of_ble_eq_true rfl) rfl rfl e_q5 rfl (c_X6_arrowsOf hg e_x14) ?_
        refine zq_istore (x := x14) (L' := [some (zr (some l0)), some (zi l1), some (zr x2), some (zi (x8 - (1 : Int32))), some (zi x14)]) dX11_take_66 (by decide) rfl ?_
        refine zr_aload_n (v := .inl (some l0)) dX11_take_68 rfl rfl ?_
        revert hf; refine zbi (fun q6 e_q6 hf => ?_)
        revert hf; refine zbi2 (fun x15 h1 e_x15 hf => ?_)
        refine zq_callV (J' := jX11_change) (as := []) (rest := []) (r1 := (some (zr x15))) (q := (RX11, TX11, 6)) kw_420 km_X11_change kt_408 dX11_take_69 rfl (Nat.le_of_ble_eq_true rfl) rfl rfl e_q6 rfl (c_X11_change hg e_x15) ?_
        refine zr_iload_n (x := l1) dX11_take_72 rfl rfl ?_
        refine zr_aload_n (v := .inl x2) dX11_take_73 rfl rfl ?_
        refine zr_aload_n (v := .inl x2) dX11_take_74 rfl rfl ?_
        revert hf; refine zbi (fun x16 e_x16 hf => ?_)
        refine zq_getR kg_371 dX11_take_75 e_x16 ?_
        refine zr_iload (x := x14) dX11_take_78 rfl ?_
        revert hf; refine zbi (fun q7 e_q7 hf => ?_)
        revert hf; refine zbi2 (fun x17 h2 e_x17 hf => ?_)
        refine zq_callV (J' := jX8_withoutLast) (as := [zi x14]) (rest := [zr x2, zi l1, zr x15]) (r1 := (some (zr x17))) (q := (RX8, TX8, 3)) kw_504 km_X8_withoutLast kt_410 dX11_take_80 rfl (Nat.le_of_ble_eq_true rfl) rfl rfl e_q7 rfl (c_X8_withoutLast hg e_x17) ?_
        revert hf; refine zbi (fun q8 e_q8 hf => ?_)
        revert hf; refine zbi2 (fun x18 h3 e_x18 hf => ?_)
        refine zq_callV (J' := jX0_with) (as := [zr x17]) (rest := [zi l1, zr x15]) (r1 := (some (zr x18))) (q := (RX0, TX0, 3)) kw_499 km_X0_with kt_411 dX11_take_83 rfl (Nat.le_of_ble_eq_true rfl) rfl rfl e_q8 rfl (c_X0_with hg e_x18) ?_
        revert hf; refine zbi (fun q9 e_q9 hf => ?_)
        revert hf; refine zbi (fun h4 e_h4 hf => ?_)
        refine zq_callV (J' := jX9_put) (as := [zi l1, zr x18]) (rest := []) (r1 := none) (q := (RX9, TX9, 5)) kw_448 km_X9_put kt_412 dX11_take_86 rfl (Nat.le_of_ble_eq_true rfl) rfl rfl e_q9 rfl (c_X9_put hg e_h4) ?_
        refine zr_iload_n (x := (x8 - (1 : Int32))) dX11_take_89 rfl rfl ?_
        cases hf
        exact zr_ret _ rfl dX11_take_90
theorem c_X11_take {g : zG} (hg : g.2.1.map (fun q => q.2) = zty) {N : Nat} {l0 : Nat} {l1 : Int32} {h : zH} {r : Int32} {h' : zH} (hf : f_X11_take N l0 l1 h = some (r, h')) : zCa g jX11_take [zr (some l0), zi l1] h (some (zi r)) h' :=
  zCa.of hg (by decide +kernel) (Nat.le_of_ble_eq_true rfl) (s_X11_take hg N l0 l1 h r h' hf)
theorem dX11_off_0 : decode cX11_off 0 = .ok (.aload_n 0, 1) := by decide +kernel
theorem dX11_off_1 : decode cX11_off 1 = .ok (.getfield 39, 3) := by decide +kernel
theorem dX11_off_4 : decode cX11_off 4 = .ok (.iload_n 1, 1) := by decide +kernel
theorem dX11_off_5 : decode cX11_off 5 = .ok (.invokevirtual 101, 3) := by decide +kernel
theorem dX11_off_8 : decode cX11_off 8 = .ok (.astore 5, 2) := by decide +kernel
theorem dX11_off_10 : decode cX11_off 10 = .ok (.aload 5, 2) := by decide +kernel
theorem dX11_off_12 : decode cX11_off 12 = .ok (.ifnull 13, 3) := by decide +kernel
theorem dX11_off_15 : decode cX11_off 15 = .ok (.aload_n 0, 1) := by decide +kernel
theorem dX11_off_16 : decode cX11_off 16 = .ok (.getfield 39, 3) := by decide +kernel
theorem dX11_off_19 : decode cX11_off 19 = .ok (.getfield 60, 3) := by decide +kernel
theorem dX11_off_22 : decode cX11_off 22 = .ok (.ifnonnull 5, 3) := by decide +kernel
theorem dX11_off_25 : decode cX11_off 25 = .ok (.iconst (-1), 1) := by decide +kernel
theorem dX11_off_26 : decode cX11_off 26 = .ok (.ireturn, 1) := by decide +kernel
theorem dX11_off_27 : decode cX11_off 27 = .ok (.aload 5, 2) := by decide +kernel
theorem dX11_off_29 : decode cX11_off 29 = .ok (.getfield 118, 3) := by decide +kernel
theorem dX11_off_32 : decode cX11_off 32 = .ok (.astore 6, 2) := by decide +kernel
theorem dX11_off_34 : decode cX11_off 34 = .ok (.aload 6, 2) := by decide +kernel
theorem dX11_off_36 : decode cX11_off 36 = .ok (.invokevirtual 122, 3) := by decide +kernel
theorem dX11_off_39 : decode cX11_off 39 = .ok (.aload_n 0, 1) := by decide +kernel
theorem dX11_off_40 : decode cX11_off 40 = .ok (.getfield 39, 3) := by decide +kernel
theorem dX11_off_43 : decode cX11_off 43 = .ok (.getfield 60, 3) := by decide +kernel
theorem dX11_off_46 : decode cX11_off 46 = .ok (.invokevirtual 67, 3) := by decide +kernel
theorem dX11_off_49 : decode cX11_off 49 = .ok (.if_icmp .lt 13, 3) := by decide +kernel
theorem dX11_off_52 : decode cX11_off 52 = .ok (.aload 6, 2) := by decide +kernel
theorem dX11_off_54 : decode cX11_off 54 = .ok (.invokevirtual 129, 3) := by decide +kernel
theorem dX11_off_57 : decode cX11_off 57 = .ok (.bipush 8, 2) := by decide +kernel
theorem dX11_off_59 : decode cX11_off 59 = .ok (.if_icmp .lt 5, 3) := by decide +kernel
theorem dX11_off_62 : decode cX11_off 62 = .ok (.iconst (-1), 1) := by decide +kernel
theorem dX11_off_63 : decode cX11_off 63 = .ok (.ireturn, 1) := by decide +kernel
theorem dX11_off_64 : decode cX11_off 64 = .ok (.iload_n 2, 1) := by decide +kernel
theorem dX11_off_65 : decode cX11_off 65 = .ok (.iconst 1, 1) := by decide +kernel
theorem dX11_off_66 : decode cX11_off 66 = .ok (.if_icmp .eq 18, 3) := by decide +kernel
theorem dX11_off_69 : decode cX11_off 69 = .ok (.iload_n 2, 1) := by decide +kernel
theorem dX11_off_70 : decode cX11_off 70 = .ok (.ifCond .ne 12, 3) := by decide +kernel
theorem dX11_off_73 : decode cX11_off 73 = .ok (.iload_n 3, 1) := by decide +kernel
theorem dX11_off_74 : decode cX11_off 74 = .ok (.iload 4, 2) := by decide +kernel
theorem dX11_off_76 : decode cX11_off 76 = .ok (.invokestatic 180, 3) := by decide +kernel
theorem dX11_off_79 : decode cX11_off 79 = .ok (.ifCond .ne 5, 3) := by decide +kernel
theorem dX11_off_82 : decode cX11_off 82 = .ok (.iconst (-1), 1) := by decide +kernel
theorem dX11_off_83 : decode cX11_off 83 = .ok (.ireturn, 1) := by decide +kernel
theorem dX11_off_84 : decode cX11_off 84 = .ok (.iload_n 2, 1) := by decide +kernel
theorem dX11_off_85 : decode cX11_off 85 = .ok (.ifCond .ne 15, 3) := by decide +kernel
theorem dX11_off_88 : decode cX11_off 88 = .ok (.iload_n 3, 1) := by decide +kernel
theorem dX11_off_89 : decode cX11_off 89 = .ok (.iload_n 3, 1) := by decide +kernel
theorem dX11_off_90 : decode cX11_off 90 = .ok (.imul, 1) := by decide +kernel
theorem dX11_off_91 : decode cX11_off 91 = .ok (.iload 4, 2) := by decide +kernel
theorem dX11_off_93 : decode cX11_off 93 = .ok (.iload 4, 2) := by decide +kernel
theorem dX11_off_95 : decode cX11_off 95 = .ok (.imul, 1) := by decide +kernel
theorem dX11_off_96 : decode cX11_off 96 = .ok (.iadd, 1) := by decide +kernel
theorem dX11_off_97 : decode cX11_off 97 = .ok (.goto 5, 3) := by decide +kernel
theorem dX11_off_100 : decode cX11_off 100 = .ok (.ldc 184, 2) := by decide +kernel
theorem dX11_off_102 : decode cX11_off 102 = .ok (.istore 7, 2) := by decide +kernel
theorem dX11_off_104 : decode cX11_off 104 = .ok (.aload_n 0, 1) := by decide +kernel
theorem dX11_off_105 : decode cX11_off 105 = .ok (.invokevirtual 56, 3) := by decide +kernel
theorem dX11_off_108 : decode cX11_off 108 = .ok (.iload_n 1, 1) := by decide +kernel
theorem dX11_off_109 : decode cX11_off 109 = .ok (.aload 5, 2) := by decide +kernel
theorem dX11_off_111 : decode cX11_off 111 = .ok (.aload 6, 2) := by decide +kernel
theorem dX11_off_113 : decode cX11_off 113 = .ok (.iload 7, 2) := by decide +kernel
theorem dX11_off_115 : decode cX11_off 115 = .ok (.invokevirtual 185, 3) := by decide +kernel
theorem dX11_off_118 : decode cX11_off 118 = .ok (.invokevirtual 169, 3) := by decide +kernel
theorem dX11_off_121 : decode cX11_off 121 = .ok (.invokevirtual 97, 3) := by decide +kernel
theorem dX11_off_124 : decode cX11_off 124 = .ok (.aload 6, 2) := by decide +kernel
theorem dX11_off_126 : decode cX11_off 126 = .ok (.invokevirtual 129, 3) := by decide +kernel
theorem dX11_off_129 : decode cX11_off 129 = .ok (.iconst 1, 1) := by decide +kernel
theorem dX11_off_130 : decode cX11_off 130 = .ok (.iadd, 1) := by decide +kernel
theorem dX11_off_131 : decode cX11_off 131 = .ok (.ireturn, 1) := by decide +kernel
def f_X11_off_102 (N : Nat) (l0 : Nat) (l1 : Int32) (l5 : Option Nat) (l6 : Option Nat) (s0 : Int32) (h : zH) : Option (Int32 × zH) := (zck h 11 (some l0)).bind fun q1 => zb2 (f_X11_change N q1 h) fun x1 h1 => (zck h1 8 l6).bind fun q2 => zb2 (f_X8_withOff N q2 s0 h1) fun x2 h2 => (zck h2 0 l5).bind fun q3 => zb2 (f_X0_with N q3 x2 h2) fun x3 h3 => (zck h3 9 x1).bind fun q4 => (f_X9_put N q4 l1 x3 h3).bind fun h4 => (zck h4 8 l6).bind fun q5 => (f_X8_countOffs N q5 h4).bind fun x4 => some ((x4 + (1 : Int32)), h4)
set_option maxHeartbeats 4000000 in
set_option maxRecDepth 100000 in
theorem s_X11_off_102 {g : zG} (hg : g.2.1.map (fun q => q.2) = zty) {h0 : zH} (N : Nat) (l0 : Nat) (l1 : Int32) (l5 : Option Nat) (l6 : Option Nat) (s0 : Int32) (h : zH) (r : Int32) (h' : zH) (hf : f_X11_off_102 N l0 l1 l5 l6 s0 h = some (r, h')) : zR g jX11_off h0 102 [some (zr (some l0)), some (zi l1), none, none, none, some (zr l5), some (zr l6), none] [zi s0] h (some (zi r)) h' := by
  unfold f_X11_off_102 at hf
  refine zq_istore (x := s0) (L' := [some (zr (some l0)), some (zi l1), none, none, none, some (zr l5), some (zr l6), some (zi s0)]) dX11_off_102 (by decide) rfl ?_
  refine zr_aload_n (v := .inl (some l0)) dX11_off_104 rfl rfl ?_
  revert hf; refine zbi (fun q1 e_q1 hf => ?_)
  revert hf; refine zbi2 (fun x1 h1 e_x1 hf => ?_)
  refine zq_callV (J' := jX11_change) (as := []) (rest := []) (r1 := (some (zr x1))) (q := (RX11, TX11, 6)) kw_420 km_X11_change kt_413 dX11_off_105 rfl (Nat.le_of_ble_eq_true rfl) rfl rfl e_q1 rfl (c_X11_change hg e_x1) ?_
  refine zr_iload_n (x := l1) dX11_off_108 rfl rfl ?_
  refine zr_aload (v := .inl l5) dX11_off_109 rfl ?_
  refine zr_aload (v := .inl l6) dX11_off_111 rfl ?_
  refine zr_iload (x := s0) dX11_off_113 rfl ?_
  revert hf; refine zbi (fun q2 e_q2 hf => ?_)
  revert hf; refine zbi2 (fun x2 h2 e_x2 hf => ?_)
  refine zq_callV (J' := jX8_withOff) (as := [zi s0]) (rest := [zr l5, zi l1, zr x1]) (r1 := (some (zr x2))) (q := (RX8, TX8, 3)) kw_508 km_X8_withOff kt_415 dX11_off_115 rfl (Nat.le_of_ble_eq_true rfl) rfl rfl e_q2 rfl (c_X8_withOff hg e_x2) ?_
  revert hf; refine zbi (fun q3 e_q3 hf => ?_)
  revert hf; refine zbi2 (fun x3 h3 e_x3 hf => ?_)
  refine zq_callV (J' := jX0_with) (as := [zr x2]) (rest := [zi l1, zr x1]) (r1 := (some (zr x3))) (q := (RX0, TX0, 3)) kw_499 km_X0_with kt_416 dX11_off_118 rfl (Nat.le_of_ble_eq_true rfl) rfl rfl e_q3 rfl (c_X0_with hg e_x3) ?_
  revert hf; refine zbi (fun q4 e_q4 hf => ?_)
  revert hf; refine zbi (fun h4 e_h4 hf => ?_)
  refine zq_callV (J' := jX9_put) (as := [zi l1, zr x3]) (rest := []) (r1 := none) (q := (RX9, TX9, 5)) kw_448 km_X9_put kt_417 dX11_off_121 rfl (Nat.le_of_ble_eq_true rfl) rfl rfl e_q4 rfl (c_X9_put hg e_h4) ?_
  refine zr_aload (v := .inl l6) dX11_off_124 rfl ?_
  revert hf; refine zbi (fun q5 e_q5 hf => ?_)
  revert hf; refine zbi (fun x4 e_x4 hf => ?_)
  refine zq_callV (J' := jX8_countOffs) (as := []) (rest := []) (r1 := (some (zi x4))) (q := (RX8, TX8, 3)) kw_466 km_X8_countOffs kt_418 dX11_off_126 rfl (Nat.le_of_ble_eq_true rfl) rfl rfl e_q5 rfl (c_X8_countOffs hg e_x4) ?_
  refine zr_iconst (v := (1 : Int32)) dX11_off_129 (by decide) ?_
  refine zr_iadd dX11_off_130 ?_
  cases hf
  exact zr_ret _ rfl dX11_off_131
def f_X11_off_84 (N : Nat) (l0 : Nat) (l1 : Int32) (l2 : Int32) (l3 : Int32) (l4 : Int32) (l5 : Option Nat) (l6 : Option Nat) (h : zH) : Option (Int32 × zH) := if l2 = 0 then f_X11_off_102 N l0 l1 l5 l6 ((l3 * l3) + (l4 * l4)) h else f_X11_off_102 N l0 l1 l5 l6 (1000000000 : Int32) h
set_option maxHeartbeats 4000000 in
set_option maxRecDepth 100000 in
theorem s_X11_off_84 {g : zG} (hg : g.2.1.map (fun q => q.2) = zty) {h0 : zH} (N : Nat) (l0 : Nat) (l1 : Int32) (l2 : Int32) (l3 : Int32) (l4 : Int32) (l5 : Option Nat) (l6 : Option Nat) (h : zH) (r : Int32) (h' : zH) (hf : f_X11_off_84 N l0 l1 l2 l3 l4 l5 l6 h = some (r, h')) : zR g jX11_off h0 84 [some (zr (some l0)), some (zi l1), some (zi l2), some (zi l3), some (zi l4), some (zr l5), some (zr l6), none] [] h (some (zi r)) h' := by
  unfold f_X11_off_84 at hf
  refine zr_iload_n (x := l2) dX11_off_84 rfl rfl ?_
  by_cases hc1 : l2 = 0
  · rw [if_pos hc1] at hf
    refine zr_ifne_f 100 dX11_off_85 (by decide) hc1 ?_
    refine zr_iload_n (x := l3) dX11_off_88 rfl rfl ?_
    refine zr_iload_n (x := l3) dX11_off_89 rfl rfl ?_
    refine zr_imul dX11_off_90 ?_
    refine zr_iload (x := l4) dX11_off_91 rfl ?_
    refine zr_iload (x := l4) dX11_off_93 rfl ?_
    refine zr_imul dX11_off_95 ?_
    refine zr_iadd dX11_off_96 ?_
    refine zr_goto (tgt := 102) dX11_off_97 (by decide) ?_
    refine zr_forget 2 (L' := [some (zr (some l0)), some (zi l1), none, some (zi l3), some (zi l4), some (zr l5), some (zr l6), none]) rfl ?_
    refine zr_forget 3 (L' := [some (zr (some l0)), some (zi l1), none, none, some (zi l4), some (zr l5), some (zr l6), none]) rfl ?_
    refine zr_forget 4 (L' := [some (zr (some l0)), some (zi l1), none, none, none, some (zr l5), some (zr l6), none]) rfl ?_
    exact s_X11_off_102 hg N l0 l1 l5 l6 ((l3 * l3) + (l4 * l4)) h r h' hf
  · rw [if_neg hc1] at hf
    refine zr_ifne_t (tgt := 100) dX11_off_85 (by decide) hc1 ?_
    refine zr_ldc (v := (1000000000 : Int32)) kw_512 dX11_off_100 ?_
    refine zr_forget 2 (L' := [some (zr (some l0)), some (zi l1), none, some (zi l3), some (zi l4), some (zr l5), some (zr l6), none]) rfl ?_
    refine zr_forget 3 (L' := [some (zr (some l0)), some (zi l1), none, none, some (zi l4), some (zr l5), some (zr l6), none]) rfl ?_
    refine zr_forget 4 (L' := [some (zr (some l0)), some (zi l1), none, none, none, some (zr l5), some (zr l6), none]) rfl ?_
    exact s_X11_off_102 hg N l0 l1 l5 l6 (1000000000 : Int32) h r h' hf
def f_X11_off (N : Nat) (l0 : Nat) (l1 : Int32) (l2 : Int32) (l3 : Int32) (l4 : Int32) (h : zH) : Option (Int32 × zH) := (zgR h 11 (some l0) 5).bind fun x1 => (zck h 9 x1).bind fun q1 => (f_X9_find N q1 l1 h).bind fun x2 => if x2 = none then some (((-1) : Int32), h) else (zgR h 11 (some l0) 5).bind fun x3 => (zgR h 9 x3 0).bind fun x4 => if x4 = none then some (((-1) : Int32), h) else (zgR h 0 x2 1).bind fun x5 => (zck h 8 x5).bind fun q2 => (f_X8_countEnds N q2 h).bind fun x6 => (zgR h 11 (some l0) 5).bind fun x7 => (zgR h 9 x7 0).bind fun x8 => (zck h 6 x8).bind fun q3 => (f_X6_countEnds N q3 h).bind fun x9 => if x6 < x9 then some (((-1) : Int32), h) else (zck h 8 x5).bind fun q4 => (f_X8_countOffs N q4 h).bind fun x10 => if x10 < (8 : Int32) then if l2 = (1 : Int32) then f_X11_off_84 N l0 l1 l2 l3 l4 x2 x5 h else if l2 = 0 then (f_X11_isOnField N l3 l4 h).bind fun x11 => if x11 = 0 then some (((-1) : Int32), h) else f_X11_off_84 N l0 l1 l2 l3 l4 x2 x5 h else some (((-1) : Int32), h) else some (((-1) : Int32), h)
set_option maxHeartbeats 4000000 in
set_option maxRecDepth 100000 in
theorem s_X11_off {g : zG} (hg : g.2.1.map (fun q => q.2) = zty) {h0 : zH} (N : Nat) (l0 : Nat) (l1 : Int32) (l2 : Int32) (l3 : Int32) (l4 : Int32) (h : zH) (r : Int32) (h' : zH) (hf : f_X11_off N l0 l1 l2 l3 l4 h = some (r, h')) : zR g jX11_off h0 0 [some (zr (some l0)), some (zi l1), some (zi l2), some (zi l3), some (zi l4), none, none, none] [] h (some (zi r)) h' := by
  unfold f_X11_off at hf
  refine zr_aload_n (v := .inl (some l0)) dX11_off_0 rfl rfl ?_
  revert hf; refine zbi (fun x1 e_x1 hf => ?_)
  refine zq_getR kg_332 dX11_off_1 e_x1 ?_
  refine zr_iload_n (x := l1) dX11_off_4 rfl rfl ?_
  revert hf; refine zbi (fun q1 e_q1 hf => ?_)
  revert hf; refine zbi (fun x2 e_x2 hf => ?_)
  refine zq_callV (J' := jX9_find) (as := [zi l1]) (rest := []) (r1 := (some (zr x2))) (q := (RX9, TX9, 5)) kw_452 km_X9_find kt_419 dX11_off_5 rfl (Nat.le_of_ble_eq_true rfl) rfl rfl e_q1 rfl (c_X9_find hg e_x2) ?_
  refine zq_astore (v := .inl x2) (L' := [some (zr (some l0)), some (zi l1), some (zi l2), some (zi l3), some (zi l4), some (zr x2), none, none]) dX11_off_8 (by decide) rfl ?_
  refine zr_aload (v := .inl x2) dX11_off_10 rfl ?_
  by_cases hc1 : x2 = none
  · rw [if_pos hc1] at hf
    refine zr_ifnull_t (tgt := 25) dX11_off_12 (by decide) hc1 ?_
    refine zr_iconst (v := ((-1) : Int32)) dX11_off_25 (by decide) ?_
    cases hf
    exact zr_ret _ rfl dX11_off_26
  · rw [if_neg hc1] at hf
    refine zr_ifnull_f dX11_off_12 hc1 ?_
    refine zr_aload_n (v := .inl (some l0)) dX11_off_15 rfl rfl ?_
    revert hf; refine zbi (fun x3 e_x3 hf => ?_)
    refine zq_getR kg_332 dX11_off_16 e_x3 ?_
    revert hf; refine zbi (fun x4 e_x4 hf => ?_)
    refine zq_getR kg_347 dX11_off_19 e_x4 ?_
    by_cases hc2 : x4 = none
    · rw [if_pos hc2] at hf
      refine zr_ifnonnull_f dX11_off_22 hc2 ?_
      refine zr_iconst (v := ((-1) : Int32)) dX11_off_25 (by decide) ?_
      cases hf
      exact zr_ret _ rfl dX11_off_26
    · rw [if_neg hc2] at hf
      refine zr_ifnonnull_t (tgt := 27) dX11_off_22 (by decide) hc2 ?_
      refine zr_aload (v := .inl x2) dX11_off_27 rfl ?_
      revert hf; refine zbi (fun x5 e_x5 hf => ?_)
      refine zq_getR kg_371 dX11_off_29 e_x5 ?_
      refine zq_astore (v := .inl x5) (L' := [some (zr (some l0)), some (zi l1), some (zi l2), some (zi l3), some (zi l4), some (zr x2), some (zr x5), none]) dX11_off_32 (by decide) rfl ?_
      refine zr_aload (v := .inl x5) dX11_off_34 rfl ?_
      revert hf; refine zbi (fun q2 e_q2 hf => ?_)
      revert hf; refine zbi (fun x6 e_x6 hf => ?_)
      refine zq_callV (J' := jX8_countEnds) (as := []) (rest := []) (r1 := (some (zi x6))) (q := (RX8, TX8, 3)) kw_460 km_X8_countEnds kt_420 dX11_off_36 rfl (Nat.le_of_ble_eq_true rfl) rfl rfl e_q2 rfl (c_X8_countEnds hg e_x6) ?_
      refine zr_aload_n (v := .inl (some l0)) dX11_off_39 rfl rfl ?_
      revert hf; refine zbi (fun x7 e_x7 hf => ?_)
      refine zq_getR kg_332 dX11_off_40 e_x7 ?_
      revert hf; refine zbi (fun x8 e_x8 hf => ?_)
      refine zq_getR kg_347 dX11_off_43 e_x8 ?_
      revert hf; refine zbi (fun q3 e_q3 hf => ?_)
      revert hf; refine zbi (fun x9 e_x9 hf => ?_)
      refine zq_callV (J' := jX6_countEnds) (as := []) (rest := [zi x6]) (r1 := (some (zi x9))) (q := (RX6, TX6, 11)) kw_429 km_X6_countEnds kt_421 dX11_off_46 rfl (Nat.le_of_ble_eq_true rfl) rfl rfl e_q3 rfl (c_X6_countEnds hg e_x9) ?_
      by_cases hc3 : x6 < x9
      · rw [if_pos hc3] at hf
        refine zr_iclt_t (tgt := 62) dX11_off_49 (by decide) hc3 ?_
        refine zr_iconst (v := ((-1) : Int32)) dX11_off_62 (by decide) ?_
        cases hf
        exact zr_ret _ rfl dX11_off_63
      · rw [if_neg hc3] at hf
        refine zr_iclt_f 62 dX11_off_49 (by decide) hc3 ?_
        refine zr_aload (v := .inl x5) dX11_off_52 rfl ?_
        revert hf; refine zbi (fun q4 e_q4 hf => ?_)
        revert hf; refine zbi (fun x10 e_x10 hf => ?_)
        refine zq_callV (J' := jX8_countOffs) (as := []) (rest := []) (r1 := (some (zi x10))) (q := (RX8, TX8, 3)) kw_466 km_X8_countOffs kt_418 dX11_off_54 rfl (Nat.le_of_ble_eq_true rfl) rfl rfl e_q4 rfl (c_X8_countOffs hg e_x10) ?_
        refine zr_bipush (v := (8 : Int32)) dX11_off_57 (by decide) ?_
        by_cases hc4 : x10 < (8 : Int32)
        · rw [if_pos hc4] at hf
          refine zr_iclt_t (tgt := 64) dX11_off_59 (by decide) hc4 ?_
          refine zr_iload_n (x := l2) dX11_off_64 rfl rfl ?_
          refine zr_iconst (v := (1 : Int32)) dX11_off_65 (by decide) ?_
          by_cases hc5 : l2 = (1 : Int32)
          · rw [if_pos hc5] at hf
            refine zr_iceq_t (tgt := 84) dX11_off_66 (by decide) hc5 ?_
            exact s_X11_off_84 hg N l0 l1 l2 l3 l4 x2 x5 h r h' hf
          · rw [if_neg hc5] at hf
            refine zr_iceq_f 84 dX11_off_66 (by decide) hc5 ?_
            refine zr_iload_n (x := l2) dX11_off_69 rfl rfl ?_
            by_cases hc6 : l2 = 0
            · rw [if_pos hc6] at hf
              refine zr_ifne_f 82 dX11_off_70 (by decide) hc6 ?_
              refine zr_iload_n (x := l3) dX11_off_73 rfl rfl ?_
              refine zr_iload (x := l4) dX11_off_74 rfl ?_
              revert hf; refine zbi (fun x11 e_x11 hf => ?_)
              refine zq_callS (J' := jX11_isOnField) (as := [zi l3, zi l4]) (rest := []) (r1 := (some (zi x11))) kw_513 km_X11_isOnField kt_422 dX11_off_76 rfl (Nat.le_of_ble_eq_true rfl) rfl (c_X11_isOnField hg e_x11) ?_
              by_cases hc7 : x11 = 0
              · rw [if_pos hc7] at hf
                refine zr_ifne_f 84 dX11_off_79 (by decide) hc7 ?_
                refine zr_iconst (v := ((-1) : Int32)) dX11_off_82 (by decide) ?_
                cases hf
                exact zr_ret _ rfl dX11_off_83
              · rw [if_neg hc7] at hf
                refine zr_ifne_t (tgt := 84) dX11_off_79 (by decide) hc7 ?_
                exact s_X11_off_84 hg N l0 l1 l2 l3 l4 x2 x5 h r h' hf
            · rw [if_neg hc6] at hf
              refine zr_ifne_t (tgt := 82) dX11_off_70 (by decide) hc6 ?_
              refine zr_iconst (v := ((-1) : Int32)) dX11_off_82 (by decide) ?_
              cases hf
              exact zr_ret _ rfl dX11_off_83
        · rw [if_neg hc4] at hf
          refine zr_iclt_f 64 dX11_off_59 (by decide) hc4 ?_
          refine zr_iconst (v := ((-1) : Int32)) dX11_off_62 (by decide) ?_
          cases hf
          exact zr_ret _ rfl dX11_off_63
theorem c_X11_off {g : zG} (hg : g.2.1.map (fun q => q.2) = zty) {N : Nat} {l0 : Nat} {l1 : Int32} {l2 : Int32} {l3 : Int32} {l4 : Int32} {h : zH} {r : Int32} {h' : zH} (hf : f_X11_off N l0 l1 l2 l3 l4 h = some (r, h')) : zCa g jX11_off [zr (some l0), zi l1, zi l2, zi l3, zi l4] h (some (zi r)) h' :=
  zCa.of hg (by decide +kernel) (Nat.le_of_ble_eq_true rfl) (s_X11_off hg N l0 l1 l2 l3 l4 h r h' hf)
theorem dX11_ahead_0 : decode cX11_ahead 0 = .ok (.aload_n 0, 1) := by decide +kernel
theorem dX11_ahead_1 : decode cX11_ahead 1 = .ok (.getfield 39, 3) := by decide +kernel
theorem dX11_ahead_4 : decode cX11_ahead 4 = .ok (.iload_n 1, 1) := by decide +kernel
theorem dX11_ahead_5 : decode cX11_ahead 5 = .ok (.invokevirtual 101, 3) := by decide +kernel
theorem dX11_ahead_8 : decode cX11_ahead 8 = .ok (.astore_n 3, 1) := by decide +kernel
theorem dX11_ahead_9 : decode cX11_ahead 9 = .ok (.aload_n 0, 1) := by decide +kernel
theorem dX11_ahead_10 : decode cX11_ahead 10 = .ok (.getfield 39, 3) := by decide +kernel
theorem dX11_ahead_13 : decode cX11_ahead 13 = .ok (.iload_n 2, 1) := by decide +kernel
theorem dX11_ahead_14 : decode cX11_ahead 14 = .ok (.invokevirtual 101, 3) := by decide +kernel
theorem dX11_ahead_17 : decode cX11_ahead 17 = .ok (.astore 4, 2) := by decide +kernel
theorem dX11_ahead_19 : decode cX11_ahead 19 = .ok (.aload_n 3, 1) := by decide +kernel
theorem dX11_ahead_20 : decode cX11_ahead 20 = .ok (.ifnull 18, 3) := by decide +kernel
theorem dX11_ahead_23 : decode cX11_ahead 23 = .ok (.aload 4, 2) := by decide +kernel
theorem dX11_ahead_25 : decode cX11_ahead 25 = .ok (.ifnull 13, 3) := by decide +kernel
theorem dX11_ahead_28 : decode cX11_ahead 28 = .ok (.aload_n 0, 1) := by decide +kernel
theorem dX11_ahead_29 : decode cX11_ahead 29 = .ok (.getfield 39, 3) := by decide +kernel
theorem dX11_ahead_32 : decode cX11_ahead 32 = .ok (.getfield 60, 3) := by decide +kernel
theorem dX11_ahead_35 : decode cX11_ahead 35 = .ok (.ifnonnull 6, 3) := by decide +kernel
theorem dX11_ahead_38 : decode cX11_ahead 38 = .ok (.bipush (-2), 2) := by decide +kernel
theorem dX11_ahead_40 : decode cX11_ahead 40 = .ok (.ireturn, 1) := by decide +kernel
theorem dX11_ahead_41 : decode cX11_ahead 41 = .ok (.aload_n 0, 1) := by decide +kernel
theorem dX11_ahead_42 : decode cX11_ahead 42 = .ok (.getfield 39, 3) := by decide +kernel
theorem dX11_ahead_45 : decode cX11_ahead 45 = .ok (.getfield 60, 3) := by decide +kernel
theorem dX11_ahead_48 : decode cX11_ahead 48 = .ok (.aload_n 3, 1) := by decide +kernel
theorem dX11_ahead_49 : decode cX11_ahead 49 = .ok (.getfield 118, 3) := by decide +kernel
theorem dX11_ahead_52 : decode cX11_ahead 52 = .ok (.aload 4, 2) := by decide +kernel
theorem dX11_ahead_54 : decode cX11_ahead 54 = .ok (.getfield 118, 3) := by decide +kernel
theorem dX11_ahead_57 : decode cX11_ahead 57 = .ok (.invokevirtual 188, 3) := by decide +kernel
theorem dX11_ahead_60 : decode cX11_ahead 60 = .ok (.ireturn, 1) := by decide +kernel
def f_X11_ahead (N : Nat) (l0 : Nat) (l1 : Int32) (l2 : Int32) (h : zH) : Option Int32 := (zgR h 11 (some l0) 5).bind fun x1 => (zck h 9 x1).bind fun q1 => (f_X9_find N q1 l1 h).bind fun x2 => (zgR h 11 (some l0) 5).bind fun x3 => (zck h 9 x3).bind fun q2 => (f_X9_find N q2 l2 h).bind fun x4 => if x2 = none then some ((-2) : Int32) else if x4 = none then some ((-2) : Int32) else (zgR h 11 (some l0) 5).bind fun x5 => (zgR h 9 x5 0).bind fun x6 => if x6 = none then some ((-2) : Int32) else (zgR h 11 (some l0) 5).bind fun x7 => (zgR h 9 x7 0).bind fun x8 => (zgR h 0 x2 1).bind fun x9 => (zgR h 0 x4 1).bind fun x10 => (zck h 6 x8).bind fun q3 => (f_X6_compare N q3 x9 x10 h).bind fun x11 => some x11
set_option maxHeartbeats 4000000 in
set_option maxRecDepth 100000 in
theorem s_X11_ahead {g : zG} (hg : g.2.1.map (fun q => q.2) = zty) {h0 : zH} (N : Nat) (l0 : Nat) (l1 : Int32) (l2 : Int32) (h : zH) (r : Int32) (hf : f_X11_ahead N l0 l1 l2 h = some r) : zR g jX11_ahead h0 0 [some (zr (some l0)), some (zi l1), some (zi l2), none, none] [] h (some (zi r)) h := by
  unfold f_X11_ahead at hf
  refine zr_aload_n (v := .inl (some l0)) dX11_ahead_0 rfl rfl ?_
  revert hf; refine zbi (fun x1 e_x1 hf => ?_)
  refine zq_getR kg_332 dX11_ahead_1 e_x1 ?_
  refine zr_iload_n (x := l1) dX11_ahead_4 rfl rfl ?_
  revert hf; refine zbi (fun q1 e_q1 hf => ?_)
  revert hf; refine zbi (fun x2 e_x2 hf => ?_)
  refine zq_callV (J' := jX9_find) (as := [zi l1]) (rest := []) (r1 := (some (zr x2))) (q := (RX9, TX9, 5)) kw_452 km_X9_find kt_423 dX11_ahead_5 rfl (Nat.le_of_ble_eq_true rfl) rfl rfl e_q1 rfl (c_X9_find hg e_x2) ?_
  refine zq_astore_n (v := .inl x2) (L' := [some (zr (some l0)), some (zi l1), some (zi l2), some (zr x2), none]) dX11_ahead_8 rfl (by decide) rfl ?_
  refine zr_aload_n (v := .inl (some l0)) dX11_ahead_9 rfl rfl ?_
  revert hf; refine zbi (fun x3 e_x3 hf => ?_)
  refine zq_getR kg_332 dX11_ahead_10 e_x3 ?_
  refine zr_iload_n (x := l2) dX11_ahead_13 rfl rfl ?_
  revert hf; refine zbi (fun q2 e_q2 hf => ?_)
  revert hf; refine zbi (fun x4 e_x4 hf => ?_)
  refine zq_callV (J' := jX9_find) (as := [zi l2]) (rest := []) (r1 := (some (zr x4))) (q := (RX9, TX9, 5)) kw_452 km_X9_find kt_423 dX11_ahead_14 rfl (Nat.le_of_ble_eq_true rfl) rfl rfl e_q2 rfl (c_X9_find hg e_x4) ?_
  refine zq_astore (v := .inl x4) (L' := [some (zr (some l0)), some (zi l1), some (zi l2), some (zr x2), some (zr x4)]) dX11_ahead_17 (by decide) rfl ?_
  refine zr_aload_n (v := .inl x2) dX11_ahead_19 rfl rfl ?_
  by_cases hc1 : x2 = none
  · rw [if_pos hc1] at hf
    refine zr_ifnull_t (tgt := 38) dX11_ahead_20 (by decide) hc1 ?_
    refine zr_bipush (v := ((-2) : Int32)) dX11_ahead_38 (by decide) ?_
    cases hf
    exact zr_ret _ rfl dX11_ahead_40
  · rw [if_neg hc1] at hf
    refine zr_ifnull_f dX11_ahead_20 hc1 ?_
    refine zr_aload (v := .inl x4) dX11_ahead_23 rfl ?_
    by_cases hc2 : x4 = none
    · rw [if_pos hc2] at hf
      refine zr_ifnull_t (tgt := 38) dX11_ahead_25 (by decide) hc2 ?_
      refine zr_bipush (v := ((-2) : Int32)) dX11_ahead_38 (by decide) ?_
      cases hf
      exact zr_ret _ rfl dX11_ahead_40
    · rw [if_neg hc2] at hf
      refine zr_ifnull_f dX11_ahead_25 hc2 ?_
      refine zr_aload_n (v := .inl (some l0)) dX11_ahead_28 rfl rfl ?_
      revert hf; refine zbi (fun x5 e_x5 hf => ?_)
      refine zq_getR kg_332 dX11_ahead_29 e_x5 ?_
      revert hf; refine zbi (fun x6 e_x6 hf => ?_)
      refine zq_getR kg_347 dX11_ahead_32 e_x6 ?_
      by_cases hc3 : x6 = none
      · rw [if_pos hc3] at hf
        refine zr_ifnonnull_f dX11_ahead_35 hc3 ?_
        refine zr_bipush (v := ((-2) : Int32)) dX11_ahead_38 (by decide) ?_
        cases hf
        exact zr_ret _ rfl dX11_ahead_40
      · rw [if_neg hc3] at hf
        refine zr_ifnonnull_t (tgt := 41) dX11_ahead_35 (by decide) hc3 ?_
        refine zr_aload_n (v := .inl (some l0)) dX11_ahead_41 rfl rfl ?_
        revert hf; refine zbi (fun x7 e_x7 hf => ?_)
        refine zq_getR kg_332 dX11_ahead_42 e_x7 ?_
        revert hf; refine zbi (fun x8 e_x8 hf => ?_)
        refine zq_getR kg_347 dX11_ahead_45 e_x8 ?_
        refine zr_aload_n (v := .inl x2) dX11_ahead_48 rfl rfl ?_
        revert hf; refine zbi (fun x9 e_x9 hf => ?_)
        refine zq_getR kg_371 dX11_ahead_49 e_x9 ?_
        refine zr_aload (v := .inl x4) dX11_ahead_52 rfl ?_
        revert hf; refine zbi (fun x10 e_x10 hf => ?_)
        refine zq_getR kg_371 dX11_ahead_54 e_x10 ?_
        revert hf; refine zbi (fun q3 e_q3 hf => ?_)
        revert hf; refine zbi (fun x11 e_x11 hf => ?_)
        refine zq_callV (J' := jX6_compare) (as := [zr x9, zr x10]) (rest := []) (r1 := (some (zi x11))) (q := (RX6, TX6, 11)) kw_514 km_X6_compare kt_425 dX11_ahead_57 rfl (Nat.le_of_ble_eq_true rfl) rfl rfl e_q3 rfl (c_X6_compare hg e_x11) ?_
        cases hf
        exact zr_ret _ rfl dX11_ahead_60
theorem c_X11_ahead {g : zG} (hg : g.2.1.map (fun q => q.2) = zty) {N : Nat} {l0 : Nat} {l1 : Int32} {l2 : Int32} {h : zH} {r : Int32} (hf : f_X11_ahead N l0 l1 l2 h = some r) : zCa g jX11_ahead [zr (some l0), zi l1, zi l2] h (some (zi r)) h :=
  zCa.of hg (by decide +kernel) (Nat.le_of_ble_eq_true rfl) (s_X11_ahead hg N l0 l1 l2 h r hf)
theorem dX11_rank_0 : decode cX11_rank 0 = .ok (.aload_n 0, 1) := by decide +kernel
theorem dX11_rank_1 : decode cX11_rank 1 = .ok (.getfield 39, 3) := by decide +kernel
theorem dX11_rank_4 : decode cX11_rank 4 = .ok (.iload_n 1, 1) := by decide +kernel
theorem dX11_rank_5 : decode cX11_rank 5 = .ok (.invokevirtual 101, 3) := by decide +kernel
theorem dX11_rank_8 : decode cX11_rank 8 = .ok (.astore_n 2, 1) := by decide +kernel
theorem dX11_rank_9 : decode cX11_rank 9 = .ok (.aload_n 2, 1) := by decide +kernel
theorem dX11_rank_10 : decode cX11_rank 10 = .ok (.ifnull 13, 3) := by decide +kernel
theorem dX11_rank_13 : decode cX11_rank 13 = .ok (.aload_n 0, 1) := by decide +kernel
theorem dX11_rank_14 : decode cX11_rank 14 = .ok (.getfield 39, 3) := by decide +kernel
theorem dX11_rank_17 : decode cX11_rank 17 = .ok (.getfield 60, 3) := by decide +kernel
theorem dX11_rank_20 : decode cX11_rank 20 = .ok (.ifnonnull 5, 3) := by decide +kernel
theorem dX11_rank_23 : decode cX11_rank 23 = .ok (.iconst (-1), 1) := by decide +kernel
theorem dX11_rank_24 : decode cX11_rank 24 = .ok (.ireturn, 1) := by decide +kernel
theorem dX11_rank_25 : decode cX11_rank 25 = .ok (.iconst 1, 1) := by decide +kernel
theorem dX11_rank_26 : decode cX11_rank 26 = .ok (.istore_n 3, 1) := by decide +kernel
theorem dX11_rank_27 : decode cX11_rank 27 = .ok (.iconst 0, 1) := by decide +kernel
theorem dX11_rank_28 : decode cX11_rank 28 = .ok (.istore 4, 2) := by decide +kernel
theorem dX11_rank_30 : decode cX11_rank 30 = .ok (.iload 4, 2) := by decide +kernel
theorem dX11_rank_32 : decode cX11_rank 32 = .ok (.bipush 16, 2) := by decide +kernel
theorem dX11_rank_34 : decode cX11_rank 34 = .ok (.if_icmp .ge 50, 3) := by decide +kernel
theorem dX11_rank_37 : decode cX11_rank 37 = .ok (.aload_n 0, 1) := by decide +kernel
theorem dX11_rank_38 : decode cX11_rank 38 = .ok (.getfield 39, 3) := by decide +kernel
theorem dX11_rank_41 : decode cX11_rank 41 = .ok (.iload 4, 2) := by decide +kernel
theorem dX11_rank_43 : decode cX11_rank 43 = .ok (.invokevirtual 101, 3) := by decide +kernel
theorem dX11_rank_46 : decode cX11_rank 46 = .ok (.astore 5, 2) := by decide +kernel
theorem dX11_rank_48 : decode cX11_rank 48 = .ok (.aload 5, 2) := by decide +kernel
theorem dX11_rank_50 : decode cX11_rank 50 = .ok (.ifnull 28, 3) := by decide +kernel
theorem dX11_rank_53 : decode cX11_rank 53 = .ok (.aload_n 0, 1) := by decide +kernel
theorem dX11_rank_54 : decode cX11_rank 54 = .ok (.getfield 39, 3) := by decide +kernel
theorem dX11_rank_57 : decode cX11_rank 57 = .ok (.getfield 60, 3) := by decide +kernel
theorem dX11_rank_60 : decode cX11_rank 60 = .ok (.aload 5, 2) := by decide +kernel
theorem dX11_rank_62 : decode cX11_rank 62 = .ok (.getfield 118, 3) := by decide +kernel
theorem dX11_rank_65 : decode cX11_rank 65 = .ok (.aload_n 2, 1) := by decide +kernel
theorem dX11_rank_66 : decode cX11_rank 66 = .ok (.getfield 118, 3) := by decide +kernel
theorem dX11_rank_69 : decode cX11_rank 69 = .ok (.invokevirtual 188, 3) := by decide +kernel
theorem dX11_rank_72 : decode cX11_rank 72 = .ok (.ifCond .le 6, 3) := by decide +kernel
theorem dX11_rank_75 : decode cX11_rank 75 = .ok (.iinc 3 1, 3) := by decide +kernel
theorem dX11_rank_78 : decode cX11_rank 78 = .ok (.iinc 4 1, 3) := by decide +kernel
theorem dX11_rank_81 : decode cX11_rank 81 = .ok (.goto (-51), 3) := by decide +kernel
theorem dX11_rank_84 : decode cX11_rank 84 = .ok (.iload_n 3, 1) := by decide +kernel
theorem dX11_rank_85 : decode cX11_rank 85 = .ok (.ireturn, 1) := by decide +kernel
def f_X11_rank_30 (N : Nat) : Nat → Nat → Option Nat → Int32 → Int32 → zH → Option Int32
  | 0, _, _, _, _, _ => none
  | n + 1, l0, l2, l3, l4, h => if (16 : Int32) ≤ l4 then some l3 else (zgR h 11 (some l0) 5).bind fun x1 => (zck h 9 x1).bind fun q1 => (f_X9_find N q1 l4 h).bind fun x2 => if x2 = none then f_X11_rank_30 N n l0 l2 l3 (l4 + (1 : Int32)) h else (zgR h 11 (some l0) 5).bind fun x3 => (zgR h 9 x3 0).bind fun x4 => (zgR h 0 x2 1).bind fun x5 => (zgR h 0 l2 1).bind fun x6 => (zck h 6 x4).bind fun q2 => (f_X6_compare N q2 x5 x6 h).bind fun x7 => if x7 ≤ 0 then f_X11_rank_30 N n l0 l2 l3 (l4 + (1 : Int32)) h else f_X11_rank_30 N n l0 l2 (l3 + (1 : Int32)) (l4 + (1 : Int32)) h
set_option maxHeartbeats 4000000 in
set_option maxRecDepth 100000 in
theorem s_X11_rank_30 {g : zG} (hg : g.2.1.map (fun q => q.2) = zty) {h0 : zH} (N : Nat) : ∀ (n : Nat) (l0 : Nat) (l2 : Option Nat) (l3 : Int32) (l4 : Int32) (h : zH) (r : Int32), f_X11_rank_30 N n l0 l2 l3 l4 h = some r → zR g jX11_rank h0 30 [some (zr (some l0)), none, some (zr l2), some (zi l3), some (zi l4), none] [] h (some (zi r)) h := by
  intro n
  induction n with
  | zero =>
    intro l0 l2 l3 l4 h r hf
    cases hf
  | succ n ih =>
    intro l0 l2 l3 l4 h r hf
    rw [f_X11_rank_30] at hf
    refine zr_iload (x := l4) dX11_rank_30 rfl ?_
    refine zr_bipush (v := (16 : Int32)) dX11_rank_32 (by decide) ?_
    by_cases hc1 : (16 : Int32) ≤ l4
    · rw [if_pos hc1] at hf
      refine zr_icge_t (tgt := 84) dX11_rank_34 (by decide) hc1 ?_
      refine zr_iload_n (x := l3) dX11_rank_84 rfl rfl ?_
      cases hf
      exact zr_ret _ rfl dX11_rank_85
    · rw [if_neg hc1] at hf
      refine zr_icge_f 84 dX11_rank_34 (by decide) hc1 ?_
      refine zr_aload_n (v := .inl (some l0)) dX11_rank_37 rfl rfl ?_
      revert hf; refine zbi (fun x1 e_x1 hf => ?_)
      refine zq_getR kg_332 dX11_rank_38 e_x1 ?_
      refine zr_iload (x := l4) dX11_rank_41 rfl ?_
      revert hf; refine zbi (fun q1 e_q1 hf => ?_)
      revert hf; refine zbi (fun x2 e_x2 hf => ?_)
      refine zq_callV (J' := jX9_find) (as := [zi l4]) (rest := []) (r1 := (some (zr x2))) (q := (RX9, TX9, 5)) kw_452 km_X9_find kt_426 dX11_rank_43 rfl (Nat.le_of_ble_eq_true rfl) rfl rfl e_q1 rfl (c_X9_find hg e_x2) ?_
      refine zq_astore (v := .inl x2) (L' := [some (zr (some l0)), none, some (zr l2), some (zi l3), some (zi l4), some (zr x2)]) dX11_rank_46 (by decide) rfl ?_
      refine zr_aload (v := .inl x2) dX11_rank_48 rfl ?_
      by_cases hc2 : x2 = none
      · rw [if_pos hc2] at hf
        refine zr_ifnull_t (tgt := 78) dX11_rank_50 (by decide) hc2 ?_
        refine zq_iinc (x := l4) (y := (1 : Int32)) (L' := [some (zr (some l0)), none, some (zr l2), some (zi l3), some (zi (l4 + (1 : Int32))), some (zr x2)]) dX11_rank_78 rfl (by decide) (by decide) rfl ?_
        refine zr_goto (tgt := 30) dX11_rank_81 (by decide) ?_
        refine zr_forget 5 (L' := [some (zr (some l0)), none, some (zr l2), some (zi l3), some (zi (l4 + (1 : Int32))), none]) rfl ?_
        exact ih l0 l2 l3 (l4 + (1 : Int32)) h r hf
      · rw [if_neg hc2] at hf
        refine zr_ifnull_f dX11_rank_50 hc2 ?_
        refine zr_aload_n (v := .inl (some l0)) dX11_rank_53 rfl rfl ?_
        revert hf; refine zbi (fun x3 e_x3 hf => ?_)
        refine zq_getR kg_332 dX11_rank_54 e_x3 ?_
        revert hf; refine zbi (fun x4 e_x4 hf => ?_)
        refine zq_getR kg_347 dX11_rank_57 e_x4 ?_
        refine zr_aload (v := .inl x2) dX11_rank_60 rfl ?_
        revert hf; refine zbi (fun x5 e_x5 hf => ?_)
        refine zq_getR kg_371 dX11_rank_62 e_x5 ?_
        refine zr_aload_n (v := .inl l2) dX11_rank_65 rfl rfl ?_
        revert hf; refine zbi (fun x6 e_x6 hf => ?_)
        refine zq_getR kg_371 dX11_rank_66 e_x6 ?_
        revert hf; refine zbi (fun q2 e_q2 hf => ?_)
        revert hf; refine zbi (fun x7 e_x7 hf => ?_)
        refine zq_callV (J' := jX6_compare) (as := [zr x5, zr x6]) (rest := []) (r1 := (some (zi x7))) (q := (RX6, TX6, 11)) kw_514 km_X6_compare kt_427 dX11_rank_69 rfl (Nat.le_of_ble_eq_true rfl) rfl rfl e_q2 rfl (c_X6_compare hg e_x7) ?_
        by_cases hc3 : x7 ≤ 0
        · rw [if_pos hc3] at hf
          refine zr_ifle_t (tgt := 78) dX11_rank_72 (by decide) hc3 ?_
          refine zq_iinc (x := l4) (y := (1 : Int32)) (L' := [some (zr (some l0)), none, some (zr l2), some (zi l3), some (zi (l4 + (1 : Int32))), some (zr x2)]) dX11_rank_78 rfl (by decide) (by decide) rfl ?_
          refine zr_goto (tgt := 30) dX11_rank_81 (by decide) ?_
          refine zr_forget 5 (L' := [some (zr (some l0)), none, some (zr l2), some (zi l3), some (zi (l4 + (1 : Int32))), none]) rfl ?_
          exact ih l0 l2 l3 (l4 + (1 : Int32)) h r hf
        · rw [if_neg hc3] at hf
          refine zr_ifle_f 78 dX11_rank_72 (by decide) hc3 ?_
          refine zq_iinc (x := l3) (y := (1 : Int32)) (L' := [some (zr (some l0)), none, some (zr l2), some (zi (l3 + (1 : Int32))), some (zi l4), some (zr x2)]) dX11_rank_75 rfl (by decide) (by decide) rfl ?_
          refine zq_iinc (x := l4) (y := (1 : Int32)) (L' := [some (zr (some l0)), none, some (zr l2), some (zi (l3 + (1 : Int32))), some (zi (l4 + (1 : Int32))), some (zr x2)]) dX11_rank_78 rfl (by decide) (by decide) rfl ?_
          refine zr_goto (tgt := 30) dX11_rank_81 (by decide) ?_
          refine zr_forget 5 (L' := [some (zr (some l0)), none, some (zr l2), some (zi (l3 + (1 : Int32))), some (zi (l4 + (1 : Int32))), none]) rfl ?_
          exact ih l0 l2 (l3 + (1 : Int32)) (l4 + (1 : Int32)) h r hf
def f_X11_rank (N : Nat) (l0 : Nat) (l1 : Int32) (h : zH) : Option Int32 := (zgR h 11 (some l0) 5).bind fun x1 => (zck h 9 x1).bind fun q1 => (f_X9_find N q1 l1 h).bind fun x2 => if x2 = none then some ((-1) : Int32) else (zgR h 11 (some l0) 5).bind fun x3 => (zgR h 9 x3 0).bind fun x4 => if x4 = none then some ((-1) : Int32) else f_X11_rank_30 N N l0 x2 (1 : Int32) (0 : Int32) h
set_option maxHeartbeats 4000000 in
set_option maxRecDepth 100000 in
theorem s_X11_rank {g : zG} (hg : g.2.1.map (fun q => q.2) = zty) {h0 : zH} (N : Nat) (l0 : Nat) (l1 : Int32) (h : zH) (r : Int32) (hf : f_X11_rank N l0 l1 h = some r) : zR g jX11_rank h0 0 [some (zr (some l0)), some (zi l1), none, none, none, none] [] h (some (zi r)) h := by
  unfold f_X11_rank at hf
  refine zr_aload_n (v := .inl (some l0)) dX11_rank_0 rfl rfl ?_
  revert hf; refine zbi (fun x1 e_x1 hf => ?_)
  refine zq_getR kg_332 dX11_rank_1 e_x1 ?_
  refine zr_iload_n (x := l1) dX11_rank_4 rfl rfl ?_
  revert hf; refine zbi (fun q1 e_q1 hf => ?_)
  revert hf; refine zbi (fun x2 e_x2 hf => ?_)
  refine zq_callV (J' := jX9_find) (as := [zi l1]) (rest := []) (r1 := (some (zr x2))) (q := (RX9, TX9, 5)) kw_452 km_X9_find kt_426 dX11_rank_5 rfl (Nat.le_of_ble_eq_true rfl) rfl rfl e_q1 rfl (c_X9_find hg e_x2) ?_
  refine zq_astore_n (v := .inl x2) (L' := [some (zr (some l0)), some (zi l1), some (zr x2), none, none, none]) dX11_rank_8 rfl (by decide) rfl ?_
  refine zr_aload_n (v := .inl x2) dX11_rank_9 rfl rfl ?_
  by_cases hc1 : x2 = none
  · rw [if_pos hc1] at hf
    refine zr_ifnull_t (tgt := 23) dX11_rank_10 (by decide) hc1 ?_
    refine zr_iconst (v := ((-1) : Int32)) dX11_rank_23 (by decide) ?_
    cases hf
    exact zr_ret _ rfl dX11_rank_24
  · rw [if_neg hc1] at hf
    refine zr_ifnull_f dX11_rank_10 hc1 ?_
    refine zr_aload_n (v := .inl (some l0)) dX11_rank_13 rfl rfl ?_
    revert hf; refine zbi (fun x3 e_x3 hf => ?_)
    refine zq_getR kg_332 dX11_rank_14 e_x3 ?_
    revert hf; refine zbi (fun x4 e_x4 hf => ?_)
    refine zq_getR kg_347 dX11_rank_17 e_x4 ?_
    by_cases hc2 : x4 = none
    · rw [if_pos hc2] at hf
      refine zr_ifnonnull_f dX11_rank_20 hc2 ?_
      refine zr_iconst (v := ((-1) : Int32)) dX11_rank_23 (by decide) ?_
      cases hf
      exact zr_ret _ rfl dX11_rank_24
    · rw [if_neg hc2] at hf
      refine zr_ifnonnull_t (tgt := 25) dX11_rank_20 (by decide) hc2 ?_
      refine zr_iconst (v := (1 : Int32)) dX11_rank_25 (by decide) ?_
      refine zq_istore_n (x := (1 : Int32)) (L' := [some (zr (some l0)), some (zi l1), some (zr x2), some (zi (1 : Int32)), none, none]) dX11_rank_26 rfl (by decide) rfl ?_
      refine zr_iconst (v := (0 : Int32)) dX11_rank_27 (by decide) ?_
      refine zq_istore (x := (0 : Int32)) (L' := [some (zr (some l0)), some (zi l1), some (zr x2), some (zi (1 : Int32)), some (zi (0 : Int32)), none]) dX11_rank_28 (by decide) rfl ?_
      refine zr_forget 1 (L' := [some (zr (some l0)), none, some (zr x2), some (zi (1 : Int32)), some (zi (0 : Int32)), none]) rfl ?_
      exact s_X11_rank_30 hg N N l0 x2 (1 : Int32) (0 : Int32) h r hf
theorem c_X11_rank {g : zG} (hg : g.2.1.map (fun q => q.2) = zty) {N : Nat} {l0 : Nat} {l1 : Int32} {h : zH} {r : Int32} (hf : f_X11_rank N l0 l1 h = some r) : zCa g jX11_rank [zr (some l0), zi l1] h (some (zi r)) h :=
  zCa.of hg (by decide +kernel) (Nat.le_of_ble_eq_true rfl) (s_X11_rank hg N l0 l1 h r hf)
theorem dX11_isDay_0 : decode cX11_isDay 0 = .ok (.iload_n 0, 1) := by decide +kernel
theorem dX11_isDay_1 : decode cX11_isDay 1 = .ok (.ifCond .lt 14, 3) := by decide +kernel
theorem dX11_isDay_4 : decode cX11_isDay 4 = .ok (.iload_n 0, 1) := by decide +kernel
theorem dX11_isDay_5 : decode cX11_isDay 5 = .ok (.ldc_w 274, 3) := by decide +kernel
theorem dX11_isDay_8 : decode cX11_isDay 8 = .ok (.if_icmp .gt 7, 3) := by decide +kernel
theorem dX11_isDay_11 : decode cX11_isDay 11 = .ok (.iconst 1, 1) := by decide +kernel
theorem dX11_isDay_12 : decode cX11_isDay 12 = .ok (.goto 4, 3) := by decide +kernel
theorem dX11_isDay_15 : decode cX11_isDay 15 = .ok (.iconst 0, 1) := by decide +kernel
theorem dX11_isDay_16 : decode cX11_isDay 16 = .ok (.ireturn, 1) := by decide +kernel
def f_X11_isDay (N : Nat) (l0 : Int32) (h : zH) : Option Int32 := if l0 < 0 then some (0 : Int32) else if (36500 : Int32) < l0 then some (0 : Int32) else some (1 : Int32)
set_option maxHeartbeats 4000000 in
set_option maxRecDepth 100000 in
theorem s_X11_isDay {g : zG} (hg : g.2.1.map (fun q => q.2) = zty) {h0 : zH} (N : Nat) (l0 : Int32) (h : zH) (r : Int32) (hf : f_X11_isDay N l0 h = some r) : zR g jX11_isDay h0 0 [some (zi l0)] [] h (some (zi r)) h := by
  unfold f_X11_isDay at hf
  refine zr_iload_n (x := l0) dX11_isDay_0 rfl rfl ?_
  by_cases hc1 : l0 < 0
  · rw [if_pos hc1] at hf
    refine zr_iflt_t (tgt := 15) dX11_isDay_1 (by decide) hc1 ?_
    refine zr_iconst (v := (0 : Int32)) dX11_isDay_15 (by decide) ?_
    cases hf
    exact zr_ret _ rfl dX11_isDay_16
  · rw [if_neg hc1] at hf
    refine zr_iflt_f 15 dX11_isDay_1 (by decide) hc1 ?_
    refine zr_iload_n (x := l0) dX11_isDay_4 rfl rfl ?_
    refine zr_ldcw (v := (36500 : Int32)) kw_518 dX11_isDay_5 ?_
    by_cases hc2 : (36500 : Int32) < l0
    · rw [if_pos hc2] at hf
      refine zr_icgt_t (tgt := 15) dX11_isDay_8 (by decide) hc2 ?_
      refine zr_iconst (v := (0 : Int32)) dX11_isDay_15 (by decide) ?_
      cases hf
      exact zr_ret _ rfl dX11_isDay_16
    · rw [if_neg hc2] at hf
      refine zr_icgt_f 15 dX11_isDay_8 (by decide) hc2 ?_
      refine zr_iconst (v := (1 : Int32)) dX11_isDay_11 (by decide) ?_
      refine zr_goto (tgt := 16) dX11_isDay_12 (by decide) ?_
      cases hf
      exact zr_ret _ rfl dX11_isDay_16
theorem c_X11_isDay {g : zG} (hg : g.2.1.map (fun q => q.2) = zty) {N : Nat} {l0 : Int32} {h : zH} {r : Int32} (hf : f_X11_isDay N l0 h = some r) : zCa g jX11_isDay [zi l0] h (some (zi r)) h :=
  zCa.of hg (by decide +kernel) (Nat.le_of_ble_eq_true rfl) (s_X11_isDay hg N l0 h r hf)
theorem dX11_today_0 : decode cX11_today 0 = .ok (.iload_n 1, 1) := by decide +kernel
theorem dX11_today_1 : decode cX11_today 1 = .ok (.invokestatic 192, 3) := by decide +kernel
theorem dX11_today_4 : decode cX11_today 4 = .ok (.ifCond .eq 14, 3) := by decide +kernel
theorem dX11_today_7 : decode cX11_today 7 = .ok (.iload_n 1, 1) := by decide +kernel
theorem dX11_today_8 : decode cX11_today 8 = .ok (.aload_n 0, 1) := by decide +kernel
theorem dX11_today_9 : decode cX11_today 9 = .ok (.getfield 39, 3) := by decide +kernel
theorem dX11_today_12 : decode cX11_today 12 = .ok (.getfield 196, 3) := by decide +kernel
theorem dX11_today_15 : decode cX11_today 15 = .ok (.if_icmp .ge 5, 3) := by decide +kernel
theorem dX11_today_18 : decode cX11_today 18 = .ok (.iconst 0, 1) := by decide +kernel
theorem dX11_today_19 : decode cX11_today 19 = .ok (.ireturn, 1) := by decide +kernel
theorem dX11_today_20 : decode cX11_today 20 = .ok (.aload_n 0, 1) := by decide +kernel
theorem dX11_today_21 : decode cX11_today 21 = .ok (.invokevirtual 56, 3) := by decide +kernel
theorem dX11_today_24 : decode cX11_today 24 = .ok (.iload_n 1, 1) := by decide +kernel
theorem dX11_today_25 : decode cX11_today 25 = .ok (.putfield 196, 3) := by decide +kernel
theorem dX11_today_28 : decode cX11_today 28 = .ok (.iconst 1, 1) := by decide +kernel
theorem dX11_today_29 : decode cX11_today 29 = .ok (.ireturn, 1) := by decide +kernel
def f_X11_today (N : Nat) (l0 : Nat) (l1 : Int32) (h : zH) : Option (Int32 × zH) := (f_X11_isDay N l1 h).bind fun x1 => if x1 = 0 then some ((0 : Int32), h) else (zgR h 11 (some l0) 5).bind fun x2 => (zgI h 9 x2 4).bind fun x3 => if x3 ≤ l1 then (zck h 11 (some l0)).bind fun q1 => zb2 (f_X11_change N q1 h) fun x4 h1 => (zpu h1 9 x4 4 (zi l1)).bind fun h2 => some ((1 : Int32), h2) else some ((0 : Int32), h)
set_option maxHeartbeats 4000000 in
set_option maxRecDepth 100000 in
theorem s_X11_today {g : zG} (hg : g.2.1.map (fun q => q.2) = zty) {h0 : zH} (N : Nat) (l0 : Nat) (l1 : Int32) (h : zH) (r : Int32) (h' : zH) (hf : f_X11_today N l0 l1 h = some (r, h')) : zR g jX11_today h0 0 [some (zr (some l0)), some (zi l1)] [] h (some (zi r)) h' := by
  unfold f_X11_today at hf
  refine zr_iload_n (x := l1) dX11_today_0 rfl rfl ?_
  revert hf; refine zbi (fun x1 e_x1 hf => ?_)
  refine zq_callS (J' := jX11_isDay) (as := [zi l1]) (rest := []) (r1 := (some (zi x1))) kw_519 km_X11_isDay kt_429 dX11_today_1 rfl (Nat.le_of_ble_eq_true rfl) rfl (c_X11_isDay hg e_x1) ?_
  by_cases hc1 : x1 = 0
  · rw [if_pos hc1] at hf
    refine zr_ifeq_t (tgt := 18) dX11_today_4 (by decide) hc1 ?_
    refine zr_iconst (v := (0 : Int32)) dX11_today_18 (by decide) ?_
    cases hf
    exact zr_ret _ rfl dX11_today_19
  · rw [if_neg hc1] at hf
    refine zr_ifeq_f 18 dX11_today_4 (by decide) hc1 ?_
    refine zr_iload_n (x := l1) dX11_today_7 rfl rfl ?_
    refine zr_aload_n (v := .inl (some l0)) dX11_today_8 rfl rfl ?_
    revert hf; refine zbi (fun x2 e_x2 hf => ?_)
    refine zq_getR kg_332 dX11_today_9 e_x2 ?_
    revert hf; refine zbi (fun x3 e_x3 hf => ?_)
    refine zq_getI kg_430 dX11_today_12 e_x3 ?_
    by_cases hc2 : x3 ≤ l1
    · rw [if_pos hc2] at hf
      refine zr_icge_t (tgt := 20) dX11_today_15 (by decide) hc2 ?_
      refine zr_aload_n (v := .inl (some l0)) dX11_today_20 rfl rfl ?_
      revert hf; refine zbi (fun q1 e_q1 hf => ?_)
      revert hf; refine zbi2 (fun x4 h1 e_x4 hf => ?_)
      refine zq_callV (J' := jX11_change) (as := []) (rest := []) (r1 := (some (zr x4))) (q := (RX11, TX11, 6)) kw_420 km_X11_change kt_431 dX11_today_21 rfl (Nat.le_of_ble_eq_true rfl) rfl rfl e_q1 rfl (c_X11_change hg e_x4) ?_
      refine zr_iload_n (x := l1) dX11_today_24 rfl rfl ?_
      revert hf; refine zbi (fun h2 e_h2 hf => ?_)
      refine zq_put (kp_432 _) dX11_today_25 (zn_i _) e_h2 ?_
      refine zr_iconst (v := (1 : Int32)) dX11_today_28 (by decide) ?_
      cases hf
      exact zr_ret _ rfl dX11_today_29
    · rw [if_neg hc2] at hf
      refine zr_icge_f 20 dX11_today_15 (by decide) hc2 ?_
      refine zr_iconst (v := (0 : Int32)) dX11_today_18 (by decide) ?_
      cases hf
      exact zr_ret _ rfl dX11_today_19
theorem c_X11_today {g : zG} (hg : g.2.1.map (fun q => q.2) = zty) {N : Nat} {l0 : Nat} {l1 : Int32} {h : zH} {r : Int32} {h' : zH} (hf : f_X11_today N l0 l1 h = some (r, h')) : zCa g jX11_today [zr (some l0), zi l1] h (some (zi r)) h' :=
  zCa.of hg (by decide +kernel) (Nat.le_of_ble_eq_true rfl) (s_X11_today hg N l0 l1 h r h' hf)
theorem dX11_isScore_0 : decode cX11_isScore 0 = .ok (.iload_n 0, 1) := by decide +kernel
theorem dX11_isScore_1 : decode cX11_isScore 1 = .ok (.ifCond .lt 14, 3) := by decide +kernel
theorem dX11_isScore_4 : decode cX11_isScore 4 = .ok (.iload_n 0, 1) := by decide +kernel
theorem dX11_isScore_5 : decode cX11_isScore 5 = .ok (.sipush 2000, 3) := by decide +kernel
theorem dX11_isScore_8 : decode cX11_isScore 8 = .ok (.if_icmp .gt 7, 3) := by decide +kernel
theorem dX11_isScore_11 : decode cX11_isScore 11 = .ok (.iconst 1, 1) := by decide +kernel
theorem dX11_isScore_12 : decode cX11_isScore 12 = .ok (.goto 4, 3) := by decide +kernel
theorem dX11_isScore_15 : decode cX11_isScore 15 = .ok (.iconst 0, 1) := by decide +kernel
theorem dX11_isScore_16 : decode cX11_isScore 16 = .ok (.ireturn, 1) := by decide +kernel
def f_X11_isScore (N : Nat) (l0 : Int32) (h : zH) : Option Int32 := if l0 < 0 then some (0 : Int32) else if (2000 : Int32) < l0 then some (0 : Int32) else some (1 : Int32)
set_option maxHeartbeats 4000000 in
set_option maxRecDepth 100000 in
theorem s_X11_isScore {g : zG} (hg : g.2.1.map (fun q => q.2) = zty) {h0 : zH} (N : Nat) (l0 : Int32) (h : zH) (r : Int32) (hf : f_X11_isScore N l0 h = some r) : zR g jX11_isScore h0 0 [some (zi l0)] [] h (some (zi r)) h := by
  unfold f_X11_isScore at hf
  refine zr_iload_n (x := l0) dX11_isScore_0 rfl rfl ?_
  by_cases hc1 : l0 < 0
  · rw [if_pos hc1] at hf
    refine zr_iflt_t (tgt := 15) dX11_isScore_1 (by decide) hc1 ?_
    refine zr_iconst (v := (0 : Int32)) dX11_isScore_15 (by decide) ?_
    cases hf
    exact zr_ret _ rfl dX11_isScore_16
  · rw [if_neg hc1] at hf
    refine zr_iflt_f 15 dX11_isScore_1 (by decide) hc1 ?_
    refine zr_iload_n (x := l0) dX11_isScore_4 rfl rfl ?_
    refine zr_sipush (v := (2000 : Int32)) dX11_isScore_5 (by decide) ?_
    by_cases hc2 : (2000 : Int32) < l0
    · rw [if_pos hc2] at hf
      refine zr_icgt_t (tgt := 15) dX11_isScore_8 (by decide) hc2 ?_
      refine zr_iconst (v := (0 : Int32)) dX11_isScore_15 (by decide) ?_
      cases hf
      exact zr_ret _ rfl dX11_isScore_16
    · rw [if_neg hc2] at hf
      refine zr_icgt_f 15 dX11_isScore_8 (by decide) hc2 ?_
      refine zr_iconst (v := (1 : Int32)) dX11_isScore_11 (by decide) ?_
      refine zr_goto (tgt := 16) dX11_isScore_12 (by decide) ?_
      cases hf
      exact zr_ret _ rfl dX11_isScore_16
theorem c_X11_isScore {g : zG} (hg : g.2.1.map (fun q => q.2) = zty) {N : Nat} {l0 : Int32} {h : zH} {r : Int32} (hf : f_X11_isScore N l0 h = some r) : zCa g jX11_isScore [zi l0] h (some (zi r)) h :=
  zCa.of hg (by decide +kernel) (Nat.le_of_ble_eq_true rfl) (s_X11_isScore hg N l0 h r hf)
theorem dX11_score_0 : decode cX11_score 0 = .ok (.aload_n 0, 1) := by decide +kernel
theorem dX11_score_1 : decode cX11_score 1 = .ok (.getfield 39, 3) := by decide +kernel
theorem dX11_score_4 : decode cX11_score 4 = .ok (.iload_n 1, 1) := by decide +kernel
theorem dX11_score_5 : decode cX11_score 5 = .ok (.invokevirtual 101, 3) := by decide +kernel
theorem dX11_score_8 : decode cX11_score 8 = .ok (.astore 4, 2) := by decide +kernel
theorem dX11_score_10 : decode cX11_score 10 = .ok (.aload 4, 2) := by decide +kernel
theorem dX11_score_12 : decode cX11_score 12 = .ok (.ifnull 30, 3) := by decide +kernel
theorem dX11_score_15 : decode cX11_score 15 = .ok (.iload_n 2, 1) := by decide +kernel
theorem dX11_score_16 : decode cX11_score 16 = .ok (.invokestatic 192, 3) := by decide +kernel
theorem dX11_score_19 : decode cX11_score 19 = .ok (.ifCond .eq 23, 3) := by decide +kernel
theorem dX11_score_22 : decode cX11_score 22 = .ok (.iload_n 3, 1) := by decide +kernel
theorem dX11_score_23 : decode cX11_score 23 = .ok (.invokestatic 199, 3) := by decide +kernel
theorem dX11_score_26 : decode cX11_score 26 = .ok (.ifCond .eq 16, 3) := by decide +kernel
theorem dX11_score_29 : decode cX11_score 29 = .ok (.aload 4, 2) := by decide +kernel
theorem dX11_score_31 : decode cX11_score 31 = .ok (.getfield 132, 3) := by decide +kernel
theorem dX11_score_34 : decode cX11_score 34 = .ok (.invokevirtual 136, 3) := by decide +kernel
theorem dX11_score_37 : decode cX11_score 37 = .ok (.bipush 30, 2) := by decide +kernel
theorem dX11_score_39 : decode cX11_score 39 = .ok (.if_icmp .lt 5, 3) := by decide +kernel
theorem dX11_score_42 : decode cX11_score 42 = .ok (.iconst (-1), 1) := by decide +kernel
theorem dX11_score_43 : decode cX11_score 43 = .ok (.ireturn, 1) := by decide +kernel
theorem dX11_score_44 : decode cX11_score 44 = .ok (.aload_n 0, 1) := by decide +kernel
theorem dX11_score_45 : decode cX11_score 45 = .ok (.invokevirtual 56, 3) := by decide +kernel
theorem dX11_score_48 : decode cX11_score 48 = .ok (.iload_n 1, 1) := by decide +kernel
theorem dX11_score_49 : decode cX11_score 49 = .ok (.aload 4, 2) := by decide +kernel
theorem dX11_score_51 : decode cX11_score 51 = .ok (.aload 4, 2) := by decide +kernel
theorem dX11_score_53 : decode cX11_score 53 = .ok (.getfield 132, 3) := by decide +kernel
theorem dX11_score_56 : decode cX11_score 56 = .ok (.iload_n 2, 1) := by decide +kernel
theorem dX11_score_57 : decode cX11_score 57 = .ok (.iload_n 3, 1) := by decide +kernel
theorem dX11_score_58 : decode cX11_score 58 = .ok (.aload_n 0, 1) := by decide +kernel
theorem dX11_score_59 : decode cX11_score 59 = .ok (.getfield 39, 3) := by decide +kernel
theorem dX11_score_62 : decode cX11_score 62 = .ok (.getfield 196, 3) := by decide +kernel
theorem dX11_score_65 : decode cX11_score 65 = .ok (.invokevirtual 202, 3) := by decide +kernel
theorem dX11_score_68 : decode cX11_score 68 = .ok (.invokevirtual 205, 3) := by decide +kernel
theorem dX11_score_71 : decode cX11_score 71 = .ok (.invokevirtual 97, 3) := by decide +kernel
theorem dX11_score_74 : decode cX11_score 74 = .ok (.aload 4, 2) := by decide +kernel
theorem dX11_score_76 : decode cX11_score 76 = .ok (.getfield 132, 3) := by decide +kernel
theorem dX11_score_79 : decode cX11_score 79 = .ok (.invokevirtual 136, 3) := by decide +kernel
theorem dX11_score_82 : decode cX11_score 82 = .ok (.ireturn, 1) := by decide +kernel
def f_X11_score (N : Nat) (l0 : Nat) (l1 : Int32) (l2 : Int32) (l3 : Int32) (h : zH) : Option (Int32 × zH) := (zgR h 11 (some l0) 5).bind fun x1 => (zck h 9 x1).bind fun q1 => (f_X9_find N q1 l1 h).bind fun x2 => if x2 = none then some (((-1) : Int32), h) else (f_X11_isDay N l2 h).bind fun x3 => if x3 = 0 then some (((-1) : Int32), h) else (f_X11_isScore N l3 h).bind fun x4 => if x4 = 0 then some (((-1) : Int32), h) else (zgR h 0 x2 2).bind fun x5 => (zck h 7 x5).bind fun q2 => (f_X7_count N q2 h).bind fun x6 => if x6 < (30 : Int32) then (zck h 11 (some l0)).bind fun q3 => zb2 (f_X11_change N q3 h) fun x7 h1 => (zgR h1 0 x2 2).bind fun x8 => (zgR h1 11 (some l0) 5).bind fun x9 => (zgI h1 9 x9 4).bind fun x10 => (zck h1 7 x8).bind fun q4 => zb2 (f_X7_with N q4 l2 l3 x10 h1) fun x11 h2 => (zck h2 0 x2).bind fun q5 => zb2 (f_X0_with_ N q5 x11 h2) fun x12 h3 => (zck h3 9 x7).bind fun q6 => (f_X9_put N q6 l1 x12 h3).bind fun h4 => (zgR h4 0 x2 2).bind fun x13 => (zck h4 7 x13).bind fun q7 => (f_X7_count N q7 h4).bind fun x14 => some (x14, h4) else some (((-1) : Int32), h)
set_option maxHeartbeats 4000000 in
set_option maxRecDepth 100000 in
theorem s_X11_score {g : zG} (hg : g.2.1.map (fun q => q.2) = zty) {h0 : zH} (N : Nat) (l0 : Nat) (l1 : Int32) (l2 : Int32) (l3 : Int32) (h : zH) (r : Int32) (h' : zH) (hf : f_X11_score N l0 l1 l2 l3 h = some (r, h')) : zR g jX11_score h0 0 [some (zr (some l0)), some (zi l1), some (zi l2), some (zi l3), none] [] h (some (zi r)) h' := by
  unfold f_X11_score at hf
  refine zr_aload_n (v := .inl (some l0)) dX11_score_0 rfl rfl ?_
  revert hf; refine zbi (fun x1 e_x1 hf => ?_)
  refine zq_getR kg_332 dX11_score_1 e_x1 ?_
  refine zr_iload_n (x := l1) dX11_score_4 rfl rfl ?_
  revert hf; refine zbi (fun q1 e_q1 hf => ?_)
  revert hf; refine zbi (fun x2 e_x2 hf => ?_)
  refine zq_callV (J' := jX9_find) (as := [zi l1]) (rest := []) (r1 := (some (zr x2))) (q := (RX9, TX9, 5)) kw_452 km_X9_find kt_433 dX11_score_5 rfl (Nat.le_of_ble_eq_true rfl) rfl rfl e_q1 rfl (c_X9_find hg e_x2) ?_
  refine zq_astore (v := .inl x2) (L' := [some (zr (some l0)), some (zi l1), some (zi l2), some (zi l3), some (zr x2)]) dX11_score_8 (by decide) rfl ?_
  refine zr_aload (v := .inl x2) dX11_score_10 rfl ?_
  by_cases hc1 : x2 = none
  · rw [if_pos hc1] at hf
    refine zr_ifnull_t (tgt := 42) dX11_score_12 (by decide) hc1 ?_
    refine zr_iconst (v := ((-1) : Int32)) dX11_score_42 (by decide) ?_
    cases hf
    exact zr_ret _ rfl dX11_score_43
  · rw [if_neg hc1] at hf
    refine zr_ifnull_f dX11_score_12 hc1 ?_
    refine zr_iload_n (x := l2) dX11_score_15 rfl rfl ?_
    revert hf; refine zbi (fun x3 e_x3 hf => ?_)
    refine zq_callS (J' := jX11_isDay) (as := [zi l2]) (rest := []) (r1 := (some (zi x3))) kw_519 km_X11_isDay kt_434 dX11_score_16 rfl (Nat.le_of_ble_eq_true rfl) rfl (c_X11_isDay hg e_x3) ?_
    by_cases hc2 : x3 = 0
    · rw [if_pos hc2] at hf
      refine zr_ifeq_t (tgt := 42) dX11_score_19 (by decide) hc2 ?_
      refine zr_iconst (v := ((-1) : Int32)) dX11_score_42 (by decide) ?_
      cases hf
      exact zr_ret _ rfl dX11_score_43
    · rw [if_neg hc2] at hf
      refine zr_ifeq_f 42 dX11_score_19 (by decide) hc2 ?_
      refine zr_iload_n (x := l3) dX11_score_22 rfl rfl ?_
      revert hf; refine zbi (fun x4 e_x4 hf => ?_)
      refine zq_callS (J' := jX11_isScore) (as := [zi l3]) (rest := []) (r1 := (some (zi x4))) kw_523 km_X11_isScore kt_436 dX11_score_23 rfl (Nat.le_of_ble_eq_true rfl) rfl (c_X11_isScore hg e_x4) ?_
      by_cases hc3 : x4 = 0
      · rw [if_pos hc3] at hf
        refine zr_ifeq_t (tgt := 42) dX11_score_26 (by decide) hc3 ?_
        refine zr_iconst (v := ((-1) : Int32)) dX11_score_42 (by decide) ?_
        cases hf
        exact zr_ret _ rfl dX11_score_43
      · rw [if_neg hc3] at hf
        refine zr_ifeq_f 42 dX11_score_26 (by decide) hc3 ?_
        refine zr_aload (v := .inl x2) dX11_score_29 rfl ?_
        revert hf; refine zbi (fun x5 e_x5 hf => ?_)
        refine zq_getR kg_378 dX11_score_31 e_x5 ?_
        revert hf; refine zbi (fun q2 e_q2 hf => ?_)
        revert hf; refine zbi (fun x6 e_x6 hf => ?_)
        refine zq_callV (J' := jX7_count) (as := []) (rest := []) (r1 := (some (zi x6))) (q := (RX7, TX7, 1)) kw_471 km_X7_count kt_437 dX11_score_34 rfl (Nat.le_of_ble_eq_true rfl) rfl rfl e_q2 rfl (c_X7_count hg e_x6) ?_
        refine zr_bipush (v := (30 : Int32)) dX11_score_37 (by decide) ?_
        by_cases hc4 : x6 < (30 : Int32)
        · rw [if_pos hc4] at hf
          refine zr_iclt_t (tgt := 44) dX11_score_39 (by decide) hc4 ?_
          refine zr_aload_n (v := .inl (some l0)) dX11_score_44 rfl rfl ?_
          revert hf; refine zbi (fun q3 e_q3 hf => ?_)
          revert hf; refine zbi2 (fun x7 h1 e_x7 hf => ?_)
          refine zq_callV (J' := jX11_change) (as := []) (rest := []) (r1 := (some (zr x7))) (q := (RX11, TX11, 6)) kw_420 km_X11_change kt_438 dX11_score_45 rfl (Nat.le_of_ble_eq_true rfl) rfl rfl e_q3 rfl (c_X11_change hg e_x7) ?_
          refine zr_iload_n (x := l1) dX11_score_48 rfl rfl ?_
          refine zr_aload (v := .inl x2) dX11_score_49 rfl ?_
          refine zr_aload (v := .inl x2) dX11_score_51 rfl ?_
          revert hf; refine zbi (fun x8 e_x8 hf => ?_)
          refine zq_getR kg_378 dX11_score_53 e_x8 ?_
          refine zr_iload_n (x := l2) dX11_score_56 rfl rfl ?_
          refine zr_iload_n (x := l3) dX11_score_57 rfl rfl ?_
          refine zr_aload_n (v := .inl (some l0)) dX11_score_58 rfl rfl ?_
          revert hf; refine zbi (fun x9 e_x9 hf => ?_)
          refine zq_getR kg_332 dX11_score_59 e_x9 ?_
          revert hf; refine zbi (fun x10 e_x10 hf => ?_)
          refine zq_getI kg_430 dX11_score_62 e_x10 ?_
          revert hf; refine zbi (fun q4 e_q4 hf => ?_)
          revert hf; refine zbi2 (fun x11 h2 e_x11 hf => ?_)
          refine zq_callV (J' := jX7_with) (as := [zi l2, zi l3, zi x10]) (rest := [zr x2, zi l1, zr x7]) (r1 := (some (zr x11))) (q := (RX7, TX7, 1)) kw_526 km_X7_with kt_440 dX11_score_65 rfl (Nat.le_of_ble_eq_true rfl) rfl rfl e_q4 rfl (c_X7_with hg e_x11) ?_
          revert hf; refine zbi (fun q5 e_q5 hf => ?_)
          revert hf; refine zbi2 (fun x12 h3 e_x12 hf => ?_)
          refine zq_callV (J' := jX0_with_) (as := [zr x11]) (rest := [zi l1, zr x7]) (r1 := (some (zr x12))) (q := (RX0, TX0, 3)) kw_530 km_X0_with_ kt_442 dX11_score_68 rfl (Nat.le_of_ble_eq_true rfl) rfl rfl e_q5 rfl (c_X0_with_ hg e_x12) ?_
          revert hf; refine zbi (fun q6 e_q6 hf => ?_)
          revert hf; refine zbi (fun h4 e_h4 hf => ?_)
          refine zq_callV (J' := jX9_put) (as := [zi l1, zr x12]) (rest := []) (r1 := none) (q := (RX9, TX9, 5)) kw_448 km_X9_put kt_443 dX11_score_71 rfl (Nat.le_of_ble_eq_true rfl) rfl rfl e_q6 rfl (c_X9_put hg e_h4) ?_
          refine zr_aload (v := .inl x2) dX11_score_74 rfl ?_
          revert hf; refine zbi (fun x13 e_x13 hf => ?_)
          refine zq_getR kg_378 dX11_score_76 e_x13 ?_
          revert hf; refine zbi (fun q7 e_q7 hf => ?_)
          revert hf; refine zbi (fun x14 e_x14 hf => ?_)
          refine zq_callV (J' := jX7_count) (as := []) (rest := []) (r1 := (some (zi x14))) (q := (RX7, TX7, 1)) kw_471 km_X7_count kt_437 dX11_score_79 rfl (Nat.le_of_ble_eq_true rfl) rfl rfl e_q7 rfl (c_X7_count hg e_x14) ?_
          cases hf
          exact zr_ret _ rfl dX11_score_82
        · rw [if_neg hc4] at hf
          refine zr_iclt_f 44 dX11_score_39 (by decide) hc4 ?_
          refine zr_iconst (v := ((-1) : Int32)) dX11_score_42 (by decide) ?_
          cases hf
          exact zr_ret _ rfl dX11_score_43
theorem c_X11_score {g : zG} (hg : g.2.1.map (fun q => q.2) = zty) {N : Nat} {l0 : Nat} {l1 : Int32} {l2 : Int32} {l3 : Int32} {h : zH} {r : Int32} {h' : zH} (hf : f_X11_score N l0 l1 l2 l3 h = some (r, h')) : zCa g jX11_score [zr (some l0), zi l1, zi l2, zi l3] h (some (zi r)) h' :=
  zCa.of hg (by decide +kernel) (Nat.le_of_ble_eq_true rfl) (s_X11_score hg N l0 l1 l2 l3 h r h' hf)
theorem dX11_strike_0 : decode cX11_strike 0 = .ok (.aload_n 0, 1) := by decide +kernel
theorem dX11_strike_1 : decode cX11_strike 1 = .ok (.getfield 39, 3) := by decide +kernel
theorem dX11_strike_4 : decode cX11_strike 4 = .ok (.iload_n 1, 1) := by decide +kernel
theorem dX11_strike_5 : decode cX11_strike 5 = .ok (.invokevirtual 101, 3) := by decide +kernel
theorem dX11_strike_8 : decode cX11_strike 8 = .ok (.astore_n 3, 1) := by decide +kernel
theorem dX11_strike_9 : decode cX11_strike 9 = .ok (.aload_n 3, 1) := by decide +kernel
theorem dX11_strike_10 : decode cX11_strike 10 = .ok (.ifnull 14, 3) := by decide +kernel
theorem dX11_strike_13 : decode cX11_strike 13 = .ok (.aload_n 3, 1) := by decide +kernel
theorem dX11_strike_14 : decode cX11_strike 14 = .ok (.getfield 132, 3) := by decide +kernel
theorem dX11_strike_17 : decode cX11_strike 17 = .ok (.iload_n 2, 1) := by decide +kernel
theorem dX11_strike_18 : decode cX11_strike 18 = .ok (.invokevirtual 208, 3) := by decide +kernel
theorem dX11_strike_21 : decode cX11_strike 21 = .ok (.ifCond .ne 5, 3) := by decide +kernel
theorem dX11_strike_24 : decode cX11_strike 24 = .ok (.iconst 0, 1) := by decide +kernel
theorem dX11_strike_25 : decode cX11_strike 25 = .ok (.ireturn, 1) := by decide +kernel
theorem dX11_strike_26 : decode cX11_strike 26 = .ok (.aload_n 0, 1) := by decide +kernel
theorem dX11_strike_27 : decode cX11_strike 27 = .ok (.invokevirtual 56, 3) := by decide +kernel
theorem dX11_strike_30 : decode cX11_strike 30 = .ok (.iload_n 1, 1) := by decide +kernel
theorem dX11_strike_31 : decode cX11_strike 31 = .ok (.aload_n 3, 1) := by decide +kernel
theorem dX11_strike_32 : decode cX11_strike 32 = .ok (.aload_n 3, 1) := by decide +kernel
theorem dX11_strike_33 : decode cX11_strike 33 = .ok (.getfield 132, 3) := by decide +kernel
theorem dX11_strike_36 : decode cX11_strike 36 = .ok (.iload_n 2, 1) := by decide +kernel
theorem dX11_strike_37 : decode cX11_strike 37 = .ok (.aload_n 0, 1) := by decide +kernel
theorem dX11_strike_38 : decode cX11_strike 38 = .ok (.getfield 39, 3) := by decide +kernel
theorem dX11_strike_41 : decode cX11_strike 41 = .ok (.getfield 196, 3) := by decide +kernel
theorem dX11_strike_44 : decode cX11_strike 44 = .ok (.invokevirtual 211, 3) := by decide +kernel
theorem dX11_strike_47 : decode cX11_strike 47 = .ok (.invokevirtual 205, 3) := by decide +kernel
theorem dX11_strike_50 : decode cX11_strike 50 = .ok (.invokevirtual 97, 3) := by decide +kernel
theorem dX11_strike_53 : decode cX11_strike 53 = .ok (.iconst 1, 1) := by decide +kernel
theorem dX11_strike_54 : decode cX11_strike 54 = .ok (.ireturn, 1) := by decide +kernel
def f_X11_strike (N : Nat) (l0 : Nat) (l1 : Int32) (l2 : Int32) (h : zH) : Option (Int32 × zH) := (zgR h 11 (some l0) 5).bind fun x1 => (zck h 9 x1).bind fun q1 => (f_X9_find N q1 l1 h).bind fun x2 => if x2 = none then some ((0 : Int32), h) else (zgR h 0 x2 2).bind fun x3 => (zck h 7 x3).bind fun q2 => (f_X7_canStrike N q2 l2 h).bind fun x4 => if x4 = 0 then some ((0 : Int32), h) else (zck h 11 (some l0)).bind fun q3 => zb2 (f_X11_change N q3 h) fun x5 h1 => (zgR h1 0 x2 2).bind fun x6 => (zgR h1 11 (some l0) 5).bind fun x7 => (zgI h1 9 x7 4).bind fun x8 => (zck h1 7 x6).bind fun q4 => zb2 (f_X7_withStruck N q4 l2 x8 h1) fun x9 h2 => (zck h2 0 x2).bind fun q5 => zb2 (f_X0_with_ N q5 x9 h2) fun x10 h3 => (zck h3 9 x5).bind fun q6 => (f_X9_put N q6 l1 x10 h3).bind fun h4 => some ((1 : Int32), h4)
set_option maxHeartbeats 4000000 in
set_option maxRecDepth 100000 in
theorem s_X11_strike {g : zG} (hg : g.2.1.map (fun q => q.2) = zty) {h0 : zH} (N : Nat) (l0 : Nat) (l1 : Int32) (l2 : Int32) (h : zH) (r : Int32) (h' : zH) (hf : f_X11_strike N l0 l1 l2 h = some (r, h')) : zR g jX11_strike h0 0 [some (zr (some l0)), some (zi l1), some (zi l2), none] [] h (some (zi r)) h' := by
  unfold f_X11_strike at hf
  refine zr_aload_n (v := .inl (some l0)) dX11_strike_0 rfl rfl ?_
  revert hf; refine zbi (fun x1 e_x1 hf => ?_)
  refine zq_getR kg_332 dX11_strike_1 e_x1 ?_
  refine zr_iload_n (x := l1) dX11_strike_4 rfl rfl ?_
  revert hf; refine zbi (fun q1 e_q1 hf => ?_)
  revert hf; refine zbi (fun x2 e_x2 hf => ?_)
  refine zq_callV (J' := jX9_find) (as := [zi l1]) (rest := []) (r1 := (some (zr x2))) (q := (RX9, TX9, 5)) kw_452 km_X9_find kt_444 dX11_strike_5 rfl (Nat.le_of_ble_eq_true rfl) rfl rfl e_q1 rfl (c_X9_find hg e_x2) ?_
  refine zq_astore_n (v := .inl x2) (L' := [some (zr (some l0)), some (zi l1), some (zi l2), some (zr x2)]) dX11_strike_8 rfl (by decide) rfl ?_
  refine zr_aload_n (v := .inl x2) dX11_strike_9 rfl rfl ?_
  by_cases hc1 : x2 = none
  · rw [if_pos hc1] at hf
    refine zr_ifnull_t (tgt := 24) dX11_strike_10 (by decide) hc1 ?_
    refine zr_iconst (v := (0 : Int32)) dX11_strike_24 (by decide) ?_
    cases hf
    exact zr_ret _ rfl dX11_strike_25
  · rw [if_neg hc1] at hf
    refine zr_ifnull_f dX11_strike_10 hc1 ?_
    refine zr_aload_n (v := .inl x2) dX11_strike_13 rfl rfl ?_
    revert hf; refine zbi (fun x3 e_x3 hf => ?_)
    refine zq_getR kg_378 dX11_strike_14 e_x3 ?_
    refine zr_iload_n (x := l2) dX11_strike_17 rfl rfl ?_
    revert hf; refine zbi (fun q2 e_q2 hf => ?_)
    revert hf; refine zbi (fun x4 e_x4 hf => ?_)
    refine zq_callV (J' := jX7_canStrike) (as := [zi l2]) (rest := []) (r1 := (some (zi x4))) (q := (RX7, TX7, 1)) kw_534 km_X7_canStrike kt_446 dX11_strike_18 rfl (Nat.le_of_ble_eq_true rfl) rfl rfl e_q2 rfl (c_X7_canStrike hg e_x4) ?_
    by_cases hc2 : x4 = 0
    · rw [if_pos hc2] at hf
      refine zr_ifne_f 26 dX11_strike_21 (by decide) hc2 ?_
      refine zr_iconst (v := (0 : Int32)) dX11_strike_24 (by decide) ?_
      cases hf
      exact zr_ret _ rfl dX11_strike_25
    · rw [if_neg hc2] at hf
      refine zr_ifne_t (tgt := 26) dX11_strike_21 (by decide) hc2 ?_
      refine zr_aload_n (v := .inl (some l0)) dX11_strike_26 rfl rfl ?_
      revert hf; refine zbi (fun q3 e_q3 hf => ?_)
      revert hf; refine zbi2 (fun x5 h1 e_x5 hf => ?_)
      refine zq_callV (J' := jX11_change) (as := []) (rest := []) (r1 := (some (zr x5))) (q := (RX11, TX11, 6)) kw_420 km_X11_change kt_447 dX11_strike_27 rfl (Nat.le_of_ble_eq_true rfl) rfl rfl e_q3 rfl (c_X11_change hg e_x5) ?_
      refine zr_iload_n (x := l1) dX11_strike_30 rfl rfl ?_
      refine zr_aload_n (v := .inl x2) dX11_strike_31 rfl rfl ?_
      refine zr_aload_n (v := .inl x2) dX11_strike_32 rfl rfl ?_
      revert hf; refine zbi (fun x6 e_x6 hf => ?_)
      refine zq_getR kg_378 dX11_strike_33 e_x6 ?_
      refine zr_iload_n (x := l2) dX11_strike_36 rfl rfl ?_
      refine zr_aload_n (v := .inl (some l0)) dX11_strike_37 rfl rfl ?_
      revert hf; refine zbi (fun x7 e_x7 hf => ?_)
      refine zq_getR kg_332 dX11_strike_38 e_x7 ?_
      revert hf; refine zbi (fun x8 e_x8 hf => ?_)
      refine zq_getI kg_430 dX11_strike_41 e_x8 ?_
      revert hf; refine zbi (fun q4 e_q4 hf => ?_)
      revert hf; refine zbi2 (fun x9 h2 e_x9 hf => ?_)
      refine zq_callV (J' := jX7_withStruck) (as := [zi l2, zi x8]) (rest := [zr x2, zi l1, zr x5]) (r1 := (some (zr x9))) (q := (RX7, TX7, 1)) kw_538 km_X7_withStruck kt_449 dX11_strike_44 rfl (Nat.le_of_ble_eq_true rfl) rfl rfl e_q4 rfl (c_X7_withStruck hg e_x9) ?_
      revert hf; refine zbi (fun q5 e_q5 hf => ?_)
      revert hf; refine zbi2 (fun x10 h3 e_x10 hf => ?_)
      refine zq_callV (J' := jX0_with_) (as := [zr x9]) (rest := [zi l1, zr x5]) (r1 := (some (zr x10))) (q := (RX0, TX0, 3)) kw_530 km_X0_with_ kt_450 dX11_strike_47 rfl (Nat.le_of_ble_eq_true rfl) rfl rfl e_q5 rfl (c_X0_with_ hg e_x10) ?_
      revert hf; refine zbi (fun q6 e_q6 hf => ?_)
      revert hf; refine zbi (fun h4 e_h4 hf => ?_)
      refine zq_callV (J' := jX9_put) (as := [zi l1, zr x10]) (rest := []) (r1 := none) (q := (RX9, TX9, 5)) kw_448 km_X9_put kt_451 dX11_strike_50 rfl (Nat.le_of_ble_eq_true rfl) rfl rfl e_q6 rfl (c_X9_put hg e_h4) ?_
      refine zr_iconst (v := (1 : Int32)) dX11_strike_53 (by decide) ?_
      cases hf
      exact zr_ret _ rfl dX11_strike_54
theorem c_X11_strike {g : zG} (hg : g.2.1.map (fun q => q.2) = zty) {N : Nat} {l0 : Nat} {l1 : Int32} {l2 : Int32} {h : zH} {r : Int32} {h' : zH} (hf : f_X11_strike N l0 l1 l2 h = some (r, h')) : zCa g jX11_strike [zr (some l0), zi l1, zi l2] h (some (zi r)) h' :=
  zCa.of hg (by decide +kernel) (Nat.le_of_ble_eq_true rfl) (s_X11_strike hg N l0 l1 l2 h r h' hf)
theorem dX11_law_0 : decode cX11_law 0 = .ok (.aload_n 0, 1) := by decide +kernel
theorem dX11_law_1 : decode cX11_law 1 = .ok (.getfield 39, 3) := by decide +kernel
theorem dX11_law_4 : decode cX11_law 4 = .ok (.getfield 215, 3) := by decide +kernel
theorem dX11_law_7 : decode cX11_law 7 = .ok (.iload_n 1, 1) := by decide +kernel
theorem dX11_law_8 : decode cX11_law 8 = .ok (.iload_n 2, 1) := by decide +kernel
theorem dX11_law_9 : decode cX11_law 9 = .ok (.invokevirtual 219, 3) := by decide +kernel
theorem dX11_law_12 : decode cX11_law 12 = .ok (.ifCond .eq 10, 3) := by decide +kernel
theorem dX11_law_15 : decode cX11_law 15 = .ok (.iload_n 3, 1) := by decide +kernel
theorem dX11_law_16 : decode cX11_law 16 = .ok (.invokestatic 199, 3) := by decide +kernel
theorem dX11_law_19 : decode cX11_law 19 = .ok (.ifCond .ne 5, 3) := by decide +kernel
theorem dX11_law_22 : decode cX11_law 22 = .ok (.iconst (-1), 1) := by decide +kernel
theorem dX11_law_23 : decode cX11_law 23 = .ok (.ireturn, 1) := by decide +kernel
theorem dX11_law_24 : decode cX11_law 24 = .ok (.aload_n 0, 1) := by decide +kernel
theorem dX11_law_25 : decode cX11_law 25 = .ok (.invokevirtual 56, 3) := by decide +kernel
theorem dX11_law_28 : decode cX11_law 28 = .ok (.astore 4, 2) := by decide +kernel
theorem dX11_law_30 : decode cX11_law 30 = .ok (.aload 4, 2) := by decide +kernel
theorem dX11_law_32 : decode cX11_law 32 = .ok (.aload 4, 2) := by decide +kernel
theorem dX11_law_34 : decode cX11_law 34 = .ok (.getfield 215, 3) := by decide +kernel
theorem dX11_law_37 : decode cX11_law 37 = .ok (.iload_n 1, 1) := by decide +kernel
theorem dX11_law_38 : decode cX11_law 38 = .ok (.iload_n 2, 1) := by decide +kernel
theorem dX11_law_39 : decode cX11_law 39 = .ok (.iload_n 3, 1) := by decide +kernel
theorem dX11_law_40 : decode cX11_law 40 = .ok (.invokevirtual 224, 3) := by decide +kernel
theorem dX11_law_43 : decode cX11_law 43 = .ok (.putfield 215, 3) := by decide +kernel
theorem dX11_law_46 : decode cX11_law 46 = .ok (.aload 4, 2) := by decide +kernel
theorem dX11_law_48 : decode cX11_law 48 = .ok (.getfield 215, 3) := by decide +kernel
theorem dX11_law_51 : decode cX11_law 51 = .ok (.invokevirtual 227, 3) := by decide +kernel
theorem dX11_law_54 : decode cX11_law 54 = .ok (.ireturn, 1) := by decide +kernel
def f_X11_law (N : Nat) (l0 : Nat) (l1 : Int32) (l2 : Int32) (l3 : Int32) (h : zH) : Option (Int32 × zH) := (zgR h 11 (some l0) 5).bind fun x1 => (zgR h 9 x1 2).bind fun x2 => (zck h 1 x2).bind fun q1 => (f_X1_canAdd N q1 l1 l2 h).bind fun x3 => if x3 = 0 then some (((-1) : Int32), h) else (f_X11_isScore N l3 h).bind fun x4 => if x4 = 0 then some (((-1) : Int32), h) else (zck h 11 (some l0)).bind fun q2 => zb2 (f_X11_change N q2 h) fun x5 h1 => (zgR h1 9 x5 2).bind fun x6 => (zck h1 1 x6).bind fun q3 => zb2 (f_X1_with N q3 l1 l2 l3 h1) fun x7 h2 => (zpu h2 9 x5 2 (zr x7)).bind fun h3 => (zgR h3 9 x5 2).bind fun x8 => (zck h3 1 x8).bind fun q4 => (f_X1_count N q4 h3).bind fun x9 => some (x9, h3)
set_option maxHeartbeats 4000000 in
set_option maxRecDepth 100000 in
theorem s_X11_law {g : zG} (hg : g.2.1.map (fun q => q.2) = zty) {h0 : zH} (N : Nat) (l0 : Nat) (l1 : Int32) (l2 : Int32) (l3 : Int32) (h : zH) (r : Int32) (h' : zH) (hf : f_X11_law N l0 l1 l2 l3 h = some (r, h')) : zR g jX11_law h0 0 [some (zr (some l0)), some (zi l1), some (zi l2), some (zi l3), none] [] h (some (zi r)) h' := by
  unfold f_X11_law at hf
  refine zr_aload_n (v := .inl (some l0)) dX11_law_0 rfl rfl ?_
  revert hf; refine zbi (fun x1 e_x1 hf => ?_)
  refine zq_getR kg_332 dX11_law_1 e_x1 ?_
  revert hf; refine zbi (fun x2 e_x2 hf => ?_)
  refine zq_getR kg_452 dX11_law_4 e_x2 ?_
  refine zr_iload_n (x := l1) dX11_law_7 rfl rfl ?_
  refine zr_iload_n (x := l2) dX11_law_8 rfl rfl ?_
  revert hf; refine zbi (fun q1 e_q1 hf => ?_)
  revert hf; refine zbi (fun x3 e_x3 hf => ?_)
  refine zq_callV (J' := jX1_canAdd) (as := [zi l1, zi l2]) (rest := []) (r1 := (some (zi x3))) (q := (RX1, TX1, 1)) kw_543 km_X1_canAdd kt_454 dX11_law_9 rfl (Nat.le_of_ble_eq_true rfl) rfl rfl e_q1 rfl (c_X1_canAdd hg e_x3) ?_
  by_cases hc1 : x3 = 0
  · rw [if_pos hc1] at hf
    refine zr_ifeq_t (tgt := 22) dX11_law_12 (by decide) hc1 ?_
    refine zr_iconst (v := ((-1) : Int32)) dX11_law_22 (by decide) ?_
    cases hf
    exact zr_ret _ rfl dX11_law_23
  · rw [if_neg hc1] at hf
    refine zr_ifeq_f 22 dX11_law_12 (by decide) hc1 ?_
    refine zr_iload_n (x := l3) dX11_law_15 rfl rfl ?_
    revert hf; refine zbi (fun x4 e_x4 hf => ?_)
    refine zq_callS (J' := jX11_isScore) (as := [zi l3]) (rest := []) (r1 := (some (zi x4))) kw_523 km_X11_isScore kt_455 dX11_law_16 rfl (Nat.le_of_ble_eq_true rfl) rfl (c_X11_isScore hg e_x4) ?_
    by_cases hc2 : x4 = 0
    · rw [if_pos hc2] at hf
      refine zr_ifne_f 24 dX11_law_19 (by decide) hc2 ?_
      refine zr_iconst (v := ((-1) : Int32)) dX11_law_22 (by decide) ?_
      cases hf
      exact zr_ret _ rfl dX11_law_23
    · rw [if_neg hc2] at hf
      refine zr_ifne_t (tgt := 24) dX11_law_19 (by decide) hc2 ?_
      refine zr_aload_n (v := .inl (some l0)) dX11_law_24 rfl rfl ?_
      revert hf; refine zbi (fun q2 e_q2 hf => ?_)
      revert hf; refine zbi2 (fun x5 h1 e_x5 hf => ?_)
      refine zq_callV (J' := jX11_change) (as := []) (rest := []) (r1 := (some (zr x5))) (q := (RX11, TX11, 6)) kw_420 km_X11_change kt_456 dX11_law_25 rfl (Nat.le_of_ble_eq_true rfl) rfl rfl e_q2 rfl (c_X11_change hg e_x5) ?_
      refine zq_astore (v := .inl x5) (L' := [some (zr (some l0)), some (zi l1), some (zi l2), some (zi l3), some (zr x5)]) dX11_law_28 (by decide) rfl ?_
      refine zr_aload (v := .inl x5) dX11_law_30 rfl ?_
      refine zr_aload (v := .inl x5) dX11_law_32 rfl ?_
      revert hf; refine zbi (fun x6 e_x6 hf => ?_)
      refine zq_getR kg_452 dX11_law_34 e_x6 ?_
      refine zr_iload_n (x := l1) dX11_law_37 rfl rfl ?_
      refine zr_iload_n (x := l2) dX11_law_38 rfl rfl ?_
      refine zr_iload_n (x := l3) dX11_law_39 rfl rfl ?_
      revert hf; refine zbi (fun q3 e_q3 hf => ?_)
      revert hf; refine zbi2 (fun x7 h2 e_x7 hf => ?_)
      refine zq_callV (J' := jX1_with) (as := [zi l1, zi l2, zi l3]) (rest := [zr x5]) (r1 := (some (zr x7))) (q := (RX1, TX1, 1)) kw_547 km_X1_with kt_458 dX11_law_40 rfl (Nat.le_of_ble_eq_true rfl) rfl rfl e_q3 rfl (c_X1_with hg e_x7) ?_
      revert hf; refine zbi (fun h3 e_h3 hf => ?_)
      refine zq_put (kp_459 _) dX11_law_43 (zn_o _ _) e_h3 ?_
      refine zr_aload (v := .inl x5) dX11_law_46 rfl ?_
      revert hf; refine zbi (fun x8 e_x8 hf => ?_)
      refine zq_getR kg_452 dX11_law_48 e_x8 ?_
      revert hf; refine zbi (fun q4 e_q4 hf => ?_)
      revert hf; refine zbi (fun x9 e_x9 hf => ?_)
      refine zq_callV (J' := jX1_count) (as := []) (rest := []) (r1 := (some (zi x9))) (q := (RX1, TX1, 1)) kw_551 km_X1_count kt_460 dX11_law_51 rfl (Nat.le_of_ble_eq_true rfl) rfl rfl e_q4 rfl (c_X1_count hg e_x9) ?_
      cases hf
      exact zr_ret _ rfl dX11_law_54
theorem c_X11_law {g : zG} (hg : g.2.1.map (fun q => q.2) = zty) {N : Nat} {l0 : Nat} {l1 : Int32} {l2 : Int32} {l3 : Int32} {h : zH} {r : Int32} {h' : zH} (hf : f_X11_law N l0 l1 l2 l3 h = some (r, h')) : zCa g jX11_law [zr (some l0), zi l1, zi l2, zi l3] h (some (zi r)) h' :=
  zCa.of hg (by decide +kernel) (Nat.le_of_ble_eq_true rfl) (s_X11_law hg N l0 l1 l2 l3 h r h' hf)
theorem dX11_kind_0 : decode cX11_kind 0 = .ok (.aload_n 0, 1) := by decide +kernel
theorem dX11_kind_1 : decode cX11_kind 1 = .ok (.getfield 39, 3) := by decide +kernel
theorem dX11_kind_4 : decode cX11_kind 4 = .ok (.iload_n 1, 1) := by decide +kernel
theorem dX11_kind_5 : decode cX11_kind 5 = .ok (.invokevirtual 101, 3) := by decide +kernel
theorem dX11_kind_8 : decode cX11_kind 8 = .ok (.astore 4, 2) := by decide +kernel
theorem dX11_kind_10 : decode cX11_kind 10 = .ok (.aload 4, 2) := by decide +kernel
theorem dX11_kind_12 : decode cX11_kind 12 = .ok (.ifnull 17, 3) := by decide +kernel
theorem dX11_kind_15 : decode cX11_kind 15 = .ok (.iload_n 2, 1) := by decide +kernel
theorem dX11_kind_16 : decode cX11_kind 16 = .ok (.invokestatic 192, 3) := by decide +kernel
theorem dX11_kind_19 : decode cX11_kind 19 = .ok (.ifCond .eq 10, 3) := by decide +kernel
theorem dX11_kind_22 : decode cX11_kind 22 = .ok (.iload_n 3, 1) := by decide +kernel
theorem dX11_kind_23 : decode cX11_kind 23 = .ok (.invokestatic 192, 3) := by decide +kernel
theorem dX11_kind_26 : decode cX11_kind 26 = .ok (.ifCond .ne 5, 3) := by decide +kernel
theorem dX11_kind_29 : decode cX11_kind 29 = .ok (.iconst (-1), 1) := by decide +kernel
theorem dX11_kind_30 : decode cX11_kind 30 = .ok (.ireturn, 1) := by decide +kernel
theorem dX11_kind_31 : decode cX11_kind 31 = .ok (.aload_n 0, 1) := by decide +kernel
theorem dX11_kind_32 : decode cX11_kind 32 = .ok (.getfield 39, 3) := by decide +kernel
theorem dX11_kind_35 : decode cX11_kind 35 = .ok (.getfield 215, 3) := by decide +kernel
theorem dX11_kind_38 : decode cX11_kind 38 = .ok (.aload 4, 2) := by decide +kernel
theorem dX11_kind_40 : decode cX11_kind 40 = .ok (.getfield 132, 3) := by decide +kernel
theorem dX11_kind_43 : decode cX11_kind 43 = .ok (.iload_n 2, 1) := by decide +kernel
theorem dX11_kind_44 : decode cX11_kind 44 = .ok (.iload_n 3, 1) := by decide +kernel
theorem dX11_kind_45 : decode cX11_kind 45 = .ok (.invokevirtual 228, 3) := by decide +kernel
theorem dX11_kind_48 : decode cX11_kind 48 = .ok (.ireturn, 1) := by decide +kernel
def f_X11_kind (N : Nat) (l0 : Nat) (l1 : Int32) (l2 : Int32) (l3 : Int32) (h : zH) : Option Int32 := (zgR h 11 (some l0) 5).bind fun x1 => (zck h 9 x1).bind fun q1 => (f_X9_find N q1 l1 h).bind fun x2 => if x2 = none then some ((-1) : Int32) else (f_X11_isDay N l2 h).bind fun x3 => if x3 = 0 then some ((-1) : Int32) else (f_X11_isDay N l3 h).bind fun x4 => if x4 = 0 then some ((-1) : Int32) else (zgR h 11 (some l0) 5).bind fun x5 => (zgR h 9 x5 2).bind fun x6 => (zgR h 0 x2 2).bind fun x7 => (zck h 1 x6).bind fun q2 => (f_X1_classOf N q2 x7 l2 l3 h).bind fun x8 => some x8
set_option maxHeartbeats 4000000 in
set_option maxRecDepth 100000 in
theorem s_X11_kind {g : zG} (hg : g.2.1.map (fun q => q.2) = zty) {h0 : zH} (N : Nat) (l0 : Nat) (l1 : Int32) (l2 : Int32) (l3 : Int32) (h : zH) (r : Int32) (hf : f_X11_kind N l0 l1 l2 l3 h = some r) : zR g jX11_kind h0 0 [some (zr (some l0)), some (zi l1), some (zi l2), some (zi l3), none] [] h (some (zi r)) h := by
  unfold f_X11_kind at hf
  refine zr_aload_n (v := .inl (some l0)) dX11_kind_0 rfl rfl ?_
  revert hf; refine zbi (fun x1 e_x1 hf => ?_)
  refine zq_getR kg_332 dX11_kind_1 e_x1 ?_
  refine zr_iload_n (x := l1) dX11_kind_4 rfl rfl ?_
  revert hf; refine zbi (fun q1 e_q1 hf => ?_)
  revert hf; refine zbi (fun x2 e_x2 hf => ?_)
  refine zq_callV (J' := jX9_find) (as := [zi l1]) (rest := []) (r1 := (some (zr x2))) (q := (RX9, TX9, 5)) kw_452 km_X9_find kt_461 dX11_kind_5 rfl (Nat.le_of_ble_eq_true rfl) rfl rfl e_q1 rfl (c_X9_find hg e_x2) ?_
  refine zq_astore (v := .inl x2) (L' := [some (zr (some l0)), some (zi l1), some (zi l2), some (zi l3), some (zr x2)]) dX11_kind_8 (by decide) rfl ?_
  refine zr_aload (v := .inl x2) dX11_kind_10 rfl ?_
  by_cases hc1 : x2 = none
  · rw [if_pos hc1] at hf
    refine zr_ifnull_t (tgt := 29) dX11_kind_12 (by decide) hc1 ?_
    refine zr_iconst (v := ((-1) : Int32)) dX11_kind_29 (by decide) ?_
    cases hf
    exact zr_ret _ rfl dX11_kind_30
  · rw [if_neg hc1] at hf
    refine zr_ifnull_f dX11_kind_12 hc1 ?_
    refine zr_iload_n (x := l2) dX11_kind_15 rfl rfl ?_
    revert hf; refine zbi (fun x3 e_x3 hf => ?_)
    refine zq_callS (J' := jX11_isDay) (as := [zi l2]) (rest := []) (r1 := (some (zi x3))) kw_519 km_X11_isDay kt_462 dX11_kind_16 rfl (Nat.le_of_ble_eq_true rfl) rfl (c_X11_isDay hg e_x3) ?_
    by_cases hc2 : x3 = 0
    · rw [if_pos hc2] at hf
      refine zr_ifeq_t (tgt := 29) dX11_kind_19 (by decide) hc2 ?_
      refine zr_iconst (v := ((-1) : Int32)) dX11_kind_29 (by decide) ?_
      cases hf
      exact zr_ret _ rfl dX11_kind_30
    · rw [if_neg hc2] at hf
      refine zr_ifeq_f 29 dX11_kind_19 (by decide) hc2 ?_
      refine zr_iload_n (x := l3) dX11_kind_22 rfl rfl ?_
      revert hf; refine zbi (fun x4 e_x4 hf => ?_)
      refine zq_callS (J' := jX11_isDay) (as := [zi l3]) (rest := []) (r1 := (some (zi x4))) kw_519 km_X11_isDay kt_462 dX11_kind_23 rfl (Nat.le_of_ble_eq_true rfl) rfl (c_X11_isDay hg e_x4) ?_
      by_cases hc3 : x4 = 0
      · rw [if_pos hc3] at hf
        refine zr_ifne_f 31 dX11_kind_26 (by decide) hc3 ?_
        refine zr_iconst (v := ((-1) : Int32)) dX11_kind_29 (by decide) ?_
        cases hf
        exact zr_ret _ rfl dX11_kind_30
      · rw [if_neg hc3] at hf
        refine zr_ifne_t (tgt := 31) dX11_kind_26 (by decide) hc3 ?_
        refine zr_aload_n (v := .inl (some l0)) dX11_kind_31 rfl rfl ?_
        revert hf; refine zbi (fun x5 e_x5 hf => ?_)
        refine zq_getR kg_332 dX11_kind_32 e_x5 ?_
        revert hf; refine zbi (fun x6 e_x6 hf => ?_)
        refine zq_getR kg_452 dX11_kind_35 e_x6 ?_
        refine zr_aload (v := .inl x2) dX11_kind_38 rfl ?_
        revert hf; refine zbi (fun x7 e_x7 hf => ?_)
        refine zq_getR kg_378 dX11_kind_40 e_x7 ?_
        refine zr_iload_n (x := l2) dX11_kind_43 rfl rfl ?_
        refine zr_iload_n (x := l3) dX11_kind_44 rfl rfl ?_
        revert hf; refine zbi (fun q2 e_q2 hf => ?_)
        revert hf; refine zbi (fun x8 e_x8 hf => ?_)
        refine zq_callV (J' := jX1_classOf) (as := [zr x7, zi l2, zi l3]) (rest := []) (r1 := (some (zi x8))) (q := (RX1, TX1, 1)) kw_552 km_X1_classOf kt_464 dX11_kind_45 rfl (Nat.le_of_ble_eq_true rfl) rfl rfl e_q2 rfl (c_X1_classOf hg e_x8) ?_
        cases hf
        exact zr_ret _ rfl dX11_kind_48
theorem c_X11_kind {g : zG} (hg : g.2.1.map (fun q => q.2) = zty) {N : Nat} {l0 : Nat} {l1 : Int32} {l2 : Int32} {l3 : Int32} {h : zH} {r : Int32} (hf : f_X11_kind N l0 l1 l2 l3 h = some r) : zCa g jX11_kind [zr (some l0), zi l1, zi l2, zi l3] h (some (zi r)) h :=
  zCa.of hg (by decide +kernel) (Nat.le_of_ble_eq_true rfl) (s_X11_kind hg N l0 l1 l2 l3 h r hf)
theorem dX11_bay_0 : decode cX11_bay 0 = .ok (.aload_n 0, 1) := by decide +kernel
theorem dX11_bay_1 : decode cX11_bay 1 = .ok (.getfield 39, 3) := by decide +kernel
theorem dX11_bay_4 : decode cX11_bay 4 = .ok (.getfield 105, 3) := by decide +kernel
theorem dX11_bay_7 : decode cX11_bay 7 = .ok (.iload_n 1, 1) := by decide +kernel
theorem dX11_bay_8 : decode cX11_bay 8 = .ok (.invokevirtual 232, 3) := by decide +kernel
theorem dX11_bay_11 : decode cX11_bay 11 = .ok (.ifCond .ne 5, 3) := by decide +kernel
theorem dX11_bay_14 : decode cX11_bay 14 = .ok (.iconst (-1), 1) := by decide +kernel
theorem dX11_bay_15 : decode cX11_bay 15 = .ok (.ireturn, 1) := by decide +kernel
theorem dX11_bay_16 : decode cX11_bay 16 = .ok (.aload_n 0, 1) := by decide +kernel
theorem dX11_bay_17 : decode cX11_bay 17 = .ok (.invokevirtual 56, 3) := by decide +kernel
theorem dX11_bay_20 : decode cX11_bay 20 = .ok (.astore_n 2, 1) := by decide +kernel
theorem dX11_bay_21 : decode cX11_bay 21 = .ok (.aload_n 2, 1) := by decide +kernel
theorem dX11_bay_22 : decode cX11_bay 22 = .ok (.aload_n 2, 1) := by decide +kernel
theorem dX11_bay_23 : decode cX11_bay 23 = .ok (.getfield 105, 3) := by decide +kernel
theorem dX11_bay_26 : decode cX11_bay 26 = .ok (.iload_n 1, 1) := by decide +kernel
theorem dX11_bay_27 : decode cX11_bay 27 = .ok (.invokevirtual 234, 3) := by decide +kernel
theorem dX11_bay_30 : decode cX11_bay 30 = .ok (.putfield 105, 3) := by decide +kernel
theorem dX11_bay_33 : decode cX11_bay 33 = .ok (.aload_n 2, 1) := by decide +kernel
theorem dX11_bay_34 : decode cX11_bay 34 = .ok (.getfield 105, 3) := by decide +kernel
theorem dX11_bay_37 : decode cX11_bay 37 = .ok (.invokevirtual 237, 3) := by decide +kernel
theorem dX11_bay_40 : decode cX11_bay 40 = .ok (.ireturn, 1) := by decide +kernel
def f_X11_bay (N : Nat) (l0 : Nat) (l1 : Int32) (h : zH) : Option (Int32 × zH) := (zgR h 11 (some l0) 5).bind fun x1 => (zgR h 9 x1 3).bind fun x2 => (zck h 2 x2).bind fun q1 => (f_X2_canAdd N q1 l1 h).bind fun x3 => if x3 = 0 then some (((-1) : Int32), h) else (zck h 11 (some l0)).bind fun q2 => zb2 (f_X11_change N q2 h) fun x4 h1 => (zgR h1 9 x4 3).bind fun x5 => (zck h1 2 x5).bind fun q3 => zb2 (f_X2_withBay N q3 l1 h1) fun x6 h2 => (zpu h2 9 x4 3 (zr x6)).bind fun h3 => (zgR h3 9 x4 3).bind fun x7 => (zck h3 2 x7).bind fun q4 => (f_X2_countLanes N q4 h3).bind fun x8 => some (x8, h3)
set_option maxHeartbeats 4000000 in
set_option maxRecDepth 100000 in
theorem s_X11_bay {g : zG} (hg : g.2.1.map (fun q => q.2) = zty) {h0 : zH} (N : Nat) (l0 : Nat) (l1 : Int32) (h : zH) (r : Int32) (h' : zH) (hf : f_X11_bay N l0 l1 h = some (r, h')) : zR g jX11_bay h0 0 [some (zr (some l0)), some (zi l1), none] [] h (some (zi r)) h' := by
  unfold f_X11_bay at hf
  refine zr_aload_n (v := .inl (some l0)) dX11_bay_0 rfl rfl ?_
  revert hf; refine zbi (fun x1 e_x1 hf => ?_)
  refine zq_getR kg_332 dX11_bay_1 e_x1 ?_
  revert hf; refine zbi (fun x2 e_x2 hf => ?_)
  refine zq_getR kg_365 dX11_bay_4 e_x2 ?_
  refine zr_iload_n (x := l1) dX11_bay_7 rfl rfl ?_
  revert hf; refine zbi (fun q1 e_q1 hf => ?_)
  revert hf; refine zbi (fun x3 e_x3 hf => ?_)
  refine zq_callV (J' := jX2_canAdd) (as := [zi l1]) (rest := []) (r1 := (some (zi x3))) (q := (RX2, TX2, 3)) kw_556 km_X2_canAdd kt_465 dX11_bay_8 rfl (Nat.le_of_ble_eq_true rfl) rfl rfl e_q1 rfl (c_X2_canAdd hg e_x3) ?_
  by_cases hc1 : x3 = 0
  · rw [if_pos hc1] at hf
    refine zr_ifne_f 16 dX11_bay_11 (by decide) hc1 ?_
    refine zr_iconst (v := ((-1) : Int32)) dX11_bay_14 (by decide) ?_
    cases hf
    exact zr_ret _ rfl dX11_bay_15
  · rw [if_neg hc1] at hf
    refine zr_ifne_t (tgt := 16) dX11_bay_11 (by decide) hc1 ?_
    refine zr_aload_n (v := .inl (some l0)) dX11_bay_16 rfl rfl ?_
    revert hf; refine zbi (fun q2 e_q2 hf => ?_)
    revert hf; refine zbi2 (fun x4 h1 e_x4 hf => ?_)
    refine zq_callV (J' := jX11_change) (as := []) (rest := []) (r1 := (some (zr x4))) (q := (RX11, TX11, 6)) kw_420 km_X11_change kt_466 dX11_bay_17 rfl (Nat.le_of_ble_eq_true rfl) rfl rfl e_q2 rfl (c_X11_change hg e_x4) ?_
    refine zq_astore_n (v := .inl x4) (L' := [some (zr (some l0)), some (zi l1), some (zr x4)]) dX11_bay_20 rfl (by decide) rfl ?_
    refine zr_aload_n (v := .inl x4) dX11_bay_21 rfl rfl ?_
    refine zr_aload_n (v := .inl x4) dX11_bay_22 rfl rfl ?_
    revert hf; refine zbi (fun x5 e_x5 hf => ?_)
    refine zq_getR kg_365 dX11_bay_23 e_x5 ?_
    refine zr_iload_n (x := l1) dX11_bay_26 rfl rfl ?_
    revert hf; refine zbi (fun q3 e_q3 hf => ?_)
    revert hf; refine zbi2 (fun x6 h2 e_x6 hf => ?_)
    refine zq_callV (J' := jX2_withBay) (as := [zi l1]) (rest := [zr x4]) (r1 := (some (zr x6))) (q := (RX2, TX2, 3)) kw_557 km_X2_withBay kt_468 dX11_bay_27 rfl (Nat.le_of_ble_eq_true rfl) rfl rfl e_q3 rfl (c_X2_withBay hg e_x6) ?_
    revert hf; refine zbi (fun h3 e_h3 hf => ?_)
    refine zq_put (kp_368 _) dX11_bay_30 (zn_o _ _) e_h3 ?_
    refine zr_aload_n (v := .inl x4) dX11_bay_33 rfl rfl ?_
    revert hf; refine zbi (fun x7 e_x7 hf => ?_)
    refine zq_getR kg_365 dX11_bay_34 e_x7 ?_
    revert hf; refine zbi (fun q4 e_q4 hf => ?_)
    revert hf; refine zbi (fun x8 e_x8 hf => ?_)
    refine zq_callV (J' := jX2_countLanes) (as := []) (rest := []) (r1 := (some (zi x8))) (q := (RX2, TX2, 3)) kw_561 km_X2_countLanes kt_469 dX11_bay_37 rfl (Nat.le_of_ble_eq_true rfl) rfl rfl e_q4 rfl (c_X2_countLanes hg e_x8) ?_
    cases hf
    exact zr_ret _ rfl dX11_bay_40
theorem c_X11_bay {g : zG} (hg : g.2.1.map (fun q => q.2) = zty) {N : Nat} {l0 : Nat} {l1 : Int32} {h : zH} {r : Int32} {h' : zH} (hf : f_X11_bay N l0 l1 h = some (r, h')) : zCa g jX11_bay [zr (some l0), zi l1] h (some (zi r)) h' :=
  zCa.of hg (by decide +kernel) (Nat.le_of_ble_eq_true rfl) (s_X11_bay hg N l0 l1 h r h' hf)
theorem dX11_layout_0 : decode cX11_layout 0 = .ok (.aload_n 0, 1) := by decide +kernel
theorem dX11_layout_1 : decode cX11_layout 1 = .ok (.getfield 39, 3) := by decide +kernel
theorem dX11_layout_4 : decode cX11_layout 4 = .ok (.getfield 105, 3) := by decide +kernel
theorem dX11_layout_7 : decode cX11_layout 7 = .ok (.invokevirtual 240, 3) := by decide +kernel
theorem dX11_layout_10 : decode cX11_layout 10 = .ok (.istore_n 1, 1) := by decide +kernel
theorem dX11_layout_11 : decode cX11_layout 11 = .ok (.iload_n 1, 1) := by decide +kernel
theorem dX11_layout_12 : decode cX11_layout 12 = .ok (.ifCond .ne 5, 3) := by decide +kernel
theorem dX11_layout_15 : decode cX11_layout 15 = .ok (.iconst (-1), 1) := by decide +kernel
theorem dX11_layout_16 : decode cX11_layout 16 = .ok (.ireturn, 1) := by decide +kernel
theorem dX11_layout_17 : decode cX11_layout 17 = .ok (.new 243, 3) := by decide +kernel
theorem dX11_layout_20 : decode cX11_layout 20 = .ok (.dup, 1) := by decide +kernel
theorem dX11_layout_21 : decode cX11_layout 21 = .ok (.aload_n 0, 1) := by decide +kernel
theorem dX11_layout_22 : decode cX11_layout 22 = .ok (.getfield 39, 3) := by decide +kernel
theorem dX11_layout_25 : decode cX11_layout 25 = .ok (.iload_n 1, 1) := by decide +kernel
theorem dX11_layout_26 : decode cX11_layout 26 = .ok (.invokespecial 245, 3) := by decide +kernel
theorem dX11_layout_29 : decode cX11_layout 29 = .ok (.astore_n 2, 1) := by decide +kernel
theorem dX11_layout_30 : decode cX11_layout 30 = .ok (.aload_n 2, 1) := by decide +kernel
theorem dX11_layout_31 : decode cX11_layout 31 = .ok (.invokevirtual 248, 3) := by decide +kernel
theorem dX11_layout_34 : decode cX11_layout 34 = .ok (.istore_n 3, 1) := by decide +kernel
theorem dX11_layout_35 : decode cX11_layout 35 = .ok (.iload_n 3, 1) := by decide +kernel
theorem dX11_layout_36 : decode cX11_layout 36 = .ok (.ifCond .ge 5, 3) := by decide +kernel
theorem dX11_layout_39 : decode cX11_layout 39 = .ok (.iload_n 3, 1) := by decide +kernel
theorem dX11_layout_40 : decode cX11_layout 40 = .ok (.ireturn, 1) := by decide +kernel
theorem dX11_layout_41 : decode cX11_layout 41 = .ok (.aload_n 0, 1) := by decide +kernel
theorem dX11_layout_42 : decode cX11_layout 42 = .ok (.invokevirtual 56, 3) := by decide +kernel
theorem dX11_layout_45 : decode cX11_layout 45 = .ok (.astore 4, 2) := by decide +kernel
theorem dX11_layout_47 : decode cX11_layout 47 = .ok (.aload 4, 2) := by decide +kernel
theorem dX11_layout_49 : decode cX11_layout 49 = .ok (.aload 4, 2) := by decide +kernel
theorem dX11_layout_51 : decode cX11_layout 51 = .ok (.getfield 105, 3) := by decide +kernel
theorem dX11_layout_54 : decode cX11_layout 54 = .ok (.aload_n 2, 1) := by decide +kernel
theorem dX11_layout_55 : decode cX11_layout 55 = .ok (.getfield 251, 3) := by decide +kernel
theorem dX11_layout_58 : decode cX11_layout 58 = .ok (.invokevirtual 254, 3) := by decide +kernel
theorem dX11_layout_61 : decode cX11_layout 61 = .ok (.putfield 105, 3) := by decide +kernel
theorem dX11_layout_64 : decode cX11_layout 64 = .ok (.iload_n 3, 1) := by decide +kernel
theorem dX11_layout_65 : decode cX11_layout 65 = .ok (.ireturn, 1) := by decide +kernel
def f_X11_layout (N : Nat) (l0 : Nat) (h : zH) : Option (Int32 × zH) := (zgR h 11 (some l0) 5).bind fun x1 => (zgR h 9 x1 3).bind fun x2 => (zck h 2 x2).bind fun q1 => (f_X2_countPlaces N q1 h).bind fun x3 => if x3 = 0 then some (((-1) : Int32), h) else znw h (.inr (3, [zr none, zr none, zr none, zi 0, zr none, zr none, zi 0])) fun a1 h1 => (zgR h1 11 (some l0) 5).bind fun x4 => (f_X3_init N a1 x4 x3 h1).bind fun h2 => (zck h2 3 (some a1)).bind fun q2 => zb2 (f_X3_search N q2 h2) fun x5 h3 => if 0 ≤ x5 then (zck h3 11 (some l0)).bind fun q3 => zb2 (f_X11_change N q3 h3) fun x6 h4 => (zgR h4 9 x6 3).bind fun x7 => (zgR h4 3 (some a1) 4).bind fun x8 => (zck h4 2 x7).bind fun q4 => zb2 (f_X2_withSeats N q4 x8 h4) fun x9 h5 => (zpu h5 9 x6 3 (zr x9)).bind fun h6 => some (x5, h6) else some (x5, h3)
set_option maxHeartbeats 4000000 in
set_option maxRecDepth 100000 in
theorem s_X11_layout {g : zG} (hg : g.2.1.map (fun q => q.2) = zty) {h0 : zH} (N : Nat) (l0 : Nat) (h : zH) (r : Int32) (h' : zH) (hf : f_X11_layout N l0 h = some (r, h')) : zR g jX11_layout h0 0 [some (zr (some l0)), none, none, none, none] [] h (some (zi r)) h' := by
  unfold f_X11_layout at hf
  refine zr_aload_n (v := .inl (some l0)) dX11_layout_0 rfl rfl ?_
  revert hf; refine zbi (fun x1 e_x1 hf => ?_)
  refine zq_getR kg_332 dX11_layout_1 e_x1 ?_
  revert hf; refine zbi (fun x2 e_x2 hf => ?_)
  refine zq_getR kg_365 dX11_layout_4 e_x2 ?_
  revert hf; refine zbi (fun q1 e_q1 hf => ?_)
  revert hf; refine zbi (fun x3 e_x3 hf => ?_)
  refine zq_callV (J' := jX2_countPlaces) (as := []) (rest := []) (r1 := (some (zi x3))) (q := (RX2, TX2, 3)) kw_562 km_X2_countPlaces kt_471 dX11_layout_7 rfl (Nat.le_of_ble_eq_true rfl) rfl rfl e_q1 rfl (c_X2_countPlaces hg e_x3) ?_
  refine zq_istore_n (x := x3) (L' := [some (zr (some l0)), some (zi x3), none, none, none]) dX11_layout_10 rfl (by decide) rfl ?_
  refine zr_iload_n (x := x3) dX11_layout_11 rfl rfl ?_
  by_cases hc1 : x3 = 0
  · rw [if_pos hc1] at hf
    refine zr_ifne_f 17 dX11_layout_12 (by decide) hc1 ?_
    refine zr_iconst (v := ((-1) : Int32)) dX11_layout_15 (by decide) ?_
    cases hf
    exact zr_ret _ rfl dX11_layout_16
  · rw [if_neg hc1] at hf
    refine zr_ifne_t (tgt := 17) dX11_layout_12 (by decide) hc1 ?_
    obtain ⟨a1, h1, e_a1, e_h1, hf⟩ := znw_spec hf
    refine zq_new kn_472 dX11_layout_17 e_a1 e_h1 ?_
    refine zr_dup dX11_layout_20 ?_
    refine zr_aload_n (v := .inl (some l0)) dX11_layout_21 rfl rfl ?_
    revert hf; refine zbi (fun x4 e_x4 hf => ?_)
    refine zq_getR kg_332 dX11_layout_22 e_x4 ?_
    refine zr_iload_n (x := x3) dX11_layout_25 rfl rfl ?_
    revert hf; refine zbi (fun h2 e_h2 hf => ?_)
    refine zq_callI (J' := jX3_init) (as := [zr x4, zi x3]) (rest := [zr (some a1)]) (r1 := none) (a := a1) kw_568 km_X3_init kt_474 dX11_layout_26 rfl (Nat.le_of_ble_eq_true rfl) rfl (c_X3_init hg e_h2) ?_
    refine zq_astore_n (v := .inl (some a1)) (L' := [some (zr (some l0)), some (zi x3), some (zr (some a1)), none, none]) dX11_layout_29 rfl (by decide) rfl ?_
    refine zr_aload_n (v := .inl (some a1)) dX11_layout_30 rfl rfl ?_
    revert hf; refine zbi (fun q2 e_q2 hf => ?_)
    revert hf; refine zbi2 (fun x5 h3 e_x5 hf => ?_)
    refine zq_callV (J' := jX3_search) (as := []) (rest := []) (r1 := (some (zi x5))) (q := (RX3, TX3, 7)) kw_571 km_X3_search kt_476 dX11_layout_31 rfl (Nat.le_of_ble_eq_true rfl) rfl rfl e_q2 rfl (c_X3_search hg e_x5) ?_
    refine zq_istore_n (x := x5) (L' := [some (zr (some l0)), some (zi x3), some (zr (some a1)), some (zi x5), none]) dX11_layout_34 rfl (by decide) rfl ?_
    refine zr_iload_n (x := x5) dX11_layout_35 rfl rfl ?_
    by_cases hc2 : 0 ≤ x5
    · rw [if_pos hc2] at hf
      refine zr_ifge_t (tgt := 41) dX11_layout_36 (by decide) hc2 ?_
      refine zr_aload_n (v := .inl (some l0)) dX11_layout_41 rfl rfl ?_
      revert hf; refine zbi (fun q3 e_q3 hf => ?_)
      revert hf; refine zbi2 (fun x6 h4 e_x6 hf => ?_)
      refine zq_callV (J' := jX11_change) (as := []) (rest := []) (r1 := (some (zr x6))) (q := (RX11, TX11, 6)) kw_420 km_X11_change kt_477 dX11_layout_42 rfl (Nat.le_of_ble_eq_true rfl) rfl rfl e_q3 rfl (c_X11_change hg e_x6) ?_
      refine zq_astore (v := .inl x6) (L' := [some (zr (some l0)), some (zi x3), some (zr (some a1)), some (zi x5), some (zr x6)]) dX11_layout_45 (by decide) rfl ?_
      refine zr_aload (v := .inl x6) dX11_layout_47 rfl ?_
      refine zr_aload (v := .inl x6) dX11_layout_49 rfl ?_
      revert hf; refine zbi (fun x7 e_x7 hf => ?_)
      refine zq_getR kg_365 dX11_layout_51 e_x7 ?_
      refine zr_aload_n (v := .inl (some a1)) dX11_layout_54 rfl rfl ?_
      revert hf; refine zbi (fun x8 e_x8 hf => ?_)
      refine zq_getR kg_478 dX11_layout_55 e_x8 ?_
      revert hf; refine zbi (fun q4 e_q4 hf => ?_)
      revert hf; refine zbi2 (fun x9 h5 e_x9 hf => ?_)
      refine zq_callV (J' := jX2_withSeats) (as := [zr x8]) (rest := [zr x6]) (r1 := (some (zr x9))) (q := (RX2, TX2, 3)) kw_576 km_X2_withSeats kt_480 dX11_layout_58 rfl (Nat.le_of_ble_eq_true rfl) rfl rfl e_q4 rfl (c_X2_withSeats hg e_x9) ?_
      revert hf; refine zbi (fun h6 e_h6 hf => ?_)
      refine zq_put (kp_368 _) dX11_layout_61 (zn_o _ _) e_h6 ?_
      refine zr_iload_n (x := x5) dX11_layout_64 rfl rfl ?_
      cases hf
      exact zr_ret _ rfl dX11_layout_65
    · rw [if_neg hc2] at hf
      refine zr_ifge_f 41 dX11_layout_36 (by decide) hc2 ?_
      refine zr_iload_n (x := x5) dX11_layout_39 rfl rfl ?_
      cases hf
      exact zr_ret _ rfl dX11_layout_40
theorem c_X11_layout {g : zG} (hg : g.2.1.map (fun q => q.2) = zty) {N : Nat} {l0 : Nat} {h : zH} {r : Int32} {h' : zH} (hf : f_X11_layout N l0 h = some (r, h')) : zCa g jX11_layout [zr (some l0)] h (some (zi r)) h' :=
  zCa.of hg (by decide +kernel) (Nat.le_of_ble_eq_true rfl) (s_X11_layout hg N l0 h r h' hf)
theorem dX11_on_0 : decode cX11_on 0 = .ok (.aload_n 0, 1) := by decide +kernel
theorem dX11_on_1 : decode cX11_on 1 = .ok (.getfield 39, 3) := by decide +kernel
theorem dX11_on_4 : decode cX11_on 4 = .ok (.getfield 105, 3) := by decide +kernel
theorem dX11_on_7 : decode cX11_on 7 = .ok (.iload_n 1, 1) := by decide +kernel
theorem dX11_on_8 : decode cX11_on 8 = .ok (.invokevirtual 258, 3) := by decide +kernel
theorem dX11_on_11 : decode cX11_on 11 = .ok (.ireturn, 1) := by decide +kernel
def f_X11_on (N : Nat) (l0 : Nat) (l1 : Int32) (h : zH) : Option Int32 := (zgR h 11 (some l0) 5).bind fun x1 => (zgR h 9 x1 3).bind fun x2 => (zck h 2 x2).bind fun q1 => (f_X2_seatedOn N q1 l1 h).bind fun x3 => some x3
set_option maxHeartbeats 4000000 in
set_option maxRecDepth 100000 in
theorem s_X11_on {g : zG} (hg : g.2.1.map (fun q => q.2) = zty) {h0 : zH} (N : Nat) (l0 : Nat) (l1 : Int32) (h : zH) (r : Int32) (hf : f_X11_on N l0 l1 h = some r) : zR g jX11_on h0 0 [some (zr (some l0)), some (zi l1)] [] h (some (zi r)) h := by
  unfold f_X11_on at hf
  refine zr_aload_n (v := .inl (some l0)) dX11_on_0 rfl rfl ?_
  revert hf; refine zbi (fun x1 e_x1 hf => ?_)
  refine zq_getR kg_332 dX11_on_1 e_x1 ?_
  revert hf; refine zbi (fun x2 e_x2 hf => ?_)
  refine zq_getR kg_365 dX11_on_4 e_x2 ?_
  refine zr_iload_n (x := l1) dX11_on_7 rfl rfl ?_
  revert hf; refine zbi (fun q1 e_q1 hf => ?_)
  revert hf; refine zbi (fun x3 e_x3 hf => ?_)
  refine zq_callV (J' := jX2_seatedOn) (as := [zi l1]) (rest := []) (r1 := (some (zi x3))) (q := (RX2, TX2, 3)) kw_580 km_X2_seatedOn kt_482 dX11_on_8 rfl (Nat.le_of_ble_eq_true rfl) rfl rfl e_q1 rfl (c_X2_seatedOn hg e_x3) ?_
  cases hf
  exact zr_ret _ rfl dX11_on_11
theorem c_X11_on {g : zG} (hg : g.2.1.map (fun q => q.2) = zty) {N : Nat} {l0 : Nat} {l1 : Int32} {h : zH} {r : Int32} (hf : f_X11_on N l0 l1 h = some r) : zCa g jX11_on [zr (some l0), zi l1] h (some (zi r)) h :=
  zCa.of hg (by decide +kernel) (Nat.le_of_ble_eq_true rfl) (s_X11_on hg N l0 l1 h r hf)
theorem dX11_lane_0 : decode cX11_lane 0 = .ok (.aload_n 0, 1) := by decide +kernel
theorem dX11_lane_1 : decode cX11_lane 1 = .ok (.getfield 39, 3) := by decide +kernel
theorem dX11_lane_4 : decode cX11_lane 4 = .ok (.getfield 105, 3) := by decide +kernel
theorem dX11_lane_7 : decode cX11_lane 7 = .ok (.iload_n 1, 1) := by decide +kernel
theorem dX11_lane_8 : decode cX11_lane 8 = .ok (.iload_n 2, 1) := by decide +kernel
theorem dX11_lane_9 : decode cX11_lane 9 = .ok (.invokevirtual 261, 3) := by decide +kernel
theorem dX11_lane_12 : decode cX11_lane 12 = .ok (.ifCond .ne 5, 3) := by decide +kernel
theorem dX11_lane_15 : decode cX11_lane 15 = .ok (.iconst (-1), 1) := by decide +kernel
theorem dX11_lane_16 : decode cX11_lane 16 = .ok (.ireturn, 1) := by decide +kernel
theorem dX11_lane_17 : decode cX11_lane 17 = .ok (.aload_n 0, 1) := by decide +kernel
theorem dX11_lane_18 : decode cX11_lane 18 = .ok (.getfield 39, 3) := by decide +kernel
theorem dX11_lane_21 : decode cX11_lane 21 = .ok (.getfield 105, 3) := by decide +kernel
theorem dX11_lane_24 : decode cX11_lane 24 = .ok (.iload_n 1, 1) := by decide +kernel
theorem dX11_lane_25 : decode cX11_lane 25 = .ok (.invokevirtual 264, 3) := by decide +kernel
theorem dX11_lane_28 : decode cX11_lane 28 = .ok (.istore_n 3, 1) := by decide +kernel
theorem dX11_lane_29 : decode cX11_lane 29 = .ok (.aload_n 0, 1) := by decide +kernel
theorem dX11_lane_30 : decode cX11_lane 30 = .ok (.invokevirtual 56, 3) := by decide +kernel
theorem dX11_lane_33 : decode cX11_lane 33 = .ok (.astore 4, 2) := by decide +kernel
theorem dX11_lane_35 : decode cX11_lane 35 = .ok (.aload 4, 2) := by decide +kernel
theorem dX11_lane_37 : decode cX11_lane 37 = .ok (.aload 4, 2) := by decide +kernel
theorem dX11_lane_39 : decode cX11_lane 39 = .ok (.getfield 105, 3) := by decide +kernel
theorem dX11_lane_42 : decode cX11_lane 42 = .ok (.iload_n 1, 1) := by decide +kernel
theorem dX11_lane_43 : decode cX11_lane 43 = .ok (.iload_n 2, 1) := by decide +kernel
theorem dX11_lane_44 : decode cX11_lane 44 = .ok (.invokevirtual 267, 3) := by decide +kernel
theorem dX11_lane_47 : decode cX11_lane 47 = .ok (.putfield 105, 3) := by decide +kernel
theorem dX11_lane_50 : decode cX11_lane 50 = .ok (.iload_n 3, 1) := by decide +kernel
theorem dX11_lane_51 : decode cX11_lane 51 = .ok (.ireturn, 1) := by decide +kernel
def f_X11_lane (N : Nat) (l0 : Nat) (l1 : Int32) (l2 : Int32) (h : zH) : Option (Int32 × zH) := (zgR h 11 (some l0) 5).bind fun x1 => (zgR h 9 x1 3).bind fun x2 => (zck h 2 x2).bind fun q1 => (f_X2_mayBecome N q1 l1 l2 h).bind fun x3 => if x3 = 0 then some (((-1) : Int32), h) else (zgR h 11 (some l0) 5).bind fun x4 => (zgR h 9 x4 3).bind fun x5 => (zck h 2 x5).bind fun q2 => (f_X2_stateOf N q2 l1 h).bind fun x6 => (zck h 11 (some l0)).bind fun q3 => zb2 (f_X11_change N q3 h) fun x7 h1 => (zgR h1 9 x7 3).bind fun x8 => (zck h1 2 x8).bind fun q4 => zb2 (f_X2_withState N q4 l1 l2 h1) fun x9 h2 => (zpu h2 9 x7 3 (zr x9)).bind fun h3 => some (x6, h3)
set_option maxHeartbeats 4000000 in
set_option maxRecDepth 100000 in
theorem s_X11_lane {g : zG} (hg : g.2.1.map (fun q => q.2) = zty) {h0 : zH} (N : Nat) (l0 : Nat) (l1 : Int32) (l2 : Int32) (h : zH) (r : Int32) (h' : zH) (hf : f_X11_lane N l0 l1 l2 h = some (r, h')) : zR g jX11_lane h0 0 [some (zr (some l0)), some (zi l1), some (zi l2), none, none] [] h (some (zi r)) h' := by
  unfold f_X11_lane at hf
  refine zr_aload_n (v := .inl (some l0)) dX11_lane_0 rfl rfl ?_
  revert hf; refine zbi (fun x1 e_x1 hf => ?_)
  refine zq_getR kg_332 dX11_lane_1 e_x1 ?_
  revert hf; refine zbi (fun x2 e_x2 hf => ?_)
  refine zq_getR kg_365 dX11_lane_4 e_x2 ?_
  refine zr_iload_n (x := l1) dX11_lane_7 rfl rfl ?_
  refine zr_iload_n (x := l2) dX11_lane_8 rfl rfl ?_
  revert hf; refine zbi (fun q1 e_q1 hf => ?_)
  revert hf; refine zbi (fun x3 e_x3 hf => ?_)
  refine zq_callV (J' := jX2_mayBecome) (as := [zi l1, zi l2]) (rest := []) (r1 := (some (zi x3))) (q := (RX2, TX2, 3)) kw_584 km_X2_mayBecome kt_484 dX11_lane_9 rfl (Nat.le_of_ble_eq_true rfl) rfl rfl e_q1 rfl (c_X2_mayBecome hg e_x3) ?_
  by_cases hc1 : x3 = 0
  · rw [if_pos hc1] at hf
    refine zr_ifne_f 17 dX11_lane_12 (by decide) hc1 ?_
    refine zr_iconst (v := ((-1) : Int32)) dX11_lane_15 (by decide) ?_
    cases hf
    exact zr_ret _ rfl dX11_lane_16
  · rw [if_neg hc1] at hf
    refine zr_ifne_t (tgt := 17) dX11_lane_12 (by decide) hc1 ?_
    refine zr_aload_n (v := .inl (some l0)) dX11_lane_17 rfl rfl ?_
    revert hf; refine zbi (fun x4 e_x4 hf => ?_)
    refine zq_getR kg_332 dX11_lane_18 e_x4 ?_
    revert hf; refine zbi (fun x5 e_x5 hf => ?_)
    refine zq_getR kg_365 dX11_lane_21 e_x5 ?_
    refine zr_iload_n (x := l1) dX11_lane_24 rfl rfl ?_
    revert hf; refine zbi (fun q2 e_q2 hf => ?_)
    revert hf; refine zbi (fun x6 e_x6 hf => ?_)
    refine zq_callV (J' := jX2_stateOf) (as := [zi l1]) (rest := []) (r1 := (some (zi x6))) (q := (RX2, TX2, 3)) kw_588 km_X2_stateOf kt_485 dX11_lane_25 rfl (Nat.le_of_ble_eq_true rfl) rfl rfl e_q2 rfl (c_X2_stateOf hg e_x6) ?_
    refine zq_istore_n (x := x6) (L' := [some (zr (some l0)), some (zi l1), some (zi l2), some (zi x6), none]) dX11_lane_28 rfl (by decide) rfl ?_
    refine zr_aload_n (v := .inl (some l0)) dX11_lane_29 rfl rfl ?_
    revert hf; refine zbi (fun q3 e_q3 hf => ?_)
    revert hf; refine zbi2 (fun x7 h1 e_x7 hf => ?_)
    refine zq_callV (J' := jX11_change) (as := []) (rest := []) (r1 := (some (zr x7))) (q := (RX11, TX11, 6)) kw_420 km_X11_change kt_486 dX11_lane_30 rfl (Nat.le_of_ble_eq_true rfl) rfl rfl e_q3 rfl (c_X11_change hg e_x7) ?_
    refine zq_astore (v := .inl x7) (L' := [some (zr (some l0)), some (zi l1), some (zi l2), some (zi x6), some (zr x7)]) dX11_lane_33 (by decide) rfl ?_
    refine zr_aload (v := .inl x7) dX11_lane_35 rfl ?_
    refine zr_aload (v := .inl x7) dX11_lane_37 rfl ?_
    revert hf; refine zbi (fun x8 e_x8 hf => ?_)
    refine zq_getR kg_365 dX11_lane_39 e_x8 ?_
    refine zr_iload_n (x := l1) dX11_lane_42 rfl rfl ?_
    refine zr_iload_n (x := l2) dX11_lane_43 rfl rfl ?_
    revert hf; refine zbi (fun q4 e_q4 hf => ?_)
    revert hf; refine zbi2 (fun x9 h2 e_x9 hf => ?_)
    refine zq_callV (J' := jX2_withState) (as := [zi l1, zi l2]) (rest := [zr x7]) (r1 := (some (zr x9))) (q := (RX2, TX2, 3)) kw_589 km_X2_withState kt_488 dX11_lane_44 rfl (Nat.le_of_ble_eq_true rfl) rfl rfl e_q4 rfl (c_X2_withState hg e_x9) ?_
    revert hf; refine zbi (fun h3 e_h3 hf => ?_)
    refine zq_put (kp_368 _) dX11_lane_47 (zn_o _ _) e_h3 ?_
    refine zr_iload_n (x := x6) dX11_lane_50 rfl rfl ?_
    cases hf
    exact zr_ret _ rfl dX11_lane_51
theorem c_X11_lane {g : zG} (hg : g.2.1.map (fun q => q.2) = zty) {N : Nat} {l0 : Nat} {l1 : Int32} {l2 : Int32} {h : zH} {r : Int32} {h' : zH} (hf : f_X11_lane N l0 l1 l2 h = some (r, h')) : zCa g jX11_lane [zr (some l0), zi l1, zi l2] h (some (zi r)) h' :=
  zCa.of hg (by decide +kernel) (Nat.le_of_ble_eq_true rfl) (s_X11_lane hg N l0 l1 l2 h r h' hf)
theorem dX11_state_0 : decode cX11_state 0 = .ok (.aload_n 0, 1) := by decide +kernel
theorem dX11_state_1 : decode cX11_state 1 = .ok (.getfield 39, 3) := by decide +kernel
theorem dX11_state_4 : decode cX11_state 4 = .ok (.getfield 105, 3) := by decide +kernel
theorem dX11_state_7 : decode cX11_state 7 = .ok (.iload_n 1, 1) := by decide +kernel
theorem dX11_state_8 : decode cX11_state 8 = .ok (.invokevirtual 264, 3) := by decide +kernel
theorem dX11_state_11 : decode cX11_state 11 = .ok (.ireturn, 1) := by decide +kernel
def f_X11_state (N : Nat) (l0 : Nat) (l1 : Int32) (h : zH) : Option Int32 := (zgR h 11 (some l0) 5).bind fun x1 => (zgR h 9 x1 3).bind fun x2 => (zck h 2 x2).bind fun q1 => (f_X2_stateOf N q1 l1 h).bind fun x3 => some x3
set_option maxHeartbeats 4000000 in
set_option maxRecDepth 100000 in
theorem s_X11_state {g : zG} (hg : g.2.1.map (fun q => q.2) = zty) {h0 : zH} (N : Nat) (l0 : Nat) (l1 : Int32) (h : zH) (r : Int32) (hf : f_X11_state N l0 l1 h = some r) : zR g jX11_state h0 0 [some (zr (some l0)), some (zi l1)] [] h (some (zi r)) h := by
  unfold f_X11_state at hf
  refine zr_aload_n (v := .inl (some l0)) dX11_state_0 rfl rfl ?_
  revert hf; refine zbi (fun x1 e_x1 hf => ?_)
  refine zq_getR kg_332 dX11_state_1 e_x1 ?_
  revert hf; refine zbi (fun x2 e_x2 hf => ?_)
  refine zq_getR kg_365 dX11_state_4 e_x2 ?_
  refine zr_iload_n (x := l1) dX11_state_7 rfl rfl ?_
  revert hf; refine zbi (fun q1 e_q1 hf => ?_)
  revert hf; refine zbi (fun x3 e_x3 hf => ?_)
  refine zq_callV (J' := jX2_stateOf) (as := [zi l1]) (rest := []) (r1 := (some (zi x3))) (q := (RX2, TX2, 3)) kw_588 km_X2_stateOf kt_489 dX11_state_8 rfl (Nat.le_of_ble_eq_true rfl) rfl rfl e_q1 rfl (c_X2_stateOf hg e_x3) ?_
  cases hf
  exact zr_ret _ rfl dX11_state_11
theorem c_X11_state {g : zG} (hg : g.2.1.map (fun q => q.2) = zty) {N : Nat} {l0 : Nat} {l1 : Int32} {h : zH} {r : Int32} (hf : f_X11_state N l0 l1 h = some r) : zCa g jX11_state [zr (some l0), zi l1] h (some (zi r)) h :=
  zCa.of hg (by decide +kernel) (Nat.le_of_ble_eq_true rfl) (s_X11_state hg N l0 l1 h r hf)
