theorem dX8_withoutLast_0 : decode cX8_withoutLast 0 = .ok (.iconst 0, 1) := by decide +kernel
theorem dX8_withoutLast_1 : decode cX8_withoutLast 1 = .ok (.aload_n 0, 1) := by decide +kernel
theorem dX8_withoutLast_2 : decode cX8_withoutLast 2 = .ok (.getfield 14, 3) := by decide +kernel
theorem dX8_withoutLast_5 : decode cX8_withoutLast 5 = .ok (.arraylength, 1) := by decide +kernel
theorem dX8_withoutLast_6 : decode cX8_withoutLast 6 = .ok (.iconst 1, 1) := by decide +kernel
theorem dX8_withoutLast_7 : decode cX8_withoutLast 7 = .ok (.isub, 1) := by decide +kernel
theorem dX8_withoutLast_8 : decode cX8_withoutLast 8 = .ok (.invokestatic 25, 3) := by decide +kernel
theorem dX8_withoutLast_11 : decode cX8_withoutLast 11 = .ok (.istore_n 2, 1) := by decide +kernel
theorem dX8_withoutLast_12 : decode cX8_withoutLast 12 = .ok (.iconst 0, 1) := by decide +kernel
theorem dX8_withoutLast_13 : decode cX8_withoutLast 13 = .ok (.aload_n 0, 1) := by decide +kernel
theorem dX8_withoutLast_14 : decode cX8_withoutLast 14 = .ok (.getfield 18, 3) := by decide +kernel
theorem dX8_withoutLast_17 : decode cX8_withoutLast 17 = .ok (.arraylength, 1) := by decide +kernel
theorem dX8_withoutLast_18 : decode cX8_withoutLast 18 = .ok (.iconst 0, 1) := by decide +kernel
theorem dX8_withoutLast_19 : decode cX8_withoutLast 19 = .ok (.iload_n 1, 1) := by decide +kernel
theorem dX8_withoutLast_20 : decode cX8_withoutLast 20 = .ok (.invokestatic 25, 3) := by decide +kernel
theorem dX8_withoutLast_23 : decode cX8_withoutLast 23 = .ok (.isub, 1) := by decide +kernel
theorem dX8_withoutLast_24 : decode cX8_withoutLast 24 = .ok (.invokestatic 25, 3) := by decide +kernel
theorem dX8_withoutLast_27 : decode cX8_withoutLast 27 = .ok (.istore_n 3, 1) := by decide +kernel
theorem dX8_withoutLast_28 : decode cX8_withoutLast 28 = .ok (.new 4, 3) := by decide +kernel
theorem dX8_withoutLast_31 : decode cX8_withoutLast 31 = .ok (.dup, 1) := by decide +kernel
theorem dX8_withoutLast_32 : decode cX8_withoutLast 32 = .ok (.aload_n 0, 1) := by decide +kernel
theorem dX8_withoutLast_33 : decode cX8_withoutLast 33 = .ok (.getfield 14, 3) := by decide +kernel
theorem dX8_withoutLast_36 : decode cX8_withoutLast 36 = .ok (.iload_n 2, 1) := by decide +kernel
theorem dX8_withoutLast_37 : decode cX8_withoutLast 37 = .ok (.invokestatic 31, 3) := by decide +kernel
theorem dX8_withoutLast_40 : decode cX8_withoutLast 40 = .ok (.aload_n 0, 1) := by decide +kernel
theorem dX8_withoutLast_41 : decode cX8_withoutLast 41 = .ok (.getfield 18, 3) := by decide +kernel
theorem dX8_withoutLast_44 : decode cX8_withoutLast 44 = .ok (.iload_n 3, 1) := by decide +kernel
theorem dX8_withoutLast_45 : decode cX8_withoutLast 45 = .ok (.invokestatic 31, 3) := by decide +kernel
theorem dX8_withoutLast_48 : decode cX8_withoutLast 48 = .ok (.aload_n 0, 1) := by decide +kernel
theorem dX8_withoutLast_49 : decode cX8_withoutLast 49 = .ok (.getfield 21, 3) := by decide +kernel
theorem dX8_withoutLast_52 : decode cX8_withoutLast 52 = .ok (.invokespecial 3, 3) := by decide +kernel
theorem dX8_withoutLast_55 : decode cX8_withoutLast 55 = .ok (.areturn, 1) := by decide +kernel
def f_X8_withoutLast (N : Nat) (l0 : Nat) (l1 : Int32) (h : zH) : Option ((Option Nat) × zH) := (zgR h 8 (some l0) 0).bind fun x1 => (zlen h x1).bind fun x2 => (zgR h 8 (some l0) 1).bind fun x3 => (zlen h x3).bind fun x4 => znw h (.inr (8, [zr none, zr none, zr none])) fun a1 h1 => (zgR h1 8 (some l0) 0).bind fun x5 => zb2 (f_J7_copyOf_59c91 N x5 (if (0 : Int32) < (x2 - (1 : Int32)) then (x2 - (1 : Int32)) else (0 : Int32)) h1) fun x6 h2 => (zgR h2 8 (some l0) 1).bind fun x7 => zb2 (f_J7_copyOf_59c91 N x7 (if (0 : Int32) < (x4 - (if (0 : Int32) < l1 then l1 else (0 : Int32))) then (x4 - (if (0 : Int32) < l1 then l1 else (0 : Int32))) else (0 : Int32)) h2) fun x8 h3 => (zgR h3 8 (some l0) 2).bind fun x9 => (f_X8_init_ N a1 x6 x8 x9 h3).bind fun h4 => some ((some a1), h4)
set_option maxHeartbeats 4000000 in
set_option maxRecDepth 100000 in
theorem s_X8_withoutLast {g : zG} (hg : g.2.1.map (fun q => q.2) = zty) {h0 : zH} (N : Nat) (l0 : Nat) (l1 : Int32) (h : zH) (r : Option Nat) (h' : zH) (hf : f_X8_withoutLast N l0 l1 h = some (r, h')) : zR g jX8_withoutLast h0 0 [some (zr (some l0)), some (zi l1), none, none] [] h (some (zr r)) h' := by
  unfold f_X8_withoutLast at hf
  refine zr_iconst (v := (0 : Int32)) dX8_withoutLast_0 (by decide) ?_
  refine zr_aload_n (v := .inl (some l0)) dX8_withoutLast_1 rfl rfl ?_
  revert hf; refine zbi (fun x1 e_x1 hf => ?_)
  refine zq_getR kg_243 dX8_withoutLast_2 e_x1 ?_
  revert hf; refine zbi (fun x2 e_x2 hf => ?_)
  refine zq_alen dX8_withoutLast_5 e_x2 ?_
  refine zr_iconst (v := (1 : Int32)) dX8_withoutLast_6 (by decide) ?_
  refine zr_isub dX8_withoutLast_7 ?_
  refine zr_mmax kw_357 kw_108 kw_25 kw_109 ⟨Nat.le_of_ble_eq_true rfl, Nat.le_of_ble_eq_true rfl⟩ dX8_withoutLast_8 ?_
  refine zq_istore_n (x := (if (0 : Int32) < (x2 - (1 : Int32)) then (x2 - (1 : Int32)) else (0 : Int32))) (L' := [some (zr (some l0)), some (zi l1), some (zi (if (0 : Int32) < (x2 - (1 : Int32)) then (x2 - (1 : Int32)) else (0 : Int32))), none]) dX8_withoutLast_11 rfl (by decide) rfl ?_
  refine zr_iconst (v := (0 : Int32)) dX8_withoutLast_12 (by decide) ?_
  refine zr_aload_n (v := .inl (some l0)) dX8_withoutLast_13 rfl rfl ?_
  revert hf; refine zbi (fun x3 e_x3 hf => ?_)
  refine zq_getR kg_247 dX8_withoutLast_14 e_x3 ?_
  revert hf; refine zbi (fun x4 e_x4 hf => ?_)
  refine zq_alen dX8_withoutLast_17 e_x4 ?_
  refine zr_iconst (v := (0 : Int32)) dX8_withoutLast_18 (by decide) ?_
  refine zr_iload_n (x := l1) dX8_withoutLast_19 rfl rfl ?_
  refine zr_mmax kw_357 kw_108 kw_25 kw_109 ⟨Nat.le_of_ble_eq_true rfl, Nat.le_of_ble_eq_true rfl⟩ dX8_withoutLast_20 ?_
  refine zr_isub dX8_withoutLast_23 ?_
  refine zr_mmax kw_357 kw_108 kw_25 kw_109 ⟨Nat.le_of_ble_eq_true rfl, Nat.le_of_ble_eq_true rfl⟩ dX8_withoutLast_24 ?_
  refine zq_istore_n (x := (if (0 : Int32) < (x4 - (if (0 : Int32) < l1 then l1 else (0 : Int32))) then (x4 - (if (0 : Int32) < l1 then l1 else (0 : Int32))) else (0 : Int32))) (L' := [some (zr (some l0)), some (zi l1), some (zi (if (0 : Int32) < (x2 - (1 : Int32)) then (x2 - (1 : Int32)) else (0 : Int32))), some (zi (if (0 : Int32) < (x4 - (if (0 : Int32) < l1 then l1 else (0 : Int32))) then (x4 - (if (0 : Int32) < l1 then l1 else (0 : Int32))) else (0 : Int32)))]) dX8_withoutLast_27 rfl (by decide) rfl ?_
  obtain ⟨a1, h1, e_a1, e_h1, hf⟩ := znw_spec hf
  refine zq_new kn_277 dX8_withoutLast_28 e_a1 e_h1 ?_
  refine zr_dup dX8_withoutLast_31 ?_
  refine zr_aload_n (v := .inl (some l0)) dX8_withoutLast_32 rfl rfl ?_
  revert hf; refine zbi (fun x5 e_x5 hf => ?_)
  refine zq_getR kg_243 dX8_withoutLast_33 e_x5 ?_
  refine zr_iload_n (x := (if (0 : Int32) < (x2 - (1 : Int32)) then (x2 - (1 : Int32)) else (0 : Int32))) dX8_withoutLast_36 rfl rfl ?_
  revert hf; refine zbi2 (fun x6 h2 e_x6 hf => ?_)
  refine zq_callS (J' := jJ7_copyOf_59c91) (as := [zr x5, zi (if (0 : Int32) < (x2 - (1 : Int32)) then (x2 - (1 : Int32)) else (0 : Int32))]) (rest := [zr (some a1), zr (some a1)]) (r1 := (some (zr x6))) kw_351 km_J7_copyOf_59c91 kt_282 dX8_withoutLast_37 rfl (Nat.le_of_ble_eq_true rfl) rfl (c_J7_copyOf_59c91 hg e_x6) ?_
  refine zr_aload_n (v := .inl (some l0)) dX8_withoutLast_40 rfl rfl ?_
  revert hf; refine zbi (fun x7 e_x7 hf => ?_)
  refine zq_getR kg_247 dX8_withoutLast_41 e_x7 ?_
  refine zr_iload_n (x := (if (0 : Int32) < (x4 - (if (0 : Int32) < l1 then l1 else (0 : Int32))) then (x4 - (if (0 : Int32) < l1 then l1 else (0 : Int32))) else (0 : Int32))) dX8_withoutLast_44 rfl rfl ?_
  revert hf; refine zbi2 (fun x8 h3 e_x8 hf => ?_)
  refine zq_callS (J' := jJ7_copyOf_59c91) (as := [zr x7, zi (if (0 : Int32) < (x4 - (if (0 : Int32) < l1 then l1 else (0 : Int32))) then (x4 - (if (0 : Int32) < l1 then l1 else (0 : Int32))) else (0 : Int32))]) (rest := [zr x6, zr (some a1), zr (some a1)]) (r1 := (some (zr x8))) kw_351 km_J7_copyOf_59c91 kt_282 dX8_withoutLast_45 rfl (Nat.le_of_ble_eq_true rfl) rfl (c_J7_copyOf_59c91 hg e_x8) ?_
  refine zr_aload_n (v := .inl (some l0)) dX8_withoutLast_48 rfl rfl ?_
  revert hf; refine zbi (fun x9 e_x9 hf => ?_)
  refine zq_getR kg_244 dX8_withoutLast_49 e_x9 ?_
  revert hf; refine zbi (fun h4 e_h4 hf => ?_)
  refine zq_callI (J' := jX8_init_) (as := [zr x6, zr x8, zr x9]) (rest := [zr (some a1)]) (r1 := none) (a := a1) kw_348 km_X8_init_ kt_283 dX8_withoutLast_52 rfl (Nat.le_of_ble_eq_true rfl) rfl (c_X8_init_ hg e_h4) ?_
  cases hf
  exact zr_ret _ (Or.inl ⟨_, rfl⟩) dX8_withoutLast_55
theorem c_X8_withoutLast {g : zG} (hg : g.2.1.map (fun q => q.2) = zty) {N : Nat} {l0 : Nat} {l1 : Int32} {h : zH} {r : Option Nat} {h' : zH} (hf : f_X8_withoutLast N l0 l1 h = some (r, h')) : zCa g jX8_withoutLast [zr (some l0), zi l1] h (some (zr r)) h' :=
  zCa.of hg (by decide +kernel) (Nat.le_of_ble_eq_true rfl) (s_X8_withoutLast hg N l0 l1 h r h' hf)
theorem dX8_withOff_0 : decode cX8_withOff 0 = .ok (.new 4, 3) := by decide +kernel
theorem dX8_withOff_3 : decode cX8_withOff 3 = .ok (.dup, 1) := by decide +kernel
theorem dX8_withOff_4 : decode cX8_withOff 4 = .ok (.aload_n 0, 1) := by decide +kernel
theorem dX8_withOff_5 : decode cX8_withOff 5 = .ok (.getfield 14, 3) := by decide +kernel
theorem dX8_withOff_8 : decode cX8_withOff 8 = .ok (.aload_n 0, 1) := by decide +kernel
theorem dX8_withOff_9 : decode cX8_withOff 9 = .ok (.getfield 18, 3) := by decide +kernel
theorem dX8_withOff_12 : decode cX8_withOff 12 = .ok (.aload_n 0, 1) := by decide +kernel
theorem dX8_withOff_13 : decode cX8_withOff 13 = .ok (.getfield 21, 3) := by decide +kernel
theorem dX8_withOff_16 : decode cX8_withOff 16 = .ok (.iload_n 1, 1) := by decide +kernel
theorem dX8_withOff_17 : decode cX8_withOff 17 = .ok (.invokestatic 37, 3) := by decide +kernel
theorem dX8_withOff_20 : decode cX8_withOff 20 = .ok (.invokespecial 3, 3) := by decide +kernel
theorem dX8_withOff_23 : decode cX8_withOff 23 = .ok (.areturn, 1) := by decide +kernel
def f_X8_withOff (N : Nat) (l0 : Nat) (l1 : Int32) (h : zH) : Option ((Option Nat) × zH) := znw h (.inr (8, [zr none, zr none, zr none])) fun a1 h1 => (zgR h1 8 (some l0) 0).bind fun x1 => (zgR h1 8 (some l0) 1).bind fun x2 => (zgR h1 8 (some l0) 2).bind fun x3 => zb2 (f_X8_joined N x3 l1 h1) fun x4 h2 => (f_X8_init_ N a1 x1 x2 x4 h2).bind fun h3 => some ((some a1), h3)
set_option maxHeartbeats 4000000 in
set_option maxRecDepth 100000 in
theorem s_X8_withOff {g : zG} (hg : g.2.1.map (fun q => q.2) = zty) {h0 : zH} (N : Nat) (l0 : Nat) (l1 : Int32) (h : zH) (r : Option Nat) (h' : zH) (hf : f_X8_withOff N l0 l1 h = some (r, h')) : zR g jX8_withOff h0 0 [some (zr (some l0)), some (zi l1)] [] h (some (zr r)) h' := by
  unfold f_X8_withOff at hf
  obtain ⟨a1, h1, e_a1, e_h1, hf⟩ := znw_spec hf
  refine zq_new kn_277 dX8_withOff_0 e_a1 e_h1 ?_
  refine zr_dup dX8_withOff_3 ?_
  refine zr_aload_n (v := .inl (some l0)) dX8_withOff_4 rfl rfl ?_
  revert hf; refine zbi (fun x1 e_x1 hf => ?_)
  refine zq_getR kg_243 dX8_withOff_5 e_x1 ?_
  refine zr_aload_n (v := .inl (some l0)) dX8_withOff_8 rfl rfl ?_
  revert hf; refine zbi (fun x2 e_x2 hf => ?_)
  refine zq_getR kg_247 dX8_withOff_9 e_x2 ?_
  refine zr_aload_n (v := .inl (some l0)) dX8_withOff_12 rfl rfl ?_
  revert hf; refine zbi (fun x3 e_x3 hf => ?_)
  refine zq_getR kg_244 dX8_withOff_13 e_x3 ?_
  refine zr_iload_n (x := l1) dX8_withOff_16 rfl rfl ?_
  revert hf; refine zbi2 (fun x4 h2 e_x4 hf => ?_)
  refine zq_callS (J' := jX8_joined) (as := [zr x3, zi l1]) (rest := [zr x2, zr x1, zr (some a1), zr (some a1)]) (r1 := (some (zr x4))) kw_354 km_X8_joined kt_284 dX8_withOff_17 rfl (Nat.le_of_ble_eq_true rfl) rfl (c_X8_joined hg e_x4) ?_
  revert hf; refine zbi (fun h3 e_h3 hf => ?_)
  refine zq_callI (J' := jX8_init_) (as := [zr x1, zr x2, zr x4]) (rest := [zr (some a1)]) (r1 := none) (a := a1) kw_348 km_X8_init_ kt_285 dX8_withOff_20 rfl (Nat.le_of_ble_eq_true rfl) rfl (c_X8_init_ hg e_h3) ?_
  cases hf
  exact zr_ret _ (Or.inl ⟨_, rfl⟩) dX8_withOff_23
theorem c_X8_withOff {g : zG} (hg : g.2.1.map (fun q => q.2) = zty) {N : Nat} {l0 : Nat} {l1 : Int32} {h : zH} {r : Option Nat} {h' : zH} (hf : f_X8_withOff N l0 l1 h = some (r, h')) : zCa g jX8_withOff [zr (some l0), zi l1] h (some (zr r)) h' :=
  zCa.of hg (by decide +kernel) (Nat.le_of_ble_eq_true rfl) (s_X8_withOff hg N l0 l1 h r h' hf)
theorem dX9_init_0 : decode cX9_init 0 = .ok (.aload_n 0, 1) := by decide +kernel
theorem dX9_init_1 : decode cX9_init 1 = .ok (.invokespecial 3, 3) := by decide +kernel
theorem dX9_init_4 : decode cX9_init 4 = .ok (.aload_n 0, 1) := by decide +kernel
theorem dX9_init_5 : decode cX9_init 5 = .ok (.aconst_null, 1) := by decide +kernel
theorem dX9_init_6 : decode cX9_init 6 = .ok (.putfield 9, 3) := by decide +kernel
theorem dX9_init_9 : decode cX9_init 9 = .ok (.aload_n 0, 1) := by decide +kernel
theorem dX9_init_10 : decode cX9_init 10 = .ok (.bipush 16, 2) := by decide +kernel
theorem dX9_init_12 : decode cX9_init 12 = .ok (.anewarray 15, 3) := by decide +kernel
theorem dX9_init_15 : decode cX9_init 15 = .ok (.putfield 17, 3) := by decide +kernel
theorem dX9_init_18 : decode cX9_init 18 = .ok (.aload_n 0, 1) := by decide +kernel
theorem dX9_init_19 : decode cX9_init 19 = .ok (.new 21, 3) := by decide +kernel
theorem dX9_init_22 : decode cX9_init 22 = .ok (.dup, 1) := by decide +kernel
theorem dX9_init_23 : decode cX9_init 23 = .ok (.invokespecial 23, 3) := by decide +kernel
theorem dX9_init_26 : decode cX9_init 26 = .ok (.putfield 24, 3) := by decide +kernel
theorem dX9_init_29 : decode cX9_init 29 = .ok (.aload_n 0, 1) := by decide +kernel
theorem dX9_init_30 : decode cX9_init 30 = .ok (.new 28, 3) := by decide +kernel
theorem dX9_init_33 : decode cX9_init 33 = .ok (.dup, 1) := by decide +kernel
theorem dX9_init_34 : decode cX9_init 34 = .ok (.invokespecial 30, 3) := by decide +kernel
theorem dX9_init_37 : decode cX9_init 37 = .ok (.putfield 31, 3) := by decide +kernel
theorem dX9_init_40 : decode cX9_init 40 = .ok (.aload_n 0, 1) := by decide +kernel
theorem dX9_init_41 : decode cX9_init 41 = .ok (.iconst 0, 1) := by decide +kernel
theorem dX9_init_42 : decode cX9_init 42 = .ok (.putfield 35, 3) := by decide +kernel
theorem dX9_init_45 : decode cX9_init 45 = .ok (.return_, 1) := by decide +kernel
def f_X9_init (N : Nat) (l0 : Nat) (h : zH) : Option zH := (zpu h 9 (some l0) 0 (zr none)).bind fun h1 => znq h1 4 (16 : Int32) fun a1 h2 => (zpu h2 9 (some l0) 1 (zr (some a1))).bind fun h3 => znw h3 (.inr (1, [zr none])) fun a2 h4 => (f_X1_init N a2 h4).bind fun h5 => (zpu h5 9 (some l0) 2 (zr (some a2))).bind fun h6 => znw h6 (.inr (2, [zr none, zr none, zr none])) fun a3 h7 => (f_X2_init N a3 h7).bind fun h8 => (zpu h8 9 (some l0) 3 (zr (some a3))).bind fun h9 => (zpu h9 9 (some l0) 4 (zi (0 : Int32))).bind fun h10 => some h10
set_option maxHeartbeats 4000000 in
set_option maxRecDepth 100000 in
theorem s_X9_init {g : zG} (hg : g.2.1.map (fun q => q.2) = zty) {h0 : zH} (N : Nat) (l0 : Nat) (h : zH) (h' : zH) (hf : f_X9_init N l0 h = some h') : zR g jX9_init h0 0 [some (zr (some l0))] [] h none h' := by
  unfold f_X9_init at hf
  refine zr_aload_n (v := .inl (some l0)) dX9_init_0 rfl rfl ?_
  refine zr_objInit kw_358 kw_1 kw_2 ⟨Nat.le_of_ble_eq_true rfl, Nat.le_of_ble_eq_true rfl⟩ dX9_init_1 ?_
  refine zr_aload_n (v := .inl (some l0)) dX9_init_4 rfl rfl ?_
  refine zr_null dX9_init_5 ?_
  revert hf; refine zbi (fun h1 e_h1 hf => ?_)
  refine zq_put (kp_286 _) dX9_init_6 (zn_o _ _) e_h1 ?_
  refine zr_aload_n (v := .inl (some l0)) dX9_init_9 rfl rfl ?_
  refine zr_bipush (v := (16 : Int32)) dX9_init_10 (by decide) ?_
  obtain ⟨a1, h2, e_a1, hf⟩ := znq_spec hf
  refine zq_newq (t := 4) kw_360 (Or.inl rfl) rfl dX9_init_12 e_a1 ?_
  revert hf; refine zbi (fun h3 e_h3 hf => ?_)
  refine zq_put kp_287 dX9_init_15 (zn_a _ _) e_h3 ?_
  refine zr_aload_n (v := .inl (some l0)) dX9_init_18 rfl rfl ?_
  obtain ⟨a2, h4, e_a2, e_h4, hf⟩ := znw_spec hf
  refine zq_new kn_288 dX9_init_19 e_a2 e_h4 ?_
  refine zr_dup dX9_init_22 ?_
  revert hf; refine zbi (fun h5 e_h5 hf => ?_)
  refine zq_callI (J' := jX1_init) (as := []) (rest := [zr (some a2), zr (some l0)]) (r1 := none) (a := a2) kw_362 km_X1_init kt_290 dX9_init_23 rfl (Nat.le_of_ble_eq_true rfl) rfl (c_X1_init hg e_h5) ?_
  revert hf; refine zbi (fun h6 e_h6 hf => ?_)
  refine zq_put (kp_291 _) dX9_init_26 (zn_o _ _) e_h6 ?_
  refine zr_aload_n (v := .inl (some l0)) dX9_init_29 rfl rfl ?_
  obtain ⟨a3, h7, e_a3, e_h7, hf⟩ := znw_spec hf
  refine zq_new kn_292 dX9_init_30 e_a3 e_h7 ?_
  refine zr_dup dX9_init_33 ?_
  revert hf; refine zbi (fun h8 e_h8 hf => ?_)
  refine zq_callI (J' := jX2_init) (as := []) (rest := [zr (some a3), zr (some l0)]) (r1 := none) (a := a3) kw_367 km_X2_init kt_294 dX9_init_34 rfl (Nat.le_of_ble_eq_true rfl) rfl (c_X2_init hg e_h8) ?_
  revert hf; refine zbi (fun h9 e_h9 hf => ?_)
  refine zq_put (kp_295 _) dX9_init_37 (zn_o _ _) e_h9 ?_
  refine zr_aload_n (v := .inl (some l0)) dX9_init_40 rfl rfl ?_
  refine zr_iconst (v := (0 : Int32)) dX9_init_41 (by decide) ?_
  revert hf; refine zbi (fun h10 e_h10 hf => ?_)
  refine zq_put (kp_296 _) dX9_init_42 (zn_i _) e_h10 ?_
  cases hf
  exact zr_ret none trivial dX9_init_45
theorem c_X9_init {g : zG} (hg : g.2.1.map (fun q => q.2) = zty) {N : Nat} {l0 : Nat} {h : zH} {h' : zH} (hf : f_X9_init N l0 h = some h') : zCa g jX9_init [zr (some l0)] h none h' :=
  zCa.of hg (by decide +kernel) (Nat.le_of_ble_eq_true rfl) (s_X9_init hg N l0 h h' hf)
theorem dX9_init__0 : decode cX9_init_ 0 = .ok (.aload_n 0, 1) := by decide +kernel
theorem dX9_init__1 : decode cX9_init_ 1 = .ok (.invokespecial 3, 3) := by decide +kernel
theorem dX9_init__4 : decode cX9_init_ 4 = .ok (.aload_n 0, 1) := by decide +kernel
theorem dX9_init__5 : decode cX9_init_ 5 = .ok (.aload_n 1, 1) := by decide +kernel
theorem dX9_init__6 : decode cX9_init_ 6 = .ok (.getfield 9, 3) := by decide +kernel
theorem dX9_init__9 : decode cX9_init_ 9 = .ok (.putfield 9, 3) := by decide +kernel
theorem dX9_init__12 : decode cX9_init_ 12 = .ok (.aload_n 0, 1) := by decide +kernel
theorem dX9_init__13 : decode cX9_init_ 13 = .ok (.aload_n 1, 1) := by decide +kernel
theorem dX9_init__14 : decode cX9_init_ 14 = .ok (.getfield 17, 3) := by decide +kernel
theorem dX9_init__17 : decode cX9_init_ 17 = .ok (.invokevirtual 39, 3) := by decide +kernel
theorem dX9_init__20 : decode cX9_init_ 20 = .ok (.checkcast 40, 3) := by decide +kernel
theorem dX9_init__23 : decode cX9_init_ 23 = .ok (.putfield 17, 3) := by decide +kernel
theorem dX9_init__26 : decode cX9_init_ 26 = .ok (.aload_n 0, 1) := by decide +kernel
theorem dX9_init__27 : decode cX9_init_ 27 = .ok (.aload_n 1, 1) := by decide +kernel
theorem dX9_init__28 : decode cX9_init_ 28 = .ok (.getfield 24, 3) := by decide +kernel
theorem dX9_init__31 : decode cX9_init_ 31 = .ok (.putfield 24, 3) := by decide +kernel
theorem dX9_init__34 : decode cX9_init_ 34 = .ok (.aload_n 0, 1) := by decide +kernel
theorem dX9_init__35 : decode cX9_init_ 35 = .ok (.aload_n 1, 1) := by decide +kernel
theorem dX9_init__36 : decode cX9_init_ 36 = .ok (.getfield 31, 3) := by decide +kernel
theorem dX9_init__39 : decode cX9_init_ 39 = .ok (.putfield 31, 3) := by decide +kernel
theorem dX9_init__42 : decode cX9_init_ 42 = .ok (.aload_n 0, 1) := by decide +kernel
theorem dX9_init__43 : decode cX9_init_ 43 = .ok (.aload_n 1, 1) := by decide +kernel
theorem dX9_init__44 : decode cX9_init_ 44 = .ok (.getfield 35, 3) := by decide +kernel
theorem dX9_init__47 : decode cX9_init_ 47 = .ok (.putfield 35, 3) := by decide +kernel
theorem dX9_init__50 : decode cX9_init_ 50 = .ok (.return_, 1) := by decide +kernel
def f_X9_init_ (N : Nat) (l0 : Nat) (l1 : Option Nat) (h : zH) : Option zH := (zgR h 9 l1 0).bind fun x1 => (zpu h 9 (some l0) 0 (zr x1)).bind fun h1 => (zgR h1 9 l1 1).bind fun x2 => zcl h1 4 x2 fun a1 h2 => (zpu h2 9 (some l0) 1 (zr (some a1))).bind fun h3 => (zgR h3 9 l1 2).bind fun x3 => (zpu h3 9 (some l0) 2 (zr x3)).bind fun h4 => (zgR h4 9 l1 3).bind fun x4 => (zpu h4 9 (some l0) 3 (zr x4)).bind fun h5 => (zgI h5 9 l1 4).bind fun x5 => (zpu h5 9 (some l0) 4 (zi x5)).bind fun h6 => some h6
set_option maxHeartbeats 4000000 in
set_option maxRecDepth 100000 in
theorem s_X9_init_ {g : zG} (hg : g.2.1.map (fun q => q.2) = zty) {h0 : zH} (N : Nat) (l0 : Nat) (l1 : Option Nat) (h : zH) (h' : zH) (hf : f_X9_init_ N l0 l1 h = some h') : zR g jX9_init_ h0 0 [some (zr (some l0)), some (zr l1)] [] h none h' := by
  unfold f_X9_init_ at hf
  refine zr_aload_n (v := .inl (some l0)) dX9_init__0 rfl rfl ?_
  refine zr_objInit kw_358 kw_1 kw_2 ⟨Nat.le_of_ble_eq_true rfl, Nat.le_of_ble_eq_true rfl⟩ dX9_init__1 ?_
  refine zr_aload_n (v := .inl (some l0)) dX9_init__4 rfl rfl ?_
  refine zr_aload_n (v := .inl l1) dX9_init__5 rfl rfl ?_
  revert hf; refine zbi (fun x1 e_x1 hf => ?_)
  refine zq_getR kg_297 dX9_init__6 e_x1 ?_
  revert hf; refine zbi (fun h1 e_h1 hf => ?_)
  refine zq_put (kp_286 _) dX9_init__9 (zn_o _ _) e_h1 ?_
  refine zr_aload_n (v := .inl (some l0)) dX9_init__12 rfl rfl ?_
  refine zr_aload_n (v := .inl l1) dX9_init__13 rfl rfl ?_
  revert hf; refine zbi (fun x2 e_x2 hf => ?_)
  refine zq_getR kg_57 dX9_init__14 e_x2 ?_
  obtain ⟨a1, h2, e_a1, hf⟩ := zcl_spec hf
  refine zq_clone (t := 4) kk_298 rfl (by decide +kernel) (Or.inr ⟨rfl, _, rfl⟩) ⟨Nat.le_of_ble_eq_true rfl, Nat.le_of_ble_eq_true rfl⟩ dX9_init__17 e_a1 ?_
  refine zq_castA (t := 4) (ad := "[LArcheryField$Archer;") (x := none) kw_376 rfl (by decide +kernel) dX9_init__20 (zcl_got e_a1) ?_
  revert hf; refine zbi (fun h3 e_h3 hf => ?_)
  refine zq_put kp_287 dX9_init__23 (zn_a _ _) e_h3 ?_
  refine zr_aload_n (v := .inl (some l0)) dX9_init__26 rfl rfl ?_
  refine zr_aload_n (v := .inl l1) dX9_init__27 rfl rfl ?_
  revert hf; refine zbi (fun x3 e_x3 hf => ?_)
  refine zq_getR kg_299 dX9_init__28 e_x3 ?_
  revert hf; refine zbi (fun h4 e_h4 hf => ?_)
  refine zq_put (kp_291 _) dX9_init__31 (zn_o _ _) e_h4 ?_
  refine zr_aload_n (v := .inl (some l0)) dX9_init__34 rfl rfl ?_
  refine zr_aload_n (v := .inl l1) dX9_init__35 rfl rfl ?_
  revert hf; refine zbi (fun x4 e_x4 hf => ?_)
  refine zq_getR kg_300 dX9_init__36 e_x4 ?_
  revert hf; refine zbi (fun h5 e_h5 hf => ?_)
  refine zq_put (kp_295 _) dX9_init__39 (zn_o _ _) e_h5 ?_
  refine zr_aload_n (v := .inl (some l0)) dX9_init__42 rfl rfl ?_
  refine zr_aload_n (v := .inl l1) dX9_init__43 rfl rfl ?_
  revert hf; refine zbi (fun x5 e_x5 hf => ?_)
  refine zq_getI kg_301 dX9_init__44 e_x5 ?_
  revert hf; refine zbi (fun h6 e_h6 hf => ?_)
  refine zq_put (kp_296 _) dX9_init__47 (zn_i _) e_h6 ?_
  cases hf
  exact zr_ret none trivial dX9_init__50
theorem c_X9_init_ {g : zG} (hg : g.2.1.map (fun q => q.2) = zty) {N : Nat} {l0 : Nat} {l1 : Option Nat} {h : zH} {h' : zH} (hf : f_X9_init_ N l0 l1 h = some h') : zCa g jX9_init_ [zr (some l0), zr l1] h none h' :=
  zCa.of hg (by decide +kernel) (Nat.le_of_ble_eq_true rfl) (s_X9_init_ hg N l0 l1 h h' hf)
theorem dX9_put_0 : decode cX9_put 0 = .ok (.iload_n 1, 1) := by decide +kernel
theorem dX9_put_1 : decode cX9_put 1 = .ok (.ifCond .lt 19, 3) := by decide +kernel
theorem dX9_put_4 : decode cX9_put 4 = .ok (.iload_n 1, 1) := by decide +kernel
theorem dX9_put_5 : decode cX9_put 5 = .ok (.aload_n 0, 1) := by decide +kernel
theorem dX9_put_6 : decode cX9_put 6 = .ok (.getfield 17, 3) := by decide +kernel
theorem dX9_put_9 : decode cX9_put 9 = .ok (.arraylength, 1) := by decide +kernel
theorem dX9_put_10 : decode cX9_put 10 = .ok (.if_icmp .ge 10, 3) := by decide +kernel
theorem dX9_put_13 : decode cX9_put 13 = .ok (.aload_n 0, 1) := by decide +kernel
theorem dX9_put_14 : decode cX9_put 14 = .ok (.getfield 17, 3) := by decide +kernel
theorem dX9_put_17 : decode cX9_put 17 = .ok (.iload_n 1, 1) := by decide +kernel
theorem dX9_put_18 : decode cX9_put 18 = .ok (.aload_n 2, 1) := by decide +kernel
theorem dX9_put_19 : decode cX9_put 19 = .ok (.aastore, 1) := by decide +kernel
theorem dX9_put_20 : decode cX9_put 20 = .ok (.return_, 1) := by decide +kernel
def f_X9_put (N : Nat) (l0 : Nat) (l1 : Int32) (l2 : Option Nat) (h : zH) : Option zH := if l1 < 0 then some h else (zgR h 9 (some l0) 1).bind fun x1 => (zlen h x1).bind fun x2 => if x2 ≤ l1 then some h else (zgR h 9 (some l0) 1).bind fun x3 => (zstR h 4 0 x3 l1 l2).bind fun h1 => some h1
set_option maxHeartbeats 4000000 in
set_option maxRecDepth 100000 in
theorem s_X9_put {g : zG} (hg : g.2.1.map (fun q => q.2) = zty) {h0 : zH} (N : Nat) (l0 : Nat) (l1 : Int32) (l2 : Option Nat) (h : zH) (h' : zH) (hf : f_X9_put N l0 l1 l2 h = some h') : zR g jX9_put h0 0 [some (zr (some l0)), some (zi l1), some (zr l2)] [] h none h' := by
  unfold f_X9_put at hf
  refine zr_iload_n (x := l1) dX9_put_0 rfl rfl ?_
  by_cases hc1 : l1 < 0
  · rw [if_pos hc1] at hf
    refine zr_iflt_t (tgt := 20) dX9_put_1 (by decide) hc1 ?_
    cases hf
    exact zr_ret none trivial dX9_put_20
  · rw [if_neg hc1] at hf
    refine zr_iflt_f 20 dX9_put_1 (by decide) hc1 ?_
    refine zr_iload_n (x := l1) dX9_put_4 rfl rfl ?_
    refine zr_aload_n (v := .inl (some l0)) dX9_put_5 rfl rfl ?_
    revert hf; refine zbi (fun x1 e_x1 hf => ?_)
    refine zq_getR kg_57 dX9_put_6 e_x1 ?_
    revert hf; refine zbi (fun x2 e_x2 hf => ?_)
    refine zq_alen dX9_put_9 e_x2 ?_
    by_cases hc2 : x2 ≤ l1
    · rw [if_pos hc2] at hf
      refine zr_icge_t (tgt := 20) dX9_put_10 (by decide) hc2 ?_
      cases hf
      exact zr_ret none trivial dX9_put_20
    · rw [if_neg hc2] at hf
      refine zr_icge_f 20 dX9_put_10 (by decide) hc2 ?_
      refine zr_aload_n (v := .inl (some l0)) dX9_put_13 rfl rfl ?_
      revert hf; refine zbi (fun x3 e_x3 hf => ?_)
      refine zq_getR kg_57 dX9_put_14 e_x3 ?_
      refine zr_iload_n (x := l1) dX9_put_17 rfl rfl ?_
      refine zr_aload_n (v := .inl l2) dX9_put_18 rfl rfl ?_
      revert hf; refine zbi (fun h1 e_h1 hf => ?_)
      refine zq_aast (t := 4) (ci := 0) (rr := (RX0, TX0, 3)) rfl rfl dX9_put_19 e_h1 ?_
      cases hf
      exact zr_ret none trivial dX9_put_20
theorem c_X9_put {g : zG} (hg : g.2.1.map (fun q => q.2) = zty) {N : Nat} {l0 : Nat} {l1 : Int32} {l2 : Option Nat} {h : zH} {h' : zH} (hf : f_X9_put N l0 l1 l2 h = some h') : zCa g jX9_put [zr (some l0), zi l1, zr l2] h none h' :=
  zCa.of hg (by decide +kernel) (Nat.le_of_ble_eq_true rfl) (s_X9_put hg N l0 l1 l2 h h' hf)
theorem dX9_freeNumber_0 : decode cX9_freeNumber 0 = .ok (.iconst 0, 1) := by decide +kernel
theorem dX9_freeNumber_1 : decode cX9_freeNumber 1 = .ok (.istore_n 1, 1) := by decide +kernel
theorem dX9_freeNumber_2 : decode cX9_freeNumber 2 = .ok (.iload_n 1, 1) := by decide +kernel
theorem dX9_freeNumber_3 : decode cX9_freeNumber 3 = .ok (.aload_n 0, 1) := by decide +kernel
theorem dX9_freeNumber_4 : decode cX9_freeNumber 4 = .ok (.getfield 17, 3) := by decide +kernel
theorem dX9_freeNumber_7 : decode cX9_freeNumber 7 = .ok (.arraylength, 1) := by decide +kernel
theorem dX9_freeNumber_8 : decode cX9_freeNumber 8 = .ok (.if_icmp .ge 20, 3) := by decide +kernel
theorem dX9_freeNumber_11 : decode cX9_freeNumber 11 = .ok (.aload_n 0, 1) := by decide +kernel
theorem dX9_freeNumber_12 : decode cX9_freeNumber 12 = .ok (.getfield 17, 3) := by decide +kernel
theorem dX9_freeNumber_15 : decode cX9_freeNumber 15 = .ok (.iload_n 1, 1) := by decide +kernel
theorem dX9_freeNumber_16 : decode cX9_freeNumber 16 = .ok (.aaload, 1) := by decide +kernel
theorem dX9_freeNumber_17 : decode cX9_freeNumber 17 = .ok (.ifnonnull 5, 3) := by decide +kernel
theorem dX9_freeNumber_20 : decode cX9_freeNumber 20 = .ok (.iload_n 1, 1) := by decide +kernel
theorem dX9_freeNumber_21 : decode cX9_freeNumber 21 = .ok (.ireturn, 1) := by decide +kernel
theorem dX9_freeNumber_22 : decode cX9_freeNumber 22 = .ok (.iinc 1 1, 3) := by decide +kernel
theorem dX9_freeNumber_25 : decode cX9_freeNumber 25 = .ok (.goto (-23), 3) := by decide +kernel
theorem dX9_freeNumber_28 : decode cX9_freeNumber 28 = .ok (.iconst (-1), 1) := by decide +kernel
theorem dX9_freeNumber_29 : decode cX9_freeNumber 29 = .ok (.ireturn, 1) := by decide +kernel
def f_X9_freeNumber_2 (N : Nat) : Nat → Nat → Int32 → zH → Option Int32
  | 0, _, _, _ => none
  | n + 1, l0, l1, h => (zgR h 9 (some l0) 1).bind fun x1 => (zlen h x1).bind fun x2 => if x2 ≤ l1 then some ((-1) : Int32) else (zgR h 9 (some l0) 1).bind fun x3 => (zldR h 4 x3 l1).bind fun x4 => if x4 = none then some l1 else f_X9_freeNumber_2 N n l0 (l1 + (1 : Int32)) h
set_option maxHeartbeats 4000000 in
set_option maxRecDepth 100000 in
theorem s_X9_freeNumber_2 {g : zG} (hg : g.2.1.map (fun q => q.2) = zty) {h0 : zH} (N : Nat) : ∀ (n : Nat) (l0 : Nat) (l1 : Int32) (h : zH) (r : Int32), f_X9_freeNumber_2 N n l0 l1 h = some r → zR g jX9_freeNumber h0 2 [some (zr (some l0)), some (zi l1)] [] h (some (zi r)) h := by
  intro n
  induction n with
  | zero =>
    intro l0 l1 h r hf
    cases hf
  | succ n ih =>
    intro l0 l1 h r hf
    rw [f_X9_freeNumber_2] at hf
    refine zr_iload_n (x := l1) dX9_freeNumber_2 rfl rfl ?_
    refine zr_aload_n (v := .inl (some l0)) dX9_freeNumber_3 rfl rfl ?_
    revert hf; refine zbi (fun x1 e_x1 hf => ?_)
    refine zq_getR kg_57 dX9_freeNumber_4 e_x1 ?_
    revert hf; refine zbi (fun x2 e_x2 hf => ?_)
    refine zq_alen dX9_freeNumber_7 e_x2 ?_
    by_cases hc1 : x2 ≤ l1
    · rw [if_pos hc1] at hf
      refine zr_icge_t (tgt := 28) dX9_freeNumber_8 (by decide) hc1 ?_
      refine zr_iconst (v := ((-1) : Int32)) dX9_freeNumber_28 (by decide) ?_
      cases hf
      exact zr_ret _ rfl dX9_freeNumber_29
    · rw [if_neg hc1] at hf
      refine zr_icge_f 28 dX9_freeNumber_8 (by decide) hc1 ?_
      refine zr_aload_n (v := .inl (some l0)) dX9_freeNumber_11 rfl rfl ?_
      revert hf; refine zbi (fun x3 e_x3 hf => ?_)
      refine zq_getR kg_57 dX9_freeNumber_12 e_x3 ?_
      refine zr_iload_n (x := l1) dX9_freeNumber_15 rfl rfl ?_
      revert hf; refine zbi (fun x4 e_x4 hf => ?_)
      refine zq_aald (t := 4) rfl dX9_freeNumber_16 e_x4 ?_
      by_cases hc2 : x4 = none
      · rw [if_pos hc2] at hf
        refine zr_ifnonnull_f dX9_freeNumber_17 hc2 ?_
        refine zr_iload_n (x := l1) dX9_freeNumber_20 rfl rfl ?_
        cases hf
        exact zr_ret _ rfl dX9_freeNumber_21
      · rw [if_neg hc2] at hf
        refine zr_ifnonnull_t (tgt := 22) dX9_freeNumber_17 (by decide) hc2 ?_
        refine zq_iinc (x := l1) (y := (1 : Int32)) (L' := [some (zr (some l0)), some (zi (l1 + (1 : Int32)))]) dX9_freeNumber_22 rfl (by decide) (by decide) rfl ?_
        refine zr_goto (tgt := 2) dX9_freeNumber_25 (by decide) ?_
        exact ih l0 (l1 + (1 : Int32)) h r hf
def f_X9_freeNumber (N : Nat) (l0 : Nat) (h : zH) : Option Int32 := f_X9_freeNumber_2 N N l0 (0 : Int32) h
set_option maxHeartbeats 4000000 in
set_option maxRecDepth 100000 in
theorem s_X9_freeNumber {g : zG} (hg : g.2.1.map (fun q => q.2) = zty) {h0 : zH} (N : Nat) (l0 : Nat) (h : zH) (r : Int32) (hf : f_X9_freeNumber N l0 h = some r) : zR g jX9_freeNumber h0 0 [some (zr (some l0)), none] [] h (some (zi r)) h := by
  unfold f_X9_freeNumber at hf
  refine zr_iconst (v := (0 : Int32)) dX9_freeNumber_0 (by decide) ?_
  refine zq_istore_n (x := (0 : Int32)) (L' := [some (zr (some l0)), some (zi (0 : Int32))]) dX9_freeNumber_1 rfl (by decide) rfl ?_
  exact s_X9_freeNumber_2 hg N N l0 (0 : Int32) h r hf
theorem c_X9_freeNumber {g : zG} (hg : g.2.1.map (fun q => q.2) = zty) {N : Nat} {l0 : Nat} {h : zH} {r : Int32} (hf : f_X9_freeNumber N l0 h = some r) : zCa g jX9_freeNumber [zr (some l0)] h (some (zi r)) h :=
  zCa.of hg (by decide +kernel) (Nat.le_of_ble_eq_true rfl) (s_X9_freeNumber hg N l0 h r hf)
theorem dX9_forgetShots_0 : decode cX9_forgetShots 0 = .ok (.new 44, 3) := by decide +kernel
theorem dX9_forgetShots_3 : decode cX9_forgetShots 3 = .ok (.dup, 1) := by decide +kernel
theorem dX9_forgetShots_4 : decode cX9_forgetShots 4 = .ok (.invokespecial 46, 3) := by decide +kernel
theorem dX9_forgetShots_7 : decode cX9_forgetShots 7 = .ok (.astore_n 1, 1) := by decide +kernel
theorem dX9_forgetShots_8 : decode cX9_forgetShots 8 = .ok (.iconst 0, 1) := by decide +kernel
theorem dX9_forgetShots_9 : decode cX9_forgetShots 9 = .ok (.istore_n 2, 1) := by decide +kernel
theorem dX9_forgetShots_10 : decode cX9_forgetShots 10 = .ok (.iload_n 2, 1) := by decide +kernel
theorem dX9_forgetShots_11 : decode cX9_forgetShots 11 = .ok (.aload_n 0, 1) := by decide +kernel
theorem dX9_forgetShots_12 : decode cX9_forgetShots 12 = .ok (.getfield 17, 3) := by decide +kernel
theorem dX9_forgetShots_15 : decode cX9_forgetShots 15 = .ok (.arraylength, 1) := by decide +kernel
theorem dX9_forgetShots_16 : decode cX9_forgetShots 16 = .ok (.if_icmp .ge 34, 3) := by decide +kernel
theorem dX9_forgetShots_19 : decode cX9_forgetShots 19 = .ok (.aload_n 0, 1) := by decide +kernel
theorem dX9_forgetShots_20 : decode cX9_forgetShots 20 = .ok (.getfield 17, 3) := by decide +kernel
theorem dX9_forgetShots_23 : decode cX9_forgetShots 23 = .ok (.iload_n 2, 1) := by decide +kernel
theorem dX9_forgetShots_24 : decode cX9_forgetShots 24 = .ok (.aaload, 1) := by decide +kernel
theorem dX9_forgetShots_25 : decode cX9_forgetShots 25 = .ok (.ifnull 19, 3) := by decide +kernel
theorem dX9_forgetShots_28 : decode cX9_forgetShots 28 = .ok (.aload_n 0, 1) := by decide +kernel
theorem dX9_forgetShots_29 : decode cX9_forgetShots 29 = .ok (.getfield 17, 3) := by decide +kernel
theorem dX9_forgetShots_32 : decode cX9_forgetShots 32 = .ok (.iload_n 2, 1) := by decide +kernel
theorem dX9_forgetShots_33 : decode cX9_forgetShots 33 = .ok (.aload_n 0, 1) := by decide +kernel
theorem dX9_forgetShots_34 : decode cX9_forgetShots 34 = .ok (.getfield 17, 3) := by decide +kernel
theorem dX9_forgetShots_37 : decode cX9_forgetShots 37 = .ok (.iload_n 2, 1) := by decide +kernel
theorem dX9_forgetShots_38 : decode cX9_forgetShots 38 = .ok (.aaload, 1) := by decide +kernel
theorem dX9_forgetShots_39 : decode cX9_forgetShots 39 = .ok (.aload_n 1, 1) := by decide +kernel
theorem dX9_forgetShots_40 : decode cX9_forgetShots 40 = .ok (.invokevirtual 47, 3) := by decide +kernel
theorem dX9_forgetShots_43 : decode cX9_forgetShots 43 = .ok (.aastore, 1) := by decide +kernel
theorem dX9_forgetShots_44 : decode cX9_forgetShots 44 = .ok (.iinc 2 1, 3) := by decide +kernel
theorem dX9_forgetShots_47 : decode cX9_forgetShots 47 = .ok (.goto (-37), 3) := by decide +kernel
theorem dX9_forgetShots_50 : decode cX9_forgetShots 50 = .ok (.return_, 1) := by decide +kernel
def f_X9_forgetShots_10 (N : Nat) : Nat → Nat → Option Nat → Int32 → zH → Option zH
  | 0, _, _, _, _ => none
  | n + 1, l0, l1, l2, h => (zgR h 9 (some l0) 1).bind fun x1 => (zlen h x1).bind fun x2 => if x2 ≤ l2 then some h else (zgR h 9 (some l0) 1).bind fun x3 => (zldR h 4 x3 l2).bind fun x4 => if x4 = none then f_X9_forgetShots_10 N n l0 l1 (l2 + (1 : Int32)) h else (zgR h 9 (some l0) 1).bind fun x5 => (zgR h 9 (some l0) 1).bind fun x6 => (zldR h 4 x6 l2).bind fun x7 => (zck h 0 x7).bind fun q1 => zb2 (f_X0_with N q1 l1 h) fun x8 h1 => (zstR h1 4 0 x5 l2 x8).bind fun h2 => f_X9_forgetShots_10 N n l0 l1 (l2 + (1 : Int32)) h2
set_option maxHeartbeats 4000000 in
set_option maxRecDepth 100000 in
theorem s_X9_forgetShots_10 {g : zG} (hg : g.2.1.map (fun q => q.2) = zty) {h0 : zH} (N : Nat) : ∀ (n : Nat) (l0 : Nat) (l1 : Option Nat) (l2 : Int32) (h : zH) (h' : zH), f_X9_forgetShots_10 N n l0 l1 l2 h = some h' → zR g jX9_forgetShots h0 10 [some (zr (some l0)), some (zr l1), some (zi l2)] [] h none h' := by
  intro n
  induction n with
  | zero =>
    intro l0 l1 l2 h h' hf
    cases hf
  | succ n ih =>
    intro l0 l1 l2 h h' hf
    rw [f_X9_forgetShots_10] at hf
    refine zr_iload_n (x := l2) dX9_forgetShots_10 rfl rfl ?_
    refine zr_aload_n (v := .inl (some l0)) dX9_forgetShots_11 rfl rfl ?_
    revert hf; refine zbi (fun x1 e_x1 hf => ?_)
    refine zq_getR kg_57 dX9_forgetShots_12 e_x1 ?_
    revert hf; refine zbi (fun x2 e_x2 hf => ?_)
    refine zq_alen dX9_forgetShots_15 e_x2 ?_
    by_cases hc1 : x2 ≤ l2
    · rw [if_pos hc1] at hf
      refine zr_icge_t (tgt := 50) dX9_forgetShots_16 (by decide) hc1 ?_
      cases hf
      exact zr_ret none trivial dX9_forgetShots_50
    · rw [if_neg hc1] at hf
      refine zr_icge_f 50 dX9_forgetShots_16 (by decide) hc1 ?_
      refine zr_aload_n (v := .inl (some l0)) dX9_forgetShots_19 rfl rfl ?_
      revert hf; refine zbi (fun x3 e_x3 hf => ?_)
      refine zq_getR kg_57 dX9_forgetShots_20 e_x3 ?_
      refine zr_iload_n (x := l2) dX9_forgetShots_23 rfl rfl ?_
      revert hf; refine zbi (fun x4 e_x4 hf => ?_)
      refine zq_aald (t := 4) rfl dX9_forgetShots_24 e_x4 ?_
      by_cases hc2 : x4 = none
      · rw [if_pos hc2] at hf
        refine zr_ifnull_t (tgt := 44) dX9_forgetShots_25 (by decide) hc2 ?_
        refine zq_iinc (x := l2) (y := (1 : Int32)) (L' := [some (zr (some l0)), some (zr l1), some (zi (l2 + (1 : Int32)))]) dX9_forgetShots_44 rfl (by decide) (by decide) rfl ?_
        refine zr_goto (tgt := 10) dX9_forgetShots_47 (by decide) ?_
        exact ih l0 l1 (l2 + (1 : Int32)) h h' hf
      · rw [if_neg hc2] at hf
        refine zr_ifnull_f dX9_forgetShots_25 hc2 ?_
        refine zr_aload_n (v := .inl (some l0)) dX9_forgetShots_28 rfl rfl ?_
        revert hf; refine zbi (fun x5 e_x5 hf => ?_)
        refine zq_getR kg_57 dX9_forgetShots_29 e_x5 ?_
        refine zr_iload_n (x := l2) dX9_forgetShots_32 rfl rfl ?_
        refine zr_aload_n (v := .inl (some l0)) dX9_forgetShots_33 rfl rfl ?_
        revert hf; refine zbi (fun x6 e_x6 hf => ?_)
        refine zq_getR kg_57 dX9_forgetShots_34 e_x6 ?_
        refine zr_iload_n (x := l2) dX9_forgetShots_37 rfl rfl ?_
        revert hf; refine zbi (fun x7 e_x7 hf => ?_)
        refine zq_aald (t := 4) rfl dX9_forgetShots_38 e_x7 ?_
        refine zr_aload_n (v := .inl l1) dX9_forgetShots_39 rfl rfl ?_
        revert hf; refine zbi (fun q1 e_q1 hf => ?_)
        revert hf; refine zbi2 (fun x8 h1 e_x8 hf => ?_)
        refine zq_callV (J' := jX0_with) (as := [zr l1]) (rest := [zi l2, zr x5]) (r1 := (some (zr x8))) (q := (RX0, TX0, 3)) kw_377 km_X0_with kt_303 dX9_forgetShots_40 rfl (Nat.le_of_ble_eq_true rfl) rfl rfl e_q1 rfl (c_X0_with hg e_x8) ?_
        revert hf; refine zbi (fun h2 e_h2 hf => ?_)
        refine zq_aast (t := 4) (ci := 0) (rr := (RX0, TX0, 3)) rfl rfl dX9_forgetShots_43 e_h2 ?_
        refine zq_iinc (x := l2) (y := (1 : Int32)) (L' := [some (zr (some l0)), some (zr l1), some (zi (l2 + (1 : Int32)))]) dX9_forgetShots_44 rfl (by decide) (by decide) rfl ?_
        refine zr_goto (tgt := 10) dX9_forgetShots_47 (by decide) ?_
        exact ih l0 l1 (l2 + (1 : Int32)) h2 h' hf
def f_X9_forgetShots (N : Nat) (l0 : Nat) (h : zH) : Option zH := znw h (.inr (8, [zr none, zr none, zr none])) fun a1 h1 => (f_X8_init N a1 h1).bind fun h2 => f_X9_forgetShots_10 N N l0 (some a1) (0 : Int32) h2
set_option maxHeartbeats 4000000 in
set_option maxRecDepth 100000 in
theorem s_X9_forgetShots {g : zG} (hg : g.2.1.map (fun q => q.2) = zty) {h0 : zH} (N : Nat) (l0 : Nat) (h : zH) (h' : zH) (hf : f_X9_forgetShots N l0 h = some h') : zR g jX9_forgetShots h0 0 [some (zr (some l0)), none, none] [] h none h' := by
  unfold f_X9_forgetShots at hf
  obtain ⟨a1, h1, e_a1, e_h1, hf⟩ := znw_spec hf
  refine zq_new kn_304 dX9_forgetShots_0 e_a1 e_h1 ?_
  refine zr_dup dX9_forgetShots_3 ?_
  revert hf; refine zbi (fun h2 e_h2 hf => ?_)
  refine zq_callI (J' := jX8_init) (as := []) (rest := [zr (some a1)]) (r1 := none) (a := a1) kw_382 km_X8_init kt_306 dX9_forgetShots_4 rfl (Nat.le_of_ble_eq_true rfl) rfl (c_X8_init hg e_h2) ?_
  refine zq_astore_n (v := .inl (some a1)) (L' := [some (zr (some l0)), some (zr (some a1)), none]) dX9_forgetShots_7 rfl (by decide) rfl ?_
  refine zr_iconst (v := (0 : Int32)) dX9_forgetShots_8 (by decide) ?_
  refine zq_istore_n (x := (0 : Int32)) (L' := [some (zr (some l0)), some (zr (some a1)), some (zi (0 : Int32))]) dX9_forgetShots_9 rfl (by decide) rfl ?_
  exact s_X9_forgetShots_10 hg N N l0 (some a1) (0 : Int32) h2 h' hf
theorem c_X9_forgetShots {g : zG} (hg : g.2.1.map (fun q => q.2) = zty) {N : Nat} {l0 : Nat} {h : zH} {h' : zH} (hf : f_X9_forgetShots N l0 h = some h') : zCa g jX9_forgetShots [zr (some l0)] h none h' :=
  zCa.of hg (by decide +kernel) (Nat.le_of_ble_eq_true rfl) (s_X9_forgetShots hg N l0 h h' hf)
theorem dX10_append_0 : decode cX10_append 0 = .ok (.aload_n 0, 1) := by decide +kernel
theorem dX10_append_1 : decode cX10_append 1 = .ok (.getfield 15, 3) := by decide +kernel
theorem dX10_append_4 : decode cX10_append 4 = .ok (.iconst 4, 1) := by decide +kernel
theorem dX10_append_5 : decode cX10_append 5 = .ok (.iadd, 1) := by decide +kernel
theorem dX10_append_6 : decode cX10_append 6 = .ok (.sipush 1000, 3) := by decide +kernel
theorem dX10_append_9 : decode cX10_append 9 = .ok (.if_icmp .le 4, 3) := by decide +kernel
theorem dX10_append_12 : decode cX10_append 12 = .ok (.return_, 1) := by decide +kernel
theorem dX10_append_13 : decode cX10_append 13 = .ok (.bipush 24, 2) := by decide +kernel
theorem dX10_append_15 : decode cX10_append 15 = .ok (.istore_n 2, 1) := by decide +kernel
theorem dX10_append_16 : decode cX10_append 16 = .ok (.iload_n 2, 1) := by decide +kernel
theorem dX10_append_17 : decode cX10_append 17 = .ok (.ifCond .lt 32, 3) := by decide +kernel
theorem dX10_append_20 : decode cX10_append 20 = .ok (.aload_n 0, 1) := by decide +kernel
theorem dX10_append_21 : decode cX10_append 21 = .ok (.getfield 11, 3) := by decide +kernel
theorem dX10_append_24 : decode cX10_append 24 = .ok (.aload_n 0, 1) := by decide +kernel
theorem dX10_append_25 : decode cX10_append 25 = .ok (.getfield 15, 3) := by decide +kernel
theorem dX10_append_28 : decode cX10_append 28 = .ok (.iload_n 1, 1) := by decide +kernel
theorem dX10_append_29 : decode cX10_append 29 = .ok (.iload_n 2, 1) := by decide +kernel
theorem dX10_append_30 : decode cX10_append 30 = .ok (.ishr, 1) := by decide +kernel
theorem dX10_append_31 : decode cX10_append 31 = .ok (.i2b, 1) := by decide +kernel
theorem dX10_append_32 : decode cX10_append 32 = .ok (.bastore, 1) := by decide +kernel
theorem dX10_append_33 : decode cX10_append 33 = .ok (.aload_n 0, 1) := by decide +kernel
theorem dX10_append_34 : decode cX10_append 34 = .ok (.dup, 1) := by decide +kernel
theorem dX10_append_35 : decode cX10_append 35 = .ok (.getfield 15, 3) := by decide +kernel
theorem dX10_append_38 : decode cX10_append 38 = .ok (.iconst 1, 1) := by decide +kernel
theorem dX10_append_39 : decode cX10_append 39 = .ok (.iadd, 1) := by decide +kernel
theorem dX10_append_40 : decode cX10_append 40 = .ok (.putfield 15, 3) := by decide +kernel
theorem dX10_append_43 : decode cX10_append 43 = .ok (.iinc 2 (-8), 3) := by decide +kernel
theorem dX10_append_46 : decode cX10_append 46 = .ok (.goto (-30), 3) := by decide +kernel
theorem dX10_append_49 : decode cX10_append 49 = .ok (.return_, 1) := by decide +kernel
def f_X10_append_16 (N : Nat) : Nat → Nat → Int32 → Int32 → zH → Option zH
  | 0, _, _, _, _ => none
  | n + 1, l0, l1, l2, h => if l2 < 0 then some h else (zgR h 10 (some l0) 0).bind fun x1 => (zgI h 10 (some l0) 1).bind fun x2 => (zst h 1 x1 x2 (vp_nar .byte (l1 >>> (l2 &&& 31)).toInt8.toInt32)).bind fun h1 => (zgI h1 10 (some l0) 1).bind fun x3 => (zpu h1 10 (some l0) 1 (zi (x3 + (1 : Int32)))).bind fun h2 => f_X10_append_16 N n l0 l1 (l2 + ((-8) : Int32)) h2
set_option maxHeartbeats 4000000 in
set_option maxRecDepth 100000 in
theorem s_X10_append_16 {g : zG} (hg : g.2.1.map (fun q => q.2) = zty) {h0 : zH} (N : Nat) : ∀ (n : Nat) (l0 : Nat) (l1 : Int32) (l2 : Int32) (h : zH) (h' : zH), f_X10_append_16 N n l0 l1 l2 h = some h' → zR g jX10_append h0 16 [some (zr (some l0)), some (zi l1), some (zi l2)] [] h none h' := by
  intro n
  induction n with
  | zero =>
    intro l0 l1 l2 h h' hf
    cases hf
  | succ n ih =>
    intro l0 l1 l2 h h' hf
    rw [f_X10_append_16] at hf
    refine zr_iload_n (x := l2) dX10_append_16 rfl rfl ?_
    by_cases hc1 : l2 < 0
    · rw [if_pos hc1] at hf
      refine zr_iflt_t (tgt := 49) dX10_append_17 (by decide) hc1 ?_
      cases hf
      exact zr_ret none trivial dX10_append_49
    · rw [if_neg hc1] at hf
      refine zr_iflt_f 49 dX10_append_17 (by decide) hc1 ?_
      refine zr_aload_n (v := .inl (some l0)) dX10_append_20 rfl rfl ?_
      revert hf; refine zbi (fun x1 e_x1 hf => ?_)
      refine zq_getR kg_147 dX10_append_21 e_x1 ?_
      refine zr_aload_n (v := .inl (some l0)) dX10_append_24 rfl rfl ?_
      revert hf; refine zbi (fun x2 e_x2 hf => ?_)
      refine zq_getI kg_146 dX10_append_25 e_x2 ?_
      refine zr_iload_n (x := l1) dX10_append_28 rfl rfl ?_
      refine zr_iload_n (x := l2) dX10_append_29 rfl rfl ?_
      refine zr_ishr dX10_append_30 ?_
      refine zr_i2b dX10_append_31 ?_
      revert hf; refine zbi (fun h1 e_h1 hf => ?_)
      refine zq_bast dX10_append_32 e_h1 ?_
      refine zr_aload_n (v := .inl (some l0)) dX10_append_33 rfl rfl ?_
      refine zr_dup dX10_append_34 ?_
      revert hf; refine zbi (fun x3 e_x3 hf => ?_)
      refine zq_getI kg_146 dX10_append_35 e_x3 ?_
      refine zr_iconst (v := (1 : Int32)) dX10_append_38 (by decide) ?_
      refine zr_iadd dX10_append_39 ?_
      revert hf; refine zbi (fun h2 e_h2 hf => ?_)
      refine zq_put (kp_307 _) dX10_append_40 (zn_i _) e_h2 ?_
      refine zq_iinc (x := l2) (y := ((-8) : Int32)) (L' := [some (zr (some l0)), some (zi l1), some (zi (l2 + ((-8) : Int32)))]) dX10_append_43 rfl (by decide) (by decide) rfl ?_
      refine zr_goto (tgt := 16) dX10_append_46 (by decide) ?_
      exact ih l0 l1 (l2 + ((-8) : Int32)) h2 h' hf
def f_X10_append (N : Nat) (l0 : Nat) (l1 : Int32) (h : zH) : Option zH := (zgI h 10 (some l0) 1).bind fun x1 => if (x1 + (4 : Int32)) ≤ (1000 : Int32) then f_X10_append_16 N N l0 l1 (24 : Int32) h else some h
set_option maxHeartbeats 4000000 in
set_option maxRecDepth 100000 in
theorem s_X10_append {g : zG} (hg : g.2.1.map (fun q => q.2) = zty) {h0 : zH} (N : Nat) (l0 : Nat) (l1 : Int32) (h : zH) (h' : zH) (hf : f_X10_append N l0 l1 h = some h') : zR g jX10_append h0 0 [some (zr (some l0)), some (zi l1), none] [] h none h' := by
  unfold f_X10_append at hf
  refine zr_aload_n (v := .inl (some l0)) dX10_append_0 rfl rfl ?_
  revert hf; refine zbi (fun x1 e_x1 hf => ?_)
  refine zq_getI kg_146 dX10_append_1 e_x1 ?_
  refine zr_iconst (v := (4 : Int32)) dX10_append_4 (by decide) ?_
  refine zr_iadd dX10_append_5 ?_
  refine zr_sipush (v := (1000 : Int32)) dX10_append_6 (by decide) ?_
  by_cases hc1 : (x1 + (4 : Int32)) ≤ (1000 : Int32)
  · rw [if_pos hc1] at hf
    refine zr_icle_t (tgt := 13) dX10_append_9 (by decide) hc1 ?_
    refine zr_bipush (v := (24 : Int32)) dX10_append_13 (by decide) ?_
    refine zq_istore_n (x := (24 : Int32)) (L' := [some (zr (some l0)), some (zi l1), some (zi (24 : Int32))]) dX10_append_15 rfl (by decide) rfl ?_
    exact s_X10_append_16 hg N N l0 l1 (24 : Int32) h h' hf
  · rw [if_neg hc1] at hf
    refine zr_icle_f 13 dX10_append_9 (by decide) hc1 ?_
    cases hf
    exact zr_ret none trivial dX10_append_12
theorem c_X10_append {g : zG} (hg : g.2.1.map (fun q => q.2) = zty) {N : Nat} {l0 : Nat} {l1 : Int32} {h : zH} {h' : zH} (hf : f_X10_append N l0 l1 h = some h') : zCa g jX10_append [zr (some l0), zi l1] h none h' :=
  zCa.of hg (by decide +kernel) (Nat.le_of_ble_eq_true rfl) (s_X10_append hg N l0 l1 h h' hf)
theorem dX11_init_0 : decode cX11_init 0 = .ok (.aload_n 0, 1) := by decide +kernel
theorem dX11_init_1 : decode cX11_init 1 = .ok (.invokespecial 1, 3) := by decide +kernel
theorem dX11_init_4 : decode cX11_init 4 = .ok (.aload_n 0, 1) := by decide +kernel
theorem dX11_init_5 : decode cX11_init 5 = .ok (.new 7, 3) := by decide +kernel
theorem dX11_init_8 : decode cX11_init 8 = .ok (.dup, 1) := by decide +kernel
theorem dX11_init_9 : decode cX11_init 9 = .ok (.invokespecial 9, 3) := by decide +kernel
theorem dX11_init_12 : decode cX11_init 12 = .ok (.putfield 10, 3) := by decide +kernel
theorem dX11_init_15 : decode cX11_init 15 = .ok (.aload_n 0, 1) := by decide +kernel
theorem dX11_init_16 : decode cX11_init 16 = .ok (.aload_n 0, 1) := by decide +kernel
theorem dX11_init_17 : decode cX11_init 17 = .ok (.getfield 10, 3) := by decide +kernel
theorem dX11_init_20 : decode cX11_init 20 = .ok (.getfield 16, 3) := by decide +kernel
theorem dX11_init_23 : decode cX11_init 23 = .ok (.putfield 20, 3) := by decide +kernel
theorem dX11_init_26 : decode cX11_init 26 = .ok (.aload_n 0, 1) := by decide +kernel
theorem dX11_init_27 : decode cX11_init 27 = .ok (.new 21, 3) := by decide +kernel
theorem dX11_init_30 : decode cX11_init 30 = .ok (.dup, 1) := by decide +kernel
theorem dX11_init_31 : decode cX11_init 31 = .ok (.invokespecial 23, 3) := by decide +kernel
theorem dX11_init_34 : decode cX11_init 34 = .ok (.putfield 24, 3) := by decide +kernel
theorem dX11_init_37 : decode cX11_init 37 = .ok (.aload_n 0, 1) := by decide +kernel
theorem dX11_init_38 : decode cX11_init 38 = .ok (.iconst 4, 1) := by decide +kernel
theorem dX11_init_39 : decode cX11_init 39 = .ok (.anewarray 28, 3) := by decide +kernel
theorem dX11_init_42 : decode cX11_init 42 = .ok (.putfield 30, 3) := by decide +kernel
theorem dX11_init_45 : decode cX11_init 45 = .ok (.aload_n 0, 1) := by decide +kernel
theorem dX11_init_46 : decode cX11_init 46 = .ok (.iconst 0, 1) := by decide +kernel
theorem dX11_init_47 : decode cX11_init 47 = .ok (.putfield 34, 3) := by decide +kernel
theorem dX11_init_50 : decode cX11_init 50 = .ok (.aload_n 0, 1) := by decide +kernel
theorem dX11_init_51 : decode cX11_init 51 = .ok (.new 28, 3) := by decide +kernel
theorem dX11_init_54 : decode cX11_init 54 = .ok (.dup, 1) := by decide +kernel
theorem dX11_init_55 : decode cX11_init 55 = .ok (.invokespecial 38, 3) := by decide +kernel
theorem dX11_init_58 : decode cX11_init 58 = .ok (.putfield 39, 3) := by decide +kernel
theorem dX11_init_61 : decode cX11_init 61 = .ok (.return_, 1) := by decide +kernel
def f_X11_init (N : Nat) (l0 : Nat) (h : zH) : Option zH := znw h (.inr (5, [zr none, zr none, zi 0, zi 0, zi 0, zi 0, zi 0])) fun a1 h1 => (f_X5_init N a1 h1).bind fun h2 => (zpu h2 11 (some l0) 0 (zr (some a1))).bind fun h3 => (zgR h3 11 (some l0) 0).bind fun x1 => (zgR h3 5 x1 0).bind fun x2 => (zpu h3 11 (some l0) 1 (zr x2)).bind fun h4 => znw h4 (.inr (4, [zr none, zr none, zr none, zi 0, zr none])) fun a2 h5 => (f_X4_init N a2 h5).bind fun h6 => (zpu h6 11 (some l0) 2 (zr (some a2))).bind fun h7 => znq h7 5 (4 : Int32) fun a3 h8 => (zpu h8 11 (some l0) 3 (zr (some a3))).bind fun h9 => (zpu h9 11 (some l0) 4 (zi (0 : Int32))).bind fun h10 => znw h10 (.inr (9, [zr none, zr none, zr none, zr none, zi 0])) fun a4 h11 => (f_X9_init N a4 h11).bind fun h12 => (zpu h12 11 (some l0) 5 (zr (some a4))).bind fun h13 => some h13
set_option maxHeartbeats 4000000 in
set_option maxRecDepth 100000 in
theorem s_X11_init {g : zG} (hg : g.2.1.map (fun q => q.2) = zty) {h0 : zH} (N : Nat) (l0 : Nat) (h : zH) (h' : zH) (hf : f_X11_init N l0 h = some h') : zR g jX11_init h0 0 [some (zr (some l0))] [] h none h' := by
  unfold f_X11_init at hf
  refine zr_aload_n (v := .inl (some l0)) dX11_init_0 rfl rfl ?_
  refine zr_objInit kw_385 kw_1 kw_2 ⟨Nat.le_of_ble_eq_true rfl, Nat.le_of_ble_eq_true rfl⟩ dX11_init_1 ?_
  refine zr_aload_n (v := .inl (some l0)) dX11_init_4 rfl rfl ?_
  obtain ⟨a1, h1, e_a1, e_h1, hf⟩ := znw_spec hf
  refine zq_new kn_308 dX11_init_5 e_a1 e_h1 ?_
  refine zr_dup dX11_init_8 ?_
  revert hf; refine zbi (fun h2 e_h2 hf => ?_)
  refine zq_callIN (J' := jX5_init) (as := []) (rest := [zr (some a1), zr (some l0)]) (r1 := none) (a := a1) kw_388 km_X5_init kt_310 dX11_init_9 rfl (Nat.le_of_ble_eq_true rfl) rfl (c_X5_init hg e_h2) ?_
  revert hf; refine zbi (fun h3 e_h3 hf => ?_)
  refine zq_put kp_311 dX11_init_12 (zn_o _ _) e_h3 ?_
  refine zr_aload_n (v := .inl (some l0)) dX11_init_15 rfl rfl ?_
  refine zr_aload_n (v := .inl (some l0)) dX11_init_16 rfl rfl ?_
  revert hf; refine zbi (fun x1 e_x1 hf => ?_)
  refine zq_getR kg_312 dX11_init_17 e_x1 ?_
  revert hf; refine zbi (fun x2 e_x2 hf => ?_)
  refine zq_getR kg_313 dX11_init_20 e_x2 ?_
  revert hf; refine zbi (fun h4 e_h4 hf => ?_)
  refine zq_put kp_314 dX11_init_23 (zn_o _ _) e_h4 ?_
  refine zr_aload_n (v := .inl (some l0)) dX11_init_26 rfl rfl ?_
  obtain ⟨a2, h5, e_a2, e_h5, hf⟩ := znw_spec hf
  refine zq_new kn_315 dX11_init_27 e_a2 e_h5 ?_
  refine zr_dup dX11_init_30 ?_
  revert hf; refine zbi (fun h6 e_h6 hf => ?_)
  refine zq_callIN (J' := jX4_init) (as := []) (rest := [zr (some a2), zr (some l0)]) (r1 := none) (a := a2) kw_396 km_X4_init kt_317 dX11_init_31 rfl (Nat.le_of_ble_eq_true rfl) rfl (c_X4_init hg e_h6) ?_
  revert hf; refine zbi (fun h7 e_h7 hf => ?_)
  refine zq_put kp_318 dX11_init_34 (zn_o _ _) e_h7 ?_
  refine zr_aload_n (v := .inl (some l0)) dX11_init_37 rfl rfl ?_
  refine zr_iconst (v := (4 : Int32)) dX11_init_38 (by decide) ?_
  obtain ⟨a3, h8, e_a3, hf⟩ := znq_spec hf
  refine zq_newq (t := 5) kw_400 (Or.inr rfl) rfl dX11_init_39 e_a3 ?_
  revert hf; refine zbi (fun h9 e_h9 hf => ?_)
  refine zq_put kp_319 dX11_init_42 (zn_a _ _) e_h9 ?_
  refine zr_aload_n (v := .inl (some l0)) dX11_init_45 rfl rfl ?_
  refine zr_iconst (v := (0 : Int32)) dX11_init_46 (by decide) ?_
  revert hf; refine zbi (fun h10 e_h10 hf => ?_)
  refine zq_put (kp_320 _) dX11_init_47 (zn_i _) e_h10 ?_
  refine zr_aload_n (v := .inl (some l0)) dX11_init_50 rfl rfl ?_
  obtain ⟨a4, h11, e_a4, e_h11, hf⟩ := znw_spec hf
  refine zq_new kn_321 dX11_init_51 e_a4 e_h11 ?_
  refine zr_dup dX11_init_54 ?_
  revert hf; refine zbi (fun h12 e_h12 hf => ?_)
  refine zq_callI (J' := jX9_init) (as := []) (rest := [zr (some a4), zr (some l0)]) (r1 := none) (a := a4) kw_404 km_X9_init kt_323 dX11_init_55 rfl (Nat.le_of_ble_eq_true rfl) rfl (c_X9_init hg e_h12) ?_
  revert hf; refine zbi (fun h13 e_h13 hf => ?_)
  refine zq_put (kp_324 _) dX11_init_58 (zn_o _ _) e_h13 ?_
  cases hf
  exact zr_ret none trivial dX11_init_61
theorem c_X11_init {g : zG} (hg : g.2.1.map (fun q => q.2) = zty) {N : Nat} {l0 : Nat} {h : zH} {h' : zH} (hf : f_X11_init N l0 h = some h') : zCa g jX11_init [zr (some l0)] h none h' :=
  zCa.of hg (by decide +kernel) (Nat.le_of_ble_eq_true rfl) (s_X11_init hg N l0 h h' hf)
theorem dX11_feed_0 : decode cX11_feed 0 = .ok (.aload_n 0, 1) := by decide +kernel
theorem dX11_feed_1 : decode cX11_feed 1 = .ok (.getfield 20, 3) := by decide +kernel
theorem dX11_feed_4 : decode cX11_feed 4 = .ok (.getfield 43, 3) := by decide +kernel
theorem dX11_feed_7 : decode cX11_feed 7 = .ok (.bipush 20, 2) := by decide +kernel
theorem dX11_feed_9 : decode cX11_feed 9 = .ok (.iadd, 1) := by decide +kernel
theorem dX11_feed_10 : decode cX11_feed 10 = .ok (.sipush 1000, 3) := by decide +kernel
theorem dX11_feed_13 : decode cX11_feed 13 = .ok (.if_icmp .le 5, 3) := by decide +kernel
theorem dX11_feed_16 : decode cX11_feed 16 = .ok (.iconst (-1), 1) := by decide +kernel
theorem dX11_feed_17 : decode cX11_feed 17 = .ok (.ireturn, 1) := by decide +kernel
theorem dX11_feed_18 : decode cX11_feed 18 = .ok (.aload_n 0, 1) := by decide +kernel
theorem dX11_feed_19 : decode cX11_feed 19 = .ok (.getfield 20, 3) := by decide +kernel
theorem dX11_feed_22 : decode cX11_feed 22 = .ok (.iload_n 1, 1) := by decide +kernel
theorem dX11_feed_23 : decode cX11_feed 23 = .ok (.invokevirtual 48, 3) := by decide +kernel
theorem dX11_feed_26 : decode cX11_feed 26 = .ok (.aload_n 0, 1) := by decide +kernel
theorem dX11_feed_27 : decode cX11_feed 27 = .ok (.getfield 20, 3) := by decide +kernel
theorem dX11_feed_30 : decode cX11_feed 30 = .ok (.iload_n 2, 1) := by decide +kernel
theorem dX11_feed_31 : decode cX11_feed 31 = .ok (.invokevirtual 48, 3) := by decide +kernel
theorem dX11_feed_34 : decode cX11_feed 34 = .ok (.aload_n 0, 1) := by decide +kernel
theorem dX11_feed_35 : decode cX11_feed 35 = .ok (.getfield 20, 3) := by decide +kernel
theorem dX11_feed_38 : decode cX11_feed 38 = .ok (.iload_n 3, 1) := by decide +kernel
theorem dX11_feed_39 : decode cX11_feed 39 = .ok (.invokevirtual 48, 3) := by decide +kernel
theorem dX11_feed_42 : decode cX11_feed 42 = .ok (.aload_n 0, 1) := by decide +kernel
theorem dX11_feed_43 : decode cX11_feed 43 = .ok (.getfield 20, 3) := by decide +kernel
theorem dX11_feed_46 : decode cX11_feed 46 = .ok (.iload 4, 2) := by decide +kernel
theorem dX11_feed_48 : decode cX11_feed 48 = .ok (.invokevirtual 48, 3) := by decide +kernel
theorem dX11_feed_51 : decode cX11_feed 51 = .ok (.aload_n 0, 1) := by decide +kernel
theorem dX11_feed_52 : decode cX11_feed 52 = .ok (.getfield 20, 3) := by decide +kernel
theorem dX11_feed_55 : decode cX11_feed 55 = .ok (.iload 5, 2) := by decide +kernel
theorem dX11_feed_57 : decode cX11_feed 57 = .ok (.invokevirtual 48, 3) := by decide +kernel
theorem dX11_feed_60 : decode cX11_feed 60 = .ok (.aload_n 0, 1) := by decide +kernel
theorem dX11_feed_61 : decode cX11_feed 61 = .ok (.getfield 20, 3) := by decide +kernel
theorem dX11_feed_64 : decode cX11_feed 64 = .ok (.getfield 43, 3) := by decide +kernel
theorem dX11_feed_67 : decode cX11_feed 67 = .ok (.ireturn, 1) := by decide +kernel
def f_X11_feed (N : Nat) (l0 : Nat) (l1 : Int32) (l2 : Int32) (l3 : Int32) (l4 : Int32) (l5 : Int32) (h : zH) : Option (Int32 × zH) := (zgR h 11 (some l0) 1).bind fun x1 => (zgI h 10 x1 1).bind fun x2 => if (x2 + (20 : Int32)) ≤ (1000 : Int32) then (zgR h 11 (some l0) 1).bind fun x3 => (zck h 10 x3).bind fun q1 => (f_X10_append N q1 l1 h).bind fun h1 => (zgR h1 11 (some l0) 1).bind fun x4 => (zck h1 10 x4).bind fun q2 => (f_X10_append N q2 l2 h1).bind fun h2 => (zgR h2 11 (some l0) 1).bind fun x5 => (zck h2 10 x5).bind fun q3 => (f_X10_append N q3 l3 h2).bind fun h3 => (zgR h3 11 (some l0) 1).bind fun x6 => (zck h3 10 x6).bind fun q4 => (f_X10_append N q4 l4 h3).bind fun h4 => (zgR h4 11 (some l0) 1).bind fun x7 => (zck h4 10 x7).bind fun q5 => (f_X10_append N q5 l5 h4).bind fun h5 => (zgR h5 11 (some l0) 1).bind fun x8 => (zgI h5 10 x8 1).bind fun x9 => some (x9, h5) else some (((-1) : Int32), h)
set_option maxHeartbeats 4000000 in
set_option maxRecDepth 100000 in
theorem s_X11_feed {g : zG} (hg : g.2.1.map (fun q => q.2) = zty) {h0 : zH} (N : Nat) (l0 : Nat) (l1 : Int32) (l2 : Int32) (l3 : Int32) (l4 : Int32) (l5 : Int32) (h : zH) (r : Int32) (h' : zH) (hf : f_X11_feed N l0 l1 l2 l3 l4 l5 h = some (r, h')) : zR g jX11_feed h0 0 [some (zr (some l0)), some (zi l1), some (zi l2), some (zi l3), some (zi l4), some (zi l5)] [] h (some (zi r)) h' := by
  unfold f_X11_feed at hf
  refine zr_aload_n (v := .inl (some l0)) dX11_feed_0 rfl rfl ?_
  revert hf; refine zbi (fun x1 e_x1 hf => ?_)
  refine zq_getR kg_325 dX11_feed_1 e_x1 ?_
  revert hf; refine zbi (fun x2 e_x2 hf => ?_)
  refine zq_getI kg_326 dX11_feed_4 e_x2 ?_
  refine zr_bipush (v := (20 : Int32)) dX11_feed_7 (by decide) ?_
  refine zr_iadd dX11_feed_9 ?_
  refine zr_sipush (v := (1000 : Int32)) dX11_feed_10 (by decide) ?_
  by_cases hc1 : (x2 + (20 : Int32)) ≤ (1000 : Int32)
  · rw [if_pos hc1] at hf
    refine zr_icle_t (tgt := 18) dX11_feed_13 (by decide) hc1 ?_
    refine zr_aload_n (v := .inl (some l0)) dX11_feed_18 rfl rfl ?_
    revert hf; refine zbi (fun x3 e_x3 hf => ?_)
    refine zq_getR kg_325 dX11_feed_19 e_x3 ?_
    refine zr_iload_n (x := l1) dX11_feed_22 rfl rfl ?_
    revert hf; refine zbi (fun q1 e_q1 hf => ?_)
    revert hf; refine zbi (fun h1 e_h1 hf => ?_)
    refine zq_callV (J' := jX10_append) (as := [zi l1]) (rest := []) (r1 := none) (q := (RX10, TX10, 2)) kw_409 km_X10_append kt_328 dX11_feed_23 rfl (Nat.le_of_ble_eq_true rfl) rfl rfl e_q1 rfl (c_X10_append hg e_h1) ?_
    refine zr_aload_n (v := .inl (some l0)) dX11_feed_26 rfl rfl ?_
    revert hf; refine zbi (fun x4 e_x4 hf => ?_)
    refine zq_getR kg_325 dX11_feed_27 e_x4 ?_
    refine zr_iload_n (x := l2) dX11_feed_30 rfl rfl ?_
    revert hf; refine zbi (fun q2 e_q2 hf => ?_)
    revert hf; refine zbi (fun h2 e_h2 hf => ?_)
    refine zq_callV (J' := jX10_append) (as := [zi l2]) (rest := []) (r1 := none) (q := (RX10, TX10, 2)) kw_409 km_X10_append kt_328 dX11_feed_31 rfl (Nat.le_of_ble_eq_true rfl) rfl rfl e_q2 rfl (c_X10_append hg e_h2) ?_
    refine zr_aload_n (v := .inl (some l0)) dX11_feed_34 rfl rfl ?_
    revert hf; refine zbi (fun x5 e_x5 hf => ?_)
    refine zq_getR kg_325 dX11_feed_35 e_x5 ?_
    refine zr_iload_n (x := l3) dX11_feed_38 rfl rfl ?_
    revert hf; refine zbi (fun q3 e_q3 hf => ?_)
    revert hf; refine zbi (fun h3 e_h3 hf => ?_)
    refine zq_callV (J' := jX10_append) (as := [zi l3]) (rest := []) (r1 := none) (q := (RX10, TX10, 2)) kw_409 km_X10_append kt_328 dX11_feed_39 rfl (Nat.le_of_ble_eq_true rfl) rfl rfl e_q3 rfl (c_X10_append hg e_h3) ?_
    refine zr_aload_n (v := .inl (some l0)) dX11_feed_42 rfl rfl ?_
    revert hf; refine zbi (fun x6 e_x6 hf => ?_)
    refine zq_getR kg_325 dX11_feed_43 e_x6 ?_
    refine zr_iload (x := l4) dX11_feed_46 rfl ?_
    revert hf; refine zbi (fun q4 e_q4 hf => ?_)
    revert hf; refine zbi (fun h4 e_h4 hf => ?_)
    refine zq_callV (J' := jX10_append) (as := [zi l4]) (rest := []) (r1 := none) (q := (RX10, TX10, 2)) kw_409 km_X10_append kt_328 dX11_feed_48 rfl (Nat.le_of_ble_eq_true rfl) rfl rfl e_q4 rfl (c_X10_append hg e_h4) ?_
    refine zr_aload_n (v := .inl (some l0)) dX11_feed_51 rfl rfl ?_
    revert hf; refine zbi (fun x7 e_x7 hf => ?_)
    refine zq_getR kg_325 dX11_feed_52 e_x7 ?_
    refine zr_iload (x := l5) dX11_feed_55 rfl ?_
    revert hf; refine zbi (fun q5 e_q5 hf => ?_)
    revert hf; refine zbi (fun h5 e_h5 hf => ?_)
    refine zq_callV (J' := jX10_append) (as := [zi l5]) (rest := []) (r1 := none) (q := (RX10, TX10, 2)) kw_409 km_X10_append kt_328 dX11_feed_57 rfl (Nat.le_of_ble_eq_true rfl) rfl rfl e_q5 rfl (c_X10_append hg e_h5) ?_
    refine zr_aload_n (v := .inl (some l0)) dX11_feed_60 rfl rfl ?_
    revert hf; refine zbi (fun x8 e_x8 hf => ?_)
    refine zq_getR kg_325 dX11_feed_61 e_x8 ?_
    revert hf; refine zbi (fun x9 e_x9 hf => ?_)
    refine zq_getI kg_326 dX11_feed_64 e_x9 ?_
    cases hf
    exact zr_ret _ rfl dX11_feed_67
  · rw [if_neg hc1] at hf
    refine zr_icle_f 18 dX11_feed_13 (by decide) hc1 ?_
    refine zr_iconst (v := ((-1) : Int32)) dX11_feed_16 (by decide) ?_
    cases hf
    exact zr_ret _ rfl dX11_feed_17
theorem c_X11_feed {g : zG} (hg : g.2.1.map (fun q => q.2) = zty) {N : Nat} {l0 : Nat} {l1 : Int32} {l2 : Int32} {l3 : Int32} {l4 : Int32} {l5 : Int32} {h : zH} {r : Int32} {h' : zH} (hf : f_X11_feed N l0 l1 l2 l3 l4 l5 h = some (r, h')) : zCa g jX11_feed [zr (some l0), zi l1, zi l2, zi l3, zi l4, zi l5] h (some (zi r)) h' :=
  zCa.of hg (by decide +kernel) (Nat.le_of_ble_eq_true rfl) (s_X11_feed hg N l0 l1 l2 l3 l4 l5 h r h' hf)
theorem dX11_end_0 : decode cX11_end 0 = .ok (.iload_n 1, 1) := by decide +kernel
theorem dX11_end_1 : decode cX11_end 1 = .ok (.ifCond .lt 14, 3) := by decide +kernel
theorem dX11_end_4 : decode cX11_end 4 = .ok (.iload_n 1, 1) := by decide +kernel
theorem dX11_end_5 : decode cX11_end 5 = .ok (.aload_n 0, 1) := by decide +kernel
theorem dX11_end_6 : decode cX11_end 6 = .ok (.getfield 20, 3) := by decide +kernel
theorem dX11_end_9 : decode cX11_end 9 = .ok (.getfield 43, 3) := by decide +kernel
theorem dX11_end_12 : decode cX11_end 12 = .ok (.if_icmp .le 5, 3) := by decide +kernel
theorem dX11_end_15 : decode cX11_end 15 = .ok (.iconst 0, 1) := by decide +kernel
theorem dX11_end_16 : decode cX11_end 16 = .ok (.ireturn, 1) := by decide +kernel
theorem dX11_end_17 : decode cX11_end 17 = .ok (.aload_n 0, 1) := by decide +kernel
theorem dX11_end_18 : decode cX11_end 18 = .ok (.getfield 20, 3) := by decide +kernel
theorem dX11_end_21 : decode cX11_end 21 = .ok (.iload_n 1, 1) := by decide +kernel
theorem dX11_end_22 : decode cX11_end 22 = .ok (.putfield 43, 3) := by decide +kernel
theorem dX11_end_25 : decode cX11_end 25 = .ok (.iconst 1, 1) := by decide +kernel
theorem dX11_end_26 : decode cX11_end 26 = .ok (.ireturn, 1) := by decide +kernel
def f_X11_end (N : Nat) (l0 : Nat) (l1 : Int32) (h : zH) : Option (Int32 × zH) := if l1 < 0 then some ((0 : Int32), h) else (zgR h 11 (some l0) 1).bind fun x1 => (zgI h 10 x1 1).bind fun x2 => if l1 ≤ x2 then (zgR h 11 (some l0) 1).bind fun x3 => (zpu h 10 x3 1 (zi l1)).bind fun h1 => some ((1 : Int32), h1) else some ((0 : Int32), h)
set_option maxHeartbeats 4000000 in
set_option maxRecDepth 100000 in
theorem s_X11_end {g : zG} (hg : g.2.1.map (fun q => q.2) = zty) {h0 : zH} (N : Nat) (l0 : Nat) (l1 : Int32) (h : zH) (r : Int32) (h' : zH) (hf : f_X11_end N l0 l1 h = some (r, h')) : zR g jX11_end h0 0 [some (zr (some l0)), some (zi l1)] [] h (some (zi r)) h' := by
  unfold f_X11_end at hf
  refine zr_iload_n (x := l1) dX11_end_0 rfl rfl ?_
  by_cases hc1 : l1 < 0
  · rw [if_pos hc1] at hf
    refine zr_iflt_t (tgt := 15) dX11_end_1 (by decide) hc1 ?_
    refine zr_iconst (v := (0 : Int32)) dX11_end_15 (by decide) ?_
    cases hf
    exact zr_ret _ rfl dX11_end_16
  · rw [if_neg hc1] at hf
    refine zr_iflt_f 15 dX11_end_1 (by decide) hc1 ?_
    refine zr_iload_n (x := l1) dX11_end_4 rfl rfl ?_
    refine zr_aload_n (v := .inl (some l0)) dX11_end_5 rfl rfl ?_
    revert hf; refine zbi (fun x1 e_x1 hf => ?_)
    refine zq_getR kg_325 dX11_end_6 e_x1 ?_
    revert hf; refine zbi (fun x2 e_x2 hf => ?_)
    refine zq_getI kg_326 dX11_end_9 e_x2 ?_
    by_cases hc2 : l1 ≤ x2
    · rw [if_pos hc2] at hf
      refine zr_icle_t (tgt := 17) dX11_end_12 (by decide) hc2 ?_
      refine zr_aload_n (v := .inl (some l0)) dX11_end_17 rfl rfl ?_
      revert hf; refine zbi (fun x3 e_x3 hf => ?_)
      refine zq_getR kg_325 dX11_end_18 e_x3 ?_
      refine zr_iload_n (x := l1) dX11_end_21 rfl rfl ?_
      revert hf; refine zbi (fun h1 e_h1 hf => ?_)
      refine zq_put (kp_329 _) dX11_end_22 (zn_i _) e_h1 ?_
      refine zr_iconst (v := (1 : Int32)) dX11_end_25 (by decide) ?_
      cases hf
      exact zr_ret _ rfl dX11_end_26
    · rw [if_neg hc2] at hf
      refine zr_icle_f 17 dX11_end_12 (by decide) hc2 ?_
      refine zr_iconst (v := (0 : Int32)) dX11_end_15 (by decide) ?_
      cases hf
      exact zr_ret _ rfl dX11_end_16
theorem c_X11_end {g : zG} (hg : g.2.1.map (fun q => q.2) = zty) {N : Nat} {l0 : Nat} {l1 : Int32} {h : zH} {r : Int32} {h' : zH} (hf : f_X11_end N l0 l1 h = some (r, h')) : zCa g jX11_end [zr (some l0), zi l1] h (some (zi r)) h' :=
  zCa.of hg (by decide +kernel) (Nat.le_of_ble_eq_true rfl) (s_X11_end hg N l0 l1 h r h' hf)
theorem dX11_change_0 : decode cX11_change 0 = .ok (.aload_n 0, 1) := by decide +kernel
theorem dX11_change_1 : decode cX11_change 1 = .ok (.getfield 34, 3) := by decide +kernel
theorem dX11_change_4 : decode cX11_change 4 = .ok (.iconst 4, 1) := by decide +kernel
theorem dX11_change_5 : decode cX11_change 5 = .ok (.if_icmp .ne 40, 3) := by decide +kernel
theorem dX11_change_8 : decode cX11_change 8 = .ok (.iconst 1, 1) := by decide +kernel
theorem dX11_change_9 : decode cX11_change 9 = .ok (.istore_n 1, 1) := by decide +kernel
theorem dX11_change_10 : decode cX11_change 10 = .ok (.iload_n 1, 1) := by decide +kernel
theorem dX11_change_11 : decode cX11_change 11 = .ok (.iconst 4, 1) := by decide +kernel
theorem dX11_change_12 : decode cX11_change 12 = .ok (.if_icmp .ge 23, 3) := by decide +kernel
theorem dX11_change_15 : decode cX11_change 15 = .ok (.aload_n 0, 1) := by decide +kernel
theorem dX11_change_16 : decode cX11_change 16 = .ok (.getfield 30, 3) := by decide +kernel
theorem dX11_change_19 : decode cX11_change 19 = .ok (.iload_n 1, 1) := by decide +kernel
theorem dX11_change_20 : decode cX11_change 20 = .ok (.iconst 1, 1) := by decide +kernel
theorem dX11_change_21 : decode cX11_change 21 = .ok (.isub, 1) := by decide +kernel
theorem dX11_change_22 : decode cX11_change 22 = .ok (.aload_n 0, 1) := by decide +kernel
theorem dX11_change_23 : decode cX11_change 23 = .ok (.getfield 30, 3) := by decide +kernel
theorem dX11_change_26 : decode cX11_change 26 = .ok (.iload_n 1, 1) := by decide +kernel
theorem dX11_change_27 : decode cX11_change 27 = .ok (.aaload, 1) := by decide +kernel
theorem dX11_change_28 : decode cX11_change 28 = .ok (.aastore, 1) := by decide +kernel
theorem dX11_change_29 : decode cX11_change 29 = .ok (.iinc 1 1, 3) := by decide +kernel
theorem dX11_change_32 : decode cX11_change 32 = .ok (.goto (-22), 3) := by decide +kernel
theorem dX11_change_35 : decode cX11_change 35 = .ok (.aload_n 0, 1) := by decide +kernel
theorem dX11_change_36 : decode cX11_change 36 = .ok (.dup, 1) := by decide +kernel
theorem dX11_change_37 : decode cX11_change 37 = .ok (.getfield 34, 3) := by decide +kernel
theorem dX11_change_40 : decode cX11_change 40 = .ok (.iconst 1, 1) := by decide +kernel
theorem dX11_change_41 : decode cX11_change 41 = .ok (.isub, 1) := by decide +kernel
theorem dX11_change_42 : decode cX11_change 42 = .ok (.putfield 34, 3) := by decide +kernel
theorem dX11_change_45 : decode cX11_change 45 = .ok (.aload_n 0, 1) := by decide +kernel
theorem dX11_change_46 : decode cX11_change 46 = .ok (.getfield 30, 3) := by decide +kernel
theorem dX11_change_49 : decode cX11_change 49 = .ok (.aload_n 0, 1) := by decide +kernel
theorem dX11_change_50 : decode cX11_change 50 = .ok (.getfield 34, 3) := by decide +kernel
theorem dX11_change_53 : decode cX11_change 53 = .ok (.aload_n 0, 1) := by decide +kernel
theorem dX11_change_54 : decode cX11_change 54 = .ok (.getfield 39, 3) := by decide +kernel
theorem dX11_change_57 : decode cX11_change 57 = .ok (.aastore, 1) := by decide +kernel
theorem dX11_change_58 : decode cX11_change 58 = .ok (.aload_n 0, 1) := by decide +kernel
theorem dX11_change_59 : decode cX11_change 59 = .ok (.dup, 1) := by decide +kernel
theorem dX11_change_60 : decode cX11_change 60 = .ok (.getfield 34, 3) := by decide +kernel
theorem dX11_change_63 : decode cX11_change 63 = .ok (.iconst 1, 1) := by decide +kernel
theorem dX11_change_64 : decode cX11_change 64 = .ok (.iadd, 1) := by decide +kernel
theorem dX11_change_65 : decode cX11_change 65 = .ok (.putfield 34, 3) := by decide +kernel
theorem dX11_change_68 : decode cX11_change 68 = .ok (.aload_n 0, 1) := by decide +kernel
theorem dX11_change_69 : decode cX11_change 69 = .ok (.new 28, 3) := by decide +kernel
theorem dX11_change_72 : decode cX11_change 72 = .ok (.dup, 1) := by decide +kernel
theorem dX11_change_73 : decode cX11_change 73 = .ok (.aload_n 0, 1) := by decide +kernel
theorem dX11_change_74 : decode cX11_change 74 = .ok (.getfield 39, 3) := by decide +kernel
theorem dX11_change_77 : decode cX11_change 77 = .ok (.invokespecial 271, 3) := by decide +kernel
theorem dX11_change_80 : decode cX11_change 80 = .ok (.putfield 39, 3) := by decide +kernel
theorem dX11_change_83 : decode cX11_change 83 = .ok (.aload_n 0, 1) := by decide +kernel
theorem dX11_change_84 : decode cX11_change 84 = .ok (.getfield 39, 3) := by decide +kernel
theorem dX11_change_87 : decode cX11_change 87 = .ok (.areturn, 1) := by decide +kernel
def f_X11_change_45 (N : Nat) (l0 : Nat) (h : zH) : Option ((Option Nat) × zH) := (zgR h 11 (some l0) 3).bind fun x1 => (zgI h 11 (some l0) 4).bind fun x2 => (zgR h 11 (some l0) 5).bind fun x3 => (zstR h 5 9 x1 x2 x3).bind fun h1 => (zgI h1 11 (some l0) 4).bind fun x4 => (zpu h1 11 (some l0) 4 (zi (x4 + (1 : Int32)))).bind fun h2 => znw h2 (.inr (9, [zr none, zr none, zr none, zr none, zi 0])) fun a1 h3 => (zgR h3 11 (some l0) 5).bind fun x5 => (f_X9_init_ N a1 x5 h3).bind fun h4 => (zpu h4 11 (some l0) 5 (zr (some a1))).bind fun h5 => (zgR h5 11 (some l0) 5).bind fun x6 => some (x6, h5)
set_option maxHeartbeats 4000000 in
set_option maxRecDepth 100000 in
theorem s_X11_change_45 {g : zG} (hg : g.2.1.map (fun q => q.2) = zty) {h0 : zH} (N : Nat) (l0 : Nat) (h : zH) (r : Option Nat) (h' : zH) (hf : f_X11_change_45 N l0 h = some (r, h')) : zR g jX11_change h0 45 [some (zr (some l0)), none] [] h (some (zr r)) h' := by
  unfold f_X11_change_45 at hf
  refine zr_aload_n (v := .inl (some l0)) dX11_change_45 rfl rfl ?_
  revert hf; refine zbi (fun x1 e_x1 hf => ?_)
  refine zq_getR kg_330 dX11_change_46 e_x1 ?_
  refine zr_aload_n (v := .inl (some l0)) dX11_change_49 rfl rfl ?_
  revert hf; refine zbi (fun x2 e_x2 hf => ?_)
  refine zq_getI kg_331 dX11_change_50 e_x2 ?_
  refine zr_aload_n (v := .inl (some l0)) dX11_change_53 rfl rfl ?_
  revert hf; refine zbi (fun x3 e_x3 hf => ?_)
  refine zq_getR kg_332 dX11_change_54 e_x3 ?_
  revert hf; refine zbi (fun h1 e_h1 hf => ?_)
  refine zq_aast (t := 5) (ci := 9) (rr := (RX9, TX9, 5)) rfl rfl dX11_change_57 e_h1 ?_
  refine zr_aload_n (v := .inl (some l0)) dX11_change_58 rfl rfl ?_
  refine zr_dup dX11_change_59 ?_
  revert hf; refine zbi (fun x4 e_x4 hf => ?_)
  refine zq_getI kg_331 dX11_change_60 e_x4 ?_
  refine zr_iconst (v := (1 : Int32)) dX11_change_63 (by decide) ?_
  refine zr_iadd dX11_change_64 ?_
  revert hf; refine zbi (fun h2 e_h2 hf => ?_)
  refine zq_put (kp_333 _) dX11_change_65 (zn_i _) e_h2 ?_
  refine zr_aload_n (v := .inl (some l0)) dX11_change_68 rfl rfl ?_
  obtain ⟨a1, h3, e_a1, e_h3, hf⟩ := znw_spec hf
  refine zq_new kn_321 dX11_change_69 e_a1 e_h3 ?_
  refine zr_dup dX11_change_72 ?_
  refine zr_aload_n (v := .inl (some l0)) dX11_change_73 rfl rfl ?_
  revert hf; refine zbi (fun x5 e_x5 hf => ?_)
  refine zq_getR kg_332 dX11_change_74 e_x5 ?_
  revert hf; refine zbi (fun h4 e_h4 hf => ?_)
  refine zq_callI (J' := jX9_init_) (as := [zr x5]) (rest := [zr (some a1), zr (some l0)]) (r1 := none) (a := a1) kw_413 km_X9_init_ kt_335 dX11_change_77 rfl (Nat.le_of_ble_eq_true rfl) rfl (c_X9_init_ hg e_h4) ?_
  revert hf; refine zbi (fun h5 e_h5 hf => ?_)
  refine zq_put (kp_336 _) dX11_change_80 (zn_o _ _) e_h5 ?_
  refine zr_aload_n (v := .inl (some l0)) dX11_change_83 rfl rfl ?_
  revert hf; refine zbi (fun x6 e_x6 hf => ?_)
  refine zq_getR kg_332 dX11_change_84 e_x6 ?_
  cases hf
  exact zr_ret _ (Or.inl ⟨_, rfl⟩) dX11_change_87
def f_X11_change_10 (N : Nat) : Nat → Nat → Int32 → zH → Option ((Option Nat) × zH)
  | 0, _, _, _ => none
  | n + 1, l0, l1, h => if (4 : Int32) ≤ l1 then (zgI h 11 (some l0) 4).bind fun x1 => (zpu h 11 (some l0) 4 (zi (x1 - (1 : Int32)))).bind fun h1 => f_X11_change_45 N l0 h1 else (zgR h 11 (some l0) 3).bind fun x2 => (zgR h 11 (some l0) 3).bind fun x3 => (zldR h 5 x3 l1).bind fun x4 => (zstR h 5 9 x2 (l1 - (1 : Int32)) x4).bind fun h2 => f_X11_change_10 N n l0 (l1 + (1 : Int32)) h2
set_option maxHeartbeats 4000000 in
set_option maxRecDepth 100000 in
theorem s_X11_change_10 {g : zG} (hg : g.2.1.map (fun q => q.2) = zty) {h0 : zH} (N : Nat) : ∀ (n : Nat) (l0 : Nat) (l1 : Int32) (h : zH) (r : Option Nat) (h' : zH), f_X11_change_10 N n l0 l1 h = some (r, h') → zR g jX11_change h0 10 [some (zr (some l0)), some (zi l1)] [] h (some (zr r)) h' := by
  intro n
  induction n with
  | zero =>
    intro l0 l1 h r h' hf
    cases hf
  | succ n ih =>
    intro l0 l1 h r h' hf
    rw [f_X11_change_10] at hf
    refine zr_iload_n (x := l1) dX11_change_10 rfl rfl ?_
    refine zr_iconst (v := (4 : Int32)) dX11_change_11 (by decide) ?_
    by_cases hc1 : (4 : Int32) ≤ l1
    · rw [if_pos hc1] at hf
      refine zr_icge_t (tgt := 35) dX11_change_12 (by decide) hc1 ?_
      refine zr_aload_n (v := .inl (some l0)) dX11_change_35 rfl rfl ?_
      refine zr_dup dX11_change_36 ?_
      revert hf; refine zbi (fun x1 e_x1 hf => ?_)
      refine zq_getI kg_331 dX11_change_37 e_x1 ?_
      refine zr_iconst (v := (1 : Int32)) dX11_change_40 (by decide) ?_
      refine zr_isub dX11_change_41 ?_
      revert hf; refine zbi (fun h1 e_h1 hf => ?_)
      refine zq_put (kp_333 _) dX11_change_42 (zn_i _) e_h1 ?_
      refine zr_forget 1 (L' := [some (zr (some l0)), none]) rfl ?_
      exact s_X11_change_45 hg N l0 h1 r h' hf
    · rw [if_neg hc1] at hf
      refine zr_icge_f 35 dX11_change_12 (by decide) hc1 ?_
      refine zr_aload_n (v := .inl (some l0)) dX11_change_15 rfl rfl ?_
      revert hf; refine zbi (fun x2 e_x2 hf => ?_)
      refine zq_getR kg_330 dX11_change_16 e_x2 ?_
      refine zr_iload_n (x := l1) dX11_change_19 rfl rfl ?_
      refine zr_iconst (v := (1 : Int32)) dX11_change_20 (by decide) ?_
      refine zr_isub dX11_change_21 ?_
      refine zr_aload_n (v := .inl (some l0)) dX11_change_22 rfl rfl ?_
      revert hf; refine zbi (fun x3 e_x3 hf => ?_)
      refine zq_getR kg_330 dX11_change_23 e_x3 ?_
      refine zr_iload_n (x := l1) dX11_change_26 rfl rfl ?_
      revert hf; refine zbi (fun x4 e_x4 hf => ?_)
      refine zq_aald (t := 5) rfl dX11_change_27 e_x4 ?_
      revert hf; refine zbi (fun h2 e_h2 hf => ?_)
      refine zq_aast (t := 5) (ci := 9) (rr := (RX9, TX9, 5)) rfl rfl dX11_change_28 e_h2 ?_
      refine zq_iinc (x := l1) (y := (1 : Int32)) (L' := [some (zr (some l0)), some (zi (l1 + (1 : Int32)))]) dX11_change_29 rfl (by decide) (by decide) rfl ?_
      refine zr_goto (tgt := 10) dX11_change_32 (by decide) ?_
      exact ih l0 (l1 + (1 : Int32)) h2 r h' hf
def f_X11_change (N : Nat) (l0 : Nat) (h : zH) : Option ((Option Nat) × zH) := (zgI h 11 (some l0) 4).bind fun x1 => if x1 = (4 : Int32) then f_X11_change_10 N N l0 (1 : Int32) h else f_X11_change_45 N l0 h
set_option maxHeartbeats 4000000 in
set_option maxRecDepth 100000 in
theorem s_X11_change {g : zG} (hg : g.2.1.map (fun q => q.2) = zty) {h0 : zH} (N : Nat) (l0 : Nat) (h : zH) (r : Option Nat) (h' : zH) (hf : f_X11_change N l0 h = some (r, h')) : zR g jX11_change h0 0 [some (zr (some l0)), none] [] h (some (zr r)) h' := by
  unfold f_X11_change at hf
  refine zr_aload_n (v := .inl (some l0)) dX11_change_0 rfl rfl ?_
  revert hf; refine zbi (fun x1 e_x1 hf => ?_)
  refine zq_getI kg_331 dX11_change_1 e_x1 ?_
  refine zr_iconst (v := (4 : Int32)) dX11_change_4 (by decide) ?_
  by_cases hc1 : x1 = (4 : Int32)
  · rw [if_pos hc1] at hf
    refine zr_icne_f 45 dX11_change_5 (by decide) hc1 ?_
    refine zr_iconst (v := (1 : Int32)) dX11_change_8 (by decide) ?_
    refine zq_istore_n (x := (1 : Int32)) (L' := [some (zr (some l0)), some (zi (1 : Int32))]) dX11_change_9 rfl (by decide) rfl ?_
    exact s_X11_change_10 hg N N l0 (1 : Int32) h r h' hf
  · rw [if_neg hc1] at hf
    refine zr_icne_t (tgt := 45) dX11_change_5 (by decide) hc1 ?_
    exact s_X11_change_45 hg N l0 h r h' hf
theorem c_X11_change {g : zG} (hg : g.2.1.map (fun q => q.2) = zty) {N : Nat} {l0 : Nat} {h : zH} {r : Option Nat} {h' : zH} (hf : f_X11_change N l0 h = some (r, h')) : zCa g jX11_change [zr (some l0)] h (some (zr r)) h' :=
  zCa.of hg (by decide +kernel) (Nat.le_of_ble_eq_true rfl) (s_X11_change hg N l0 h r h' hf)
theorem dX11_round_0 : decode cX11_round 0 = .ok (.aload_n 0, 1) := by decide +kernel
theorem dX11_round_1 : decode cX11_round 1 = .ok (.getfield 10, 3) := by decide +kernel
theorem dX11_round_4 : decode cX11_round 4 = .ok (.invokevirtual 52, 3) := by decide +kernel
theorem dX11_round_7 : decode cX11_round 7 = .ok (.astore_n 1, 1) := by decide +kernel
theorem dX11_round_8 : decode cX11_round 8 = .ok (.aload_n 0, 1) := by decide +kernel
theorem dX11_round_9 : decode cX11_round 9 = .ok (.getfield 20, 3) := by decide +kernel
theorem dX11_round_12 : decode cX11_round 12 = .ok (.iconst 0, 1) := by decide +kernel
theorem dX11_round_13 : decode cX11_round 13 = .ok (.putfield 43, 3) := by decide +kernel
theorem dX11_round_16 : decode cX11_round 16 = .ok (.aload_n 1, 1) := by decide +kernel
theorem dX11_round_17 : decode cX11_round 17 = .ok (.ifnonnull 5, 3) := by decide +kernel
theorem dX11_round_20 : decode cX11_round 20 = .ok (.iconst (-1), 1) := by decide +kernel
theorem dX11_round_21 : decode cX11_round 21 = .ok (.ireturn, 1) := by decide +kernel
theorem dX11_round_22 : decode cX11_round 22 = .ok (.aload_n 0, 1) := by decide +kernel
theorem dX11_round_23 : decode cX11_round 23 = .ok (.invokevirtual 56, 3) := by decide +kernel
theorem dX11_round_26 : decode cX11_round 26 = .ok (.astore_n 2, 1) := by decide +kernel
theorem dX11_round_27 : decode cX11_round 27 = .ok (.aload_n 2, 1) := by decide +kernel
theorem dX11_round_28 : decode cX11_round 28 = .ok (.aload_n 1, 1) := by decide +kernel
theorem dX11_round_29 : decode cX11_round 29 = .ok (.putfield 60, 3) := by decide +kernel
theorem dX11_round_32 : decode cX11_round 32 = .ok (.aload_n 2, 1) := by decide +kernel
theorem dX11_round_33 : decode cX11_round 33 = .ok (.invokevirtual 64, 3) := by decide +kernel
theorem dX11_round_36 : decode cX11_round 36 = .ok (.aload_n 1, 1) := by decide +kernel
theorem dX11_round_37 : decode cX11_round 37 = .ok (.invokevirtual 67, 3) := by decide +kernel
theorem dX11_round_40 : decode cX11_round 40 = .ok (.ireturn, 1) := by decide +kernel
def f_X11_round (N : Nat) (l0 : Nat) (h : zH) : Option (Int32 × zH) := (zgR h 11 (some l0) 0).bind fun x1 => (zck h 5 x1).bind fun q1 => zb2 (f_X5_read N q1 h) fun x2 h1 => (zgR h1 11 (some l0) 1).bind fun x3 => (zpu h1 10 x3 1 (zi (0 : Int32))).bind fun h2 => if x2 = none then some (((-1) : Int32), h2) else (zck h2 11 (some l0)).bind fun q2 => zb2 (f_X11_change N q2 h2) fun x4 h3 => (zpu h3 9 x4 0 (zr x2)).bind fun h4 => (zck h4 9 x4).bind fun q3 => (f_X9_forgetShots N q3 h4).bind fun h5 => (zck h5 6 x2).bind fun q4 => (f_X6_countEnds N q4 h5).bind fun x5 => some (x5, h5)
set_option maxHeartbeats 4000000 in
set_option maxRecDepth 100000 in
theorem s_X11_round {g : zG} (hg : g.2.1.map (fun q => q.2) = zty) {h0 : zH} (N : Nat) (l0 : Nat) (h : zH) (r : Int32) (h' : zH) (hf : f_X11_round N l0 h = some (r, h')) : zR g jX11_round h0 0 [some (zr (some l0)), none, none] [] h (some (zi r)) h' := by
  unfold f_X11_round at hf
  refine zr_aload_n (v := .inl (some l0)) dX11_round_0 rfl rfl ?_
  revert hf; refine zbi (fun x1 e_x1 hf => ?_)
  refine zq_getR kg_312 dX11_round_1 e_x1 ?_
  revert hf; refine zbi (fun q1 e_q1 hf => ?_)
  revert hf; refine zbi2 (fun x2 h1 e_x2 hf => ?_)
  refine zq_callV (J' := jX5_read) (as := []) (rest := []) (r1 := (some (zr x2))) (q := (RX5, TX5, 7)) kw_416 km_X5_read kt_338 dX11_round_4 rfl (Nat.le_of_ble_eq_true rfl) rfl rfl e_q1 rfl (c_X5_read hg e_x2) ?_
  refine zq_astore_n (v := .inl x2) (L' := [some (zr (some l0)), some (zr x2), none]) dX11_round_7 rfl (by decide) rfl ?_
  refine zr_aload_n (v := .inl (some l0)) dX11_round_8 rfl rfl ?_
  revert hf; refine zbi (fun x3 e_x3 hf => ?_)
  refine zq_getR kg_325 dX11_round_9 e_x3 ?_
  refine zr_iconst (v := (0 : Int32)) dX11_round_12 (by decide) ?_
  revert hf; refine zbi (fun h2 e_h2 hf => ?_)
  refine zq_put (kp_329 _) dX11_round_13 (zn_i _) e_h2 ?_
  refine zr_aload_n (v := .inl x2) dX11_round_16 rfl rfl ?_
  by_cases hc1 : x2 = none
  · rw [if_pos hc1] at hf
    refine zr_ifnonnull_f dX11_round_17 hc1 ?_
    refine zr_iconst (v := ((-1) : Int32)) dX11_round_20 (by decide) ?_
    cases hf
    exact zr_ret _ rfl dX11_round_21
  · rw [if_neg hc1] at hf
    refine zr_ifnonnull_t (tgt := 22) dX11_round_17 (by decide) hc1 ?_
    refine zr_aload_n (v := .inl (some l0)) dX11_round_22 rfl rfl ?_
    revert hf; refine zbi (fun q2 e_q2 hf => ?_)
    revert hf; refine zbi2 (fun x4 h3 e_x4 hf => ?_)
    refine zq_callV (J' := jX11_change) (as := []) (rest := []) (r1 := (some (zr x4))) (q := (RX11, TX11, 6)) kw_420 km_X11_change kt_340 dX11_round_23 rfl (Nat.le_of_ble_eq_true rfl) rfl rfl e_q2 rfl (c_X11_change hg e_x4) ?_
    refine zq_astore_n (v := .inl x4) (L' := [some (zr (some l0)), some (zr x2), some (zr x4)]) dX11_round_26 rfl (by decide) rfl ?_
    refine zr_aload_n (v := .inl x4) dX11_round_27 rfl rfl ?_
    refine zr_aload_n (v := .inl x2) dX11_round_28 rfl rfl ?_
    revert hf; refine zbi (fun h4 e_h4 hf => ?_)
    refine zq_put (kp_341 _) dX11_round_29 (zn_o _ _) e_h4 ?_
    refine zr_aload_n (v := .inl x4) dX11_round_32 rfl rfl ?_
    revert hf; refine zbi (fun q3 e_q3 hf => ?_)
    revert hf; refine zbi (fun h5 e_h5 hf => ?_)
    refine zq_callV (J' := jX9_forgetShots) (as := []) (rest := []) (r1 := none) (q := (RX9, TX9, 5)) kw_425 km_X9_forgetShots kt_343 dX11_round_33 rfl (Nat.le_of_ble_eq_true rfl) rfl rfl e_q3 rfl (c_X9_forgetShots hg e_h5) ?_
    refine zr_aload_n (v := .inl x2) dX11_round_36 rfl rfl ?_
    revert hf; refine zbi (fun q4 e_q4 hf => ?_)
    revert hf; refine zbi (fun x5 e_x5 hf => ?_)
    refine zq_callV (J' := jX6_countEnds) (as := []) (rest := []) (r1 := (some (zi x5))) (q := (RX6, TX6, 11)) kw_429 km_X6_countEnds kt_344 dX11_round_37 rfl (Nat.le_of_ble_eq_true rfl) rfl rfl e_q4 rfl (c_X6_countEnds hg e_x5) ?_
    cases hf
    exact zr_ret _ rfl dX11_round_40
theorem c_X11_round {g : zG} (hg : g.2.1.map (fun q => q.2) = zty) {N : Nat} {l0 : Nat} {h : zH} {r : Int32} {h' : zH} (hf : f_X11_round N l0 h = some (r, h')) : zCa g jX11_round [zr (some l0)] h (some (zi r)) h' :=
  zCa.of hg (by decide +kernel) (Nat.le_of_ble_eq_true rfl) (s_X11_round hg N l0 h r h' hf)
theorem dX11_fault_0 : decode cX11_fault 0 = .ok (.iload_n 1, 1) := by decide +kernel
theorem dX11_fault_1 : decode cX11_fault 1 = .ok (.lookupswitch 43 #[(0, 27), (1, 35)], 27) := by decide +kernel
theorem dX11_fault_28 : decode cX11_fault 28 = .ok (.aload_n 0, 1) := by decide +kernel
theorem dX11_fault_29 : decode cX11_fault 29 = .ok (.getfield 10, 3) := by decide +kernel
theorem dX11_fault_32 : decode cX11_fault 32 = .ok (.getfield 73, 3) := by decide +kernel
theorem dX11_fault_35 : decode cX11_fault 35 = .ok (.ireturn, 1) := by decide +kernel
theorem dX11_fault_36 : decode cX11_fault 36 = .ok (.aload_n 0, 1) := by decide +kernel
theorem dX11_fault_37 : decode cX11_fault 37 = .ok (.getfield 10, 3) := by decide +kernel
theorem dX11_fault_40 : decode cX11_fault 40 = .ok (.getfield 76, 3) := by decide +kernel
theorem dX11_fault_43 : decode cX11_fault 43 = .ok (.ireturn, 1) := by decide +kernel
theorem dX11_fault_44 : decode cX11_fault 44 = .ok (.iconst (-1), 1) := by decide +kernel
theorem dX11_fault_45 : decode cX11_fault 45 = .ok (.ireturn, 1) := by decide +kernel
def f_X11_fault (N : Nat) (l0 : Nat) (l1 : Int32) (h : zH) : Option Int32 := if l1 = (0 : Int32) then (zgR h 11 (some l0) 0).bind fun x1 => (zgI h 5 x1 5).bind fun x2 => some x2 else if l1 = (1 : Int32) then (zgR h 11 (some l0) 0).bind fun x3 => (zgI h 5 x3 6).bind fun x4 => some x4 else some ((-1) : Int32)
set_option maxHeartbeats 4000000 in
set_option maxRecDepth 100000 in
theorem s_X11_fault {g : zG} (hg : g.2.1.map (fun q => q.2) = zty) {h0 : zH} (N : Nat) (l0 : Nat) (l1 : Int32) (h : zH) (r : Int32) (hf : f_X11_fault N l0 l1 h = some r) : zR g jX11_fault h0 0 [some (zr (some l0)), some (zi l1)] [] h (some (zi r)) h := by
  unfold f_X11_fault at hf
  refine zr_iload_n (x := l1) dX11_fault_0 rfl rfl ?_
  by_cases hc1 : l1 = (0 : Int32)
  · rw [if_pos hc1] at hf
    refine zr_look (off := 27) (tgt := 28) dX11_fault_1 (by decide) (by rw [hc1]; rfl) (by decide) ?_
    refine zr_aload_n (v := .inl (some l0)) dX11_fault_28 rfl rfl ?_
    revert hf; refine zbi (fun x1 e_x1 hf => ?_)
    refine zq_getR kg_312 dX11_fault_29 e_x1 ?_
    revert hf; refine zbi (fun x2 e_x2 hf => ?_)
    refine zq_getI kg_345 dX11_fault_32 e_x2 ?_
    cases hf
    exact zr_ret _ rfl dX11_fault_35
  · rw [if_neg hc1] at hf
    by_cases hc2 : l1 = (1 : Int32)
    · rw [if_pos hc2] at hf
      refine zr_look (off := 35) (tgt := 36) dX11_fault_1 (by decide) (by rw [hc2]; rfl) (by decide) ?_
      refine zr_aload_n (v := .inl (some l0)) dX11_fault_36 rfl rfl ?_
      revert hf; refine zbi (fun x3 e_x3 hf => ?_)
      refine zq_getR kg_312 dX11_fault_37 e_x3 ?_
      revert hf; refine zbi (fun x4 e_x4 hf => ?_)
      refine zq_getI kg_346 dX11_fault_40 e_x4 ?_
      cases hf
      exact zr_ret _ rfl dX11_fault_43
    · rw [if_neg hc2] at hf
      refine zr_look (off := 43) (tgt := 44) dX11_fault_1 (by decide) (by dsimp only; rw [lv_osw hc1 (by decide), lv_osw hc2 (by decide)]; rfl) (by decide) ?_
      refine zr_iconst (v := ((-1) : Int32)) dX11_fault_44 (by decide) ?_
      cases hf
      exact zr_ret _ rfl dX11_fault_45
theorem c_X11_fault {g : zG} (hg : g.2.1.map (fun q => q.2) = zty) {N : Nat} {l0 : Nat} {l1 : Int32} {h : zH} {r : Int32} (hf : f_X11_fault N l0 l1 h = some r) : zCa g jX11_fault [zr (some l0), zi l1] h (some (zi r)) h :=
  zCa.of hg (by decide +kernel) (Nat.le_of_ble_eq_true rfl) (s_X11_fault hg N l0 l1 h r hf)
theorem dX11_of_0 : decode cX11_of 0 = .ok (.aload_n 0, 1) := by decide +kernel
theorem dX11_of_1 : decode cX11_of 1 = .ok (.getfield 39, 3) := by decide +kernel
theorem dX11_of_4 : decode cX11_of 4 = .ok (.getfield 60, 3) := by decide +kernel
theorem dX11_of_7 : decode cX11_of 7 = .ok (.ifnonnull 7, 3) := by decide +kernel
theorem dX11_of_10 : decode cX11_of 10 = .ok (.iconst (-1), 1) := by decide +kernel
theorem dX11_of_11 : decode cX11_of 11 = .ok (.goto 14, 3) := by decide +kernel
theorem dX11_of_14 : decode cX11_of 14 = .ok (.aload_n 0, 1) := by decide +kernel
theorem dX11_of_15 : decode cX11_of 15 = .ok (.getfield 39, 3) := by decide +kernel
theorem dX11_of_18 : decode cX11_of 18 = .ok (.getfield 60, 3) := by decide +kernel
theorem dX11_of_21 : decode cX11_of 21 = .ok (.iload_n 1, 1) := by decide +kernel
theorem dX11_of_22 : decode cX11_of 22 = .ok (.invokevirtual 79, 3) := by decide +kernel
theorem dX11_of_25 : decode cX11_of 25 = .ok (.ireturn, 1) := by decide +kernel
def f_X11_of (N : Nat) (l0 : Nat) (l1 : Int32) (h : zH) : Option Int32 := (zgR h 11 (some l0) 5).bind fun x1 => (zgR h 9 x1 0).bind fun x2 => if x2 = none then some ((-1) : Int32) else (zgR h 11 (some l0) 5).bind fun x3 => (zgR h 9 x3 0).bind fun x4 => (zck h 6 x4).bind fun q1 => (f_X6_tell N q1 l1 h).bind fun x5 => some x5
set_option maxHeartbeats 4000000 in
set_option maxRecDepth 100000 in
theorem s_X11_of {g : zG} (hg : g.2.1.map (fun q => q.2) = zty) {h0 : zH} (N : Nat) (l0 : Nat) (l1 : Int32) (h : zH) (r : Int32) (hf : f_X11_of N l0 l1 h = some r) : zR g jX11_of h0 0 [some (zr (some l0)), some (zi l1)] [] h (some (zi r)) h := by
  unfold f_X11_of at hf
  refine zr_aload_n (v := .inl (some l0)) dX11_of_0 rfl rfl ?_
  revert hf; refine zbi (fun x1 e_x1 hf => ?_)
  refine zq_getR kg_332 dX11_of_1 e_x1 ?_
  revert hf; refine zbi (fun x2 e_x2 hf => ?_)
  refine zq_getR kg_347 dX11_of_4 e_x2 ?_
  by_cases hc1 : x2 = none
  · rw [if_pos hc1] at hf
    refine zr_ifnonnull_f dX11_of_7 hc1 ?_
    refine zr_iconst (v := ((-1) : Int32)) dX11_of_10 (by decide) ?_
    refine zr_goto (tgt := 25) dX11_of_11 (by decide) ?_
    cases hf
    exact zr_ret _ rfl dX11_of_25
  · rw [if_neg hc1] at hf
    refine zr_ifnonnull_t (tgt := 14) dX11_of_7 (by decide) hc1 ?_
    refine zr_aload_n (v := .inl (some l0)) dX11_of_14 rfl rfl ?_
    revert hf; refine zbi (fun x3 e_x3 hf => ?_)
    refine zq_getR kg_332 dX11_of_15 e_x3 ?_
    revert hf; refine zbi (fun x4 e_x4 hf => ?_)
    refine zq_getR kg_347 dX11_of_18 e_x4 ?_
    refine zr_iload_n (x := l1) dX11_of_21 rfl rfl ?_
    revert hf; refine zbi (fun q1 e_q1 hf => ?_)
    revert hf; refine zbi (fun x5 e_x5 hf => ?_)
    refine zq_callV (J' := jX6_tell) (as := [zi l1]) (rest := []) (r1 := (some (zi x5))) (q := (RX6, TX6, 11)) kw_432 km_X6_tell kt_349 dX11_of_22 rfl (Nat.le_of_ble_eq_true rfl) rfl rfl e_q1 rfl (c_X6_tell hg e_x5) ?_
    cases hf
    exact zr_ret _ rfl dX11_of_25
theorem c_X11_of {g : zG} (hg : g.2.1.map (fun q => q.2) = zty) {N : Nat} {l0 : Nat} {l1 : Int32} {h : zH} {r : Int32} (hf : f_X11_of N l0 l1 h = some r) : zCa g jX11_of [zr (some l0), zi l1] h (some (zi r)) h :=
  zCa.of hg (by decide +kernel) (Nat.le_of_ble_eq_true rfl) (s_X11_of hg N l0 l1 h r hf)
theorem dX11_archer_0 : decode cX11_archer 0 = .ok (.aload_n 0, 1) := by decide +kernel
theorem dX11_archer_1 : decode cX11_archer 1 = .ok (.getfield 39, 3) := by decide +kernel
theorem dX11_archer_4 : decode cX11_archer 4 = .ok (.invokevirtual 83, 3) := by decide +kernel
theorem dX11_archer_7 : decode cX11_archer 7 = .ok (.istore_n 2, 1) := by decide +kernel
theorem dX11_archer_8 : decode cX11_archer 8 = .ok (.iload_n 1, 1) := by decide +kernel
theorem dX11_archer_9 : decode cX11_archer 9 = .ok (.ifCond .lt 14, 3) := by decide +kernel
theorem dX11_archer_12 : decode cX11_archer 12 = .ok (.iload_n 1, 1) := by decide +kernel
theorem dX11_archer_13 : decode cX11_archer 13 = .ok (.bipush 8, 2) := by decide +kernel
theorem dX11_archer_15 : decode cX11_archer 15 = .ok (.if_icmp .ge 8, 3) := by decide +kernel
theorem dX11_archer_18 : decode cX11_archer 18 = .ok (.iload_n 2, 1) := by decide +kernel
theorem dX11_archer_19 : decode cX11_archer 19 = .ok (.iconst (-1), 1) := by decide +kernel
theorem dX11_archer_20 : decode cX11_archer 20 = .ok (.if_icmp .ne 5, 3) := by decide +kernel
theorem dX11_archer_23 : decode cX11_archer 23 = .ok (.iconst (-1), 1) := by decide +kernel
theorem dX11_archer_24 : decode cX11_archer 24 = .ok (.ireturn, 1) := by decide +kernel
theorem dX11_archer_25 : decode cX11_archer 25 = .ok (.aload_n 0, 1) := by decide +kernel
theorem dX11_archer_26 : decode cX11_archer 26 = .ok (.invokevirtual 56, 3) := by decide +kernel
theorem dX11_archer_29 : decode cX11_archer 29 = .ok (.iload_n 2, 1) := by decide +kernel
theorem dX11_archer_30 : decode cX11_archer 30 = .ok (.new 86, 3) := by decide +kernel
theorem dX11_archer_33 : decode cX11_archer 33 = .ok (.dup, 1) := by decide +kernel
theorem dX11_archer_34 : decode cX11_archer 34 = .ok (.iload_n 1, 1) := by decide +kernel
theorem dX11_archer_35 : decode cX11_archer 35 = .ok (.new 88, 3) := by decide +kernel
theorem dX11_archer_38 : decode cX11_archer 38 = .ok (.dup, 1) := by decide +kernel
theorem dX11_archer_39 : decode cX11_archer 39 = .ok (.invokespecial 90, 3) := by decide +kernel
theorem dX11_archer_42 : decode cX11_archer 42 = .ok (.new 91, 3) := by decide +kernel
theorem dX11_archer_45 : decode cX11_archer 45 = .ok (.dup, 1) := by decide +kernel
theorem dX11_archer_46 : decode cX11_archer 46 = .ok (.invokespecial 93, 3) := by decide +kernel
theorem dX11_archer_49 : decode cX11_archer 49 = .ok (.invokespecial 94, 3) := by decide +kernel
theorem dX11_archer_52 : decode cX11_archer 52 = .ok (.invokevirtual 97, 3) := by decide +kernel
theorem dX11_archer_55 : decode cX11_archer 55 = .ok (.iload_n 2, 1) := by decide +kernel
theorem dX11_archer_56 : decode cX11_archer 56 = .ok (.ireturn, 1) := by decide +kernel
def f_X11_archer (N : Nat) (l0 : Nat) (l1 : Int32) (h : zH) : Option (Int32 × zH) := (zgR h 11 (some l0) 5).bind fun x1 => (zck h 9 x1).bind fun q1 => (f_X9_freeNumber N q1 h).bind fun x2 => if l1 < 0 then some (((-1) : Int32), h) else if (8 : Int32) ≤ l1 then some (((-1) : Int32), h) else if x2 = ((-1) : Int32) then some (((-1) : Int32), h) else (zck h 11 (some l0)).bind fun q2 => zb2 (f_X11_change N q2 h) fun x3 h1 => znw h1 (.inr (0, [zi 0, zr none, zr none])) fun a1 h2 => znw h2 (.inr (8, [zr none, zr none, zr none])) fun a2 h3 => (f_X8_init N a2 h3).bind fun h4 => znw h4 (.inr (7, [zr none])) fun a3 h5 => (f_X7_init N a3 h5).bind fun h6 => (f_X0_init N a1 l1 (some a2) (some a3) h6).bind fun h7 => (zck h7 9 x3).bind fun q3 => (f_X9_put N q3 x2 (some a1) h7).bind fun h8 => some (x2, h8)
set_option maxHeartbeats 4000000 in
set_option maxRecDepth 100000 in
theorem s_X11_archer {g : zG} (hg : g.2.1.map (fun q => q.2) = zty) {h0 : zH} (N : Nat) (l0 : Nat) (l1 : Int32) (h : zH) (r : Int32) (h' : zH) (hf : f_X11_archer N l0 l1 h = some (r, h')) : zR g jX11_archer h0 0 [some (zr (some l0)), some (zi l1), none] [] h (some (zi r)) h' := by
  unfold f_X11_archer at hf
  refine zr_aload_n (v := .inl (some l0)) dX11_archer_0 rfl rfl ?_
  revert hf; refine zbi (fun x1 e_x1 hf => ?_)
  refine zq_getR kg_332 dX11_archer_1 e_x1 ?_
  revert hf; refine zbi (fun q1 e_q1 hf => ?_)
  revert hf; refine zbi (fun x2 e_x2 hf => ?_)
  refine zq_callV (J' := jX9_freeNumber) (as := []) (rest := []) (r1 := (some (zi x2))) (q := (RX9, TX9, 5)) kw_436 km_X9_freeNumber kt_351 dX11_archer_4 rfl (Nat.le_of_ble_eq_true rfl) rfl rfl e_q1 rfl (c_X9_freeNumber hg e_x2) ?_
  refine zq_istore_n (x := x2) (L' := [some (zr (some l0)), some (zi l1), some (zi x2)]) dX11_archer_7 rfl (by decide) rfl ?_
  refine zr_iload_n (x := l1) dX11_archer_8 rfl rfl ?_
  by_cases hc1 : l1 < 0
  · rw [if_pos hc1] at hf
    refine zr_iflt_t (tgt := 23) dX11_archer_9 (by decide) hc1 ?_
    refine zr_iconst (v := ((-1) : Int32)) dX11_archer_23 (by decide) ?_
    cases hf
    exact zr_ret _ rfl dX11_archer_24
  · rw [if_neg hc1] at hf
    refine zr_iflt_f 23 dX11_archer_9 (by decide) hc1 ?_
    refine zr_iload_n (x := l1) dX11_archer_12 rfl rfl ?_
    refine zr_bipush (v := (8 : Int32)) dX11_archer_13 (by decide) ?_
    by_cases hc2 : (8 : Int32) ≤ l1
    · rw [if_pos hc2] at hf
      refine zr_icge_t (tgt := 23) dX11_archer_15 (by decide) hc2 ?_
      refine zr_iconst (v := ((-1) : Int32)) dX11_archer_23 (by decide) ?_
      cases hf
      exact zr_ret _ rfl dX11_archer_24
    · rw [if_neg hc2] at hf
      refine zr_icge_f 23 dX11_archer_15 (by decide) hc2 ?_
      refine zr_iload_n (x := x2) dX11_archer_18 rfl rfl ?_
      refine zr_iconst (v := ((-1) : Int32)) dX11_archer_19 (by decide) ?_
      by_cases hc3 : x2 = ((-1) : Int32)
      · rw [if_pos hc3] at hf
        refine zr_icne_f 25 dX11_archer_20 (by decide) hc3 ?_
        refine zr_iconst (v := ((-1) : Int32)) dX11_archer_23 (by decide) ?_
        cases hf
        exact zr_ret _ rfl dX11_archer_24
      · rw [if_neg hc3] at hf
        refine zr_icne_t (tgt := 25) dX11_archer_20 (by decide) hc3 ?_
        refine zr_aload_n (v := .inl (some l0)) dX11_archer_25 rfl rfl ?_
        revert hf; refine zbi (fun q2 e_q2 hf => ?_)
        revert hf; refine zbi2 (fun x3 h1 e_x3 hf => ?_)
        refine zq_callV (J' := jX11_change) (as := []) (rest := []) (r1 := (some (zr x3))) (q := (RX11, TX11, 6)) kw_420 km_X11_change kt_352 dX11_archer_26 rfl (Nat.le_of_ble_eq_true rfl) rfl rfl e_q2 rfl (c_X11_change hg e_x3) ?_
        refine zr_iload_n (x := x2) dX11_archer_29 rfl rfl ?_
        obtain ⟨a1, h2, e_a1, e_h2, hf⟩ := znw_spec hf
        refine zq_new kn_353 dX11_archer_30 e_a1 e_h2 ?_
        refine zr_dup dX11_archer_33 ?_
        refine zr_iload_n (x := l1) dX11_archer_34 rfl rfl ?_
        obtain ⟨a2, h3, e_a2, e_h3, hf⟩ := znw_spec hf
        refine zq_new kn_354 dX11_archer_35 e_a2 e_h3 ?_
        refine zr_dup dX11_archer_38 ?_
        revert hf; refine zbi (fun h4 e_h4 hf => ?_)
        refine zq_callI (J' := jX8_init) (as := []) (rest := [zr (some a2), zi l1, zr (some a1), zr (some a1), zi x2, zr x3]) (r1 := none) (a := a2) kw_442 km_X8_init kt_355 dX11_archer_39 rfl (Nat.le_of_ble_eq_true rfl) rfl (c_X8_init hg e_h4) ?_
        obtain ⟨a3, h5, e_a3, e_h5, hf⟩ := znw_spec hf
        refine zq_new kn_356 dX11_archer_42 e_a3 e_h5 ?_
        refine zr_dup dX11_archer_45 ?_
        revert hf; refine zbi (fun h6 e_h6 hf => ?_)
        refine zq_callI (J' := jX7_init) (as := []) (rest := [zr (some a3), zr (some a2), zi l1, zr (some a1), zr (some a1), zi x2, zr x3]) (r1 := none) (a := a3) kw_444 km_X7_init kt_358 dX11_archer_46 rfl (Nat.le_of_ble_eq_true rfl) rfl (c_X7_init hg e_h6) ?_
        revert hf; refine zbi (fun h7 e_h7 hf => ?_)
        refine zq_callI (J' := jX0_init) (as := [zi l1, zr (some a2), zr (some a3)]) (rest := [zr (some a1), zi x2, zr x3]) (r1 := none) (a := a1) kw_447 km_X0_init kt_359 dX11_archer_49 rfl (Nat.le_of_ble_eq_true rfl) rfl (c_X0_init hg e_h7) ?_
        revert hf; refine zbi (fun q3 e_q3 hf => ?_)
        revert hf; refine zbi (fun h8 e_h8 hf => ?_)
        refine zq_callV (J' := jX9_put) (as := [zi x2, zr (some a1)]) (rest := []) (r1 := none) (q := (RX9, TX9, 5)) kw_448 km_X9_put kt_361 dX11_archer_52 rfl (Nat.le_of_ble_eq_true rfl) rfl rfl e_q3 rfl (c_X9_put hg e_h8) ?_
        refine zr_iload_n (x := x2) dX11_archer_55 rfl rfl ?_
        cases hf
        exact zr_ret _ rfl dX11_archer_56
theorem c_X11_archer {g : zG} (hg : g.2.1.map (fun q => q.2) = zty) {N : Nat} {l0 : Nat} {l1 : Int32} {h : zH} {r : Int32} {h' : zH} (hf : f_X11_archer N l0 l1 h = some (r, h')) : zCa g jX11_archer [zr (some l0), zi l1] h (some (zi r)) h' :=
  zCa.of hg (by decide +kernel) (Nat.le_of_ble_eq_true rfl) (s_X11_archer hg N l0 l1 h r h' hf)
theorem dX11_leave_0 : decode cX11_leave 0 = .ok (.aload_n 0, 1) := by decide +kernel
theorem dX11_leave_1 : decode cX11_leave 1 = .ok (.getfield 39, 3) := by decide +kernel
theorem dX11_leave_4 : decode cX11_leave 4 = .ok (.iload_n 1, 1) := by decide +kernel
theorem dX11_leave_5 : decode cX11_leave 5 = .ok (.invokevirtual 101, 3) := by decide +kernel
theorem dX11_leave_8 : decode cX11_leave 8 = .ok (.ifnonnull 5, 3) := by decide +kernel
theorem dX11_leave_11 : decode cX11_leave 11 = .ok (.iconst 0, 1) := by decide +kernel
theorem dX11_leave_12 : decode cX11_leave 12 = .ok (.ireturn, 1) := by decide +kernel
theorem dX11_leave_13 : decode cX11_leave 13 = .ok (.aload_n 0, 1) := by decide +kernel
theorem dX11_leave_14 : decode cX11_leave 14 = .ok (.invokevirtual 56, 3) := by decide +kernel
theorem dX11_leave_17 : decode cX11_leave 17 = .ok (.astore_n 2, 1) := by decide +kernel
theorem dX11_leave_18 : decode cX11_leave 18 = .ok (.aload_n 2, 1) := by decide +kernel
theorem dX11_leave_19 : decode cX11_leave 19 = .ok (.iload_n 1, 1) := by decide +kernel
theorem dX11_leave_20 : decode cX11_leave 20 = .ok (.aconst_null, 1) := by decide +kernel
theorem dX11_leave_21 : decode cX11_leave 21 = .ok (.invokevirtual 97, 3) := by decide +kernel
theorem dX11_leave_24 : decode cX11_leave 24 = .ok (.aload_n 2, 1) := by decide +kernel
theorem dX11_leave_25 : decode cX11_leave 25 = .ok (.aload_n 2, 1) := by decide +kernel
theorem dX11_leave_26 : decode cX11_leave 26 = .ok (.getfield 105, 3) := by decide +kernel
theorem dX11_leave_29 : decode cX11_leave 29 = .ok (.iload_n 1, 1) := by decide +kernel
theorem dX11_leave_30 : decode cX11_leave 30 = .ok (.invokevirtual 109, 3) := by decide +kernel
theorem dX11_leave_33 : decode cX11_leave 33 = .ok (.putfield 105, 3) := by decide +kernel
theorem dX11_leave_36 : decode cX11_leave 36 = .ok (.iconst 1, 1) := by decide +kernel
theorem dX11_leave_37 : decode cX11_leave 37 = .ok (.ireturn, 1) := by decide +kernel
def f_X11_leave (N : Nat) (l0 : Nat) (l1 : Int32) (h : zH) : Option (Int32 × zH) := (zgR h 11 (some l0) 5).bind fun x1 => (zck h 9 x1).bind fun q1 => (f_X9_find N q1 l1 h).bind fun x2 => if x2 = none then some ((0 : Int32), h) else (zck h 11 (some l0)).bind fun q2 => zb2 (f_X11_change N q2 h) fun x3 h1 => (zck h1 9 x3).bind fun q3 => (f_X9_put N q3 l1 none h1).bind fun h2 => (zgR h2 9 x3 3).bind fun x4 => (zck h2 2 x4).bind fun q4 => zb2 (f_X2_without N q4 l1 h2) fun x5 h3 => (zpu h3 9 x3 3 (zr x5)).bind fun h4 => some ((1 : Int32), h4)
set_option maxHeartbeats 4000000 in
set_option maxRecDepth 100000 in
theorem s_X11_leave {g : zG} (hg : g.2.1.map (fun q => q.2) = zty) {h0 : zH} (N : Nat) (l0 : Nat) (l1 : Int32) (h : zH) (r : Int32) (h' : zH) (hf : f_X11_leave N l0 l1 h = some (r, h')) : zR g jX11_leave h0 0 [some (zr (some l0)), some (zi l1), none] [] h (some (zi r)) h' := by
  unfold f_X11_leave at hf
  refine zr_aload_n (v := .inl (some l0)) dX11_leave_0 rfl rfl ?_
  revert hf; refine zbi (fun x1 e_x1 hf => ?_)
  refine zq_getR kg_332 dX11_leave_1 e_x1 ?_
  refine zr_iload_n (x := l1) dX11_leave_4 rfl rfl ?_
  revert hf; refine zbi (fun q1 e_q1 hf => ?_)
  revert hf; refine zbi (fun x2 e_x2 hf => ?_)
  refine zq_callV (J' := jX9_find) (as := [zi l1]) (rest := []) (r1 := (some (zr x2))) (q := (RX9, TX9, 5)) kw_452 km_X9_find kt_362 dX11_leave_5 rfl (Nat.le_of_ble_eq_true rfl) rfl rfl e_q1 rfl (c_X9_find hg e_x2) ?_
  by_cases hc1 : x2 = none
  · rw [if_pos hc1] at hf
    refine zr_ifnonnull_f dX11_leave_8 hc1 ?_
    refine zr_iconst (v := (0 : Int32)) dX11_leave_11 (by decide) ?_
    cases hf
    exact zr_ret _ rfl dX11_leave_12
  · rw [if_neg hc1] at hf
    refine zr_ifnonnull_t (tgt := 13) dX11_leave_8 (by decide) hc1 ?_
    refine zr_aload_n (v := .inl (some l0)) dX11_leave_13 rfl rfl ?_
    revert hf; refine zbi (fun q2 e_q2 hf => ?_)
    revert hf; refine zbi2 (fun x3 h1 e_x3 hf => ?_)
    refine zq_callV (J' := jX11_change) (as := []) (rest := []) (r1 := (some (zr x3))) (q := (RX11, TX11, 6)) kw_420 km_X11_change kt_363 dX11_leave_14 rfl (Nat.le_of_ble_eq_true rfl) rfl rfl e_q2 rfl (c_X11_change hg e_x3) ?_
    refine zq_astore_n (v := .inl x3) (L' := [some (zr (some l0)), some (zi l1), some (zr x3)]) dX11_leave_17 rfl (by decide) rfl ?_
    refine zr_aload_n (v := .inl x3) dX11_leave_18 rfl rfl ?_
    refine zr_iload_n (x := l1) dX11_leave_19 rfl rfl ?_
    refine zr_null dX11_leave_20 ?_
    revert hf; refine zbi (fun q3 e_q3 hf => ?_)
    revert hf; refine zbi (fun h2 e_h2 hf => ?_)
    refine zq_callV (J' := jX9_put) (as := [zi l1, zr none]) (rest := []) (r1 := none) (q := (RX9, TX9, 5)) kw_448 km_X9_put kt_364 dX11_leave_21 rfl (Nat.le_of_ble_eq_true rfl) rfl rfl e_q3 rfl (c_X9_put hg e_h2) ?_
    refine zr_aload_n (v := .inl x3) dX11_leave_24 rfl rfl ?_
    refine zr_aload_n (v := .inl x3) dX11_leave_25 rfl rfl ?_
    revert hf; refine zbi (fun x4 e_x4 hf => ?_)
    refine zq_getR kg_365 dX11_leave_26 e_x4 ?_
    refine zr_iload_n (x := l1) dX11_leave_29 rfl rfl ?_
    revert hf; refine zbi (fun q4 e_q4 hf => ?_)
    revert hf; refine zbi2 (fun x5 h3 e_x5 hf => ?_)
    refine zq_callV (J' := jX2_without) (as := [zi l1]) (rest := [zr x3]) (r1 := (some (zr x5))) (q := (RX2, TX2, 3)) kw_454 km_X2_without kt_367 dX11_leave_30 rfl (Nat.le_of_ble_eq_true rfl) rfl rfl e_q4 rfl (c_X2_without hg e_x5) ?_
    revert hf; refine zbi (fun h4 e_h4 hf => ?_)
    refine zq_put (kp_368 _) dX11_leave_33 (zn_o _ _) e_h4 ?_
    refine zr_iconst (v := (1 : Int32)) dX11_leave_36 (by decide) ?_
    cases hf
    exact zr_ret _ rfl dX11_leave_37
theorem c_X11_leave {g : zG} (hg : g.2.1.map (fun q => q.2) = zty) {N : Nat} {l0 : Nat} {l1 : Int32} {h : zH} {r : Int32} {h' : zH} (hf : f_X11_leave N l0 l1 h = some (r, h')) : zCa g jX11_leave [zr (some l0), zi l1] h (some (zi r)) h' :=
  zCa.of hg (by decide +kernel) (Nat.le_of_ble_eq_true rfl) (s_X11_leave hg N l0 l1 h r h' hf)
theorem dX11_told_0 : decode cX11_told 0 = .ok (.aload_n 0, 1) := by decide +kernel
theorem dX11_told_1 : decode cX11_told 1 = .ok (.getfield 39, 3) := by decide +kernel
theorem dX11_told_4 : decode cX11_told 4 = .ok (.iload_n 1, 1) := by decide +kernel
theorem dX11_told_5 : decode cX11_told 5 = .ok (.invokevirtual 101, 3) := by decide +kernel
theorem dX11_told_8 : decode cX11_told 8 = .ok (.astore_n 3, 1) := by decide +kernel
theorem dX11_told_9 : decode cX11_told 9 = .ok (.aload_n 3, 1) := by decide +kernel
theorem dX11_told_10 : decode cX11_told 10 = .ok (.ifnonnull 5, 3) := by decide +kernel
theorem dX11_told_13 : decode cX11_told 13 = .ok (.iconst (-1), 1) := by decide +kernel
theorem dX11_told_14 : decode cX11_told 14 = .ok (.ireturn, 1) := by decide +kernel
theorem dX11_told_15 : decode cX11_told 15 = .ok (.iload_n 2, 1) := by decide +kernel
theorem dX11_told_16 : decode cX11_told 16 = .ok (.tableswitch 101 0 6 #[44, 49, 57, 65, 73, 81, 89], 44) := by decide +kernel
theorem dX11_told_60 : decode cX11_told 60 = .ok (.aload_n 3, 1) := by decide +kernel
theorem dX11_told_61 : decode cX11_told 61 = .ok (.getfield 115, 3) := by decide +kernel
theorem dX11_told_64 : decode cX11_told 64 = .ok (.ireturn, 1) := by decide +kernel
theorem dX11_told_65 : decode cX11_told 65 = .ok (.aload_n 3, 1) := by decide +kernel
theorem dX11_told_66 : decode cX11_told 66 = .ok (.getfield 118, 3) := by decide +kernel
theorem dX11_told_69 : decode cX11_told 69 = .ok (.invokevirtual 122, 3) := by decide +kernel
theorem dX11_told_72 : decode cX11_told 72 = .ok (.ireturn, 1) := by decide +kernel
theorem dX11_told_73 : decode cX11_told 73 = .ok (.aload_n 3, 1) := by decide +kernel
theorem dX11_told_74 : decode cX11_told 74 = .ok (.getfield 118, 3) := by decide +kernel
theorem dX11_told_77 : decode cX11_told 77 = .ok (.invokevirtual 123, 3) := by decide +kernel
theorem dX11_told_80 : decode cX11_told 80 = .ok (.ireturn, 1) := by decide +kernel
theorem dX11_told_81 : decode cX11_told 81 = .ok (.aload_n 3, 1) := by decide +kernel
theorem dX11_told_82 : decode cX11_told 82 = .ok (.getfield 118, 3) := by decide +kernel
theorem dX11_told_85 : decode cX11_told 85 = .ok (.invokevirtual 126, 3) := by decide +kernel
theorem dX11_told_88 : decode cX11_told 88 = .ok (.ireturn, 1) := by decide +kernel
theorem dX11_told_89 : decode cX11_told 89 = .ok (.aload_n 3, 1) := by decide +kernel
theorem dX11_told_90 : decode cX11_told 90 = .ok (.getfield 118, 3) := by decide +kernel
theorem dX11_told_93 : decode cX11_told 93 = .ok (.invokevirtual 129, 3) := by decide +kernel
theorem dX11_told_96 : decode cX11_told 96 = .ok (.ireturn, 1) := by decide +kernel
theorem dX11_told_97 : decode cX11_told 97 = .ok (.aload_n 3, 1) := by decide +kernel
theorem dX11_told_98 : decode cX11_told 98 = .ok (.getfield 132, 3) := by decide +kernel
theorem dX11_told_101 : decode cX11_told 101 = .ok (.invokevirtual 136, 3) := by decide +kernel
theorem dX11_told_104 : decode cX11_told 104 = .ok (.ireturn, 1) := by decide +kernel
theorem dX11_told_105 : decode cX11_told 105 = .ok (.aload_n 0, 1) := by decide +kernel
theorem dX11_told_106 : decode cX11_told 106 = .ok (.getfield 39, 3) := by decide +kernel
theorem dX11_told_109 : decode cX11_told 109 = .ok (.getfield 105, 3) := by decide +kernel
theorem dX11_told_112 : decode cX11_told 112 = .ok (.iload_n 1, 1) := by decide +kernel
theorem dX11_told_113 : decode cX11_told 113 = .ok (.invokevirtual 139, 3) := by decide +kernel
theorem dX11_told_116 : decode cX11_told 116 = .ok (.ireturn, 1) := by decide +kernel
theorem dX11_told_117 : decode cX11_told 117 = .ok (.iconst (-1), 1) := by decide +kernel
theorem dX11_told_118 : decode cX11_told 118 = .ok (.ireturn, 1) := by decide +kernel
def f_X11_told (N : Nat) (l0 : Nat) (l1 : Int32) (l2 : Int32) (h : zH) : Option Int32 := (zgR h 11 (some l0) 5).bind fun x1 => (zck h 9 x1).bind fun q1 => (f_X9_find N q1 l1 h).bind fun x2 => if x2 = none then some ((-1) : Int32) else if l2 = (0 : Int32) then (zgI h 0 x2 0).bind fun x3 => some x3 else if l2 = (1 : Int32) then (zgR h 0 x2 1).bind fun x4 => (zck h 8 x4).bind fun q2 => (f_X8_countEnds N q2 h).bind fun x5 => some x5 else if l2 = (2 : Int32) then (zgR h 0 x2 1).bind fun x6 => (zck h 8 x6).bind fun q3 => (f_X8_total N q3 h).bind fun x7 => some x7 else if l2 = (3 : Int32) then (zgR h 0 x2 1).bind fun x8 => (zck h 8 x8).bind fun q4 => (f_X8_lastSum N q4 h).bind fun x9 => some x9 else if l2 = (4 : Int32) then (zgR h 0 x2 1).bind fun x10 => (zck h 8 x10).bind fun q5 => (f_X8_countOffs N q5 h).bind fun x11 => some x11 else if l2 = (5 : Int32) then (zgR h 0 x2 2).bind fun x12 => (zck h 7 x12).bind fun q6 => (f_X7_count N q6 h).bind fun x13 => some x13 else if l2 = (6 : Int32) then (zgR h 11 (some l0) 5).bind fun x14 => (zgR h 9 x14 3).bind fun x15 => (zck h 2 x15).bind fun q7 => (f_X2_placeOf N q7 l1 h).bind fun x16 => some x16 else some ((-1) : Int32)
set_option maxHeartbeats 4000000 in
set_option maxRecDepth 100000 in
theorem s_X11_told {g : zG} (hg : g.2.1.map (fun q => q.2) = zty) {h0 : zH} (N : Nat) (l0 : Nat) (l1 : Int32) (l2 : Int32) (h : zH) (r : Int32) (hf : f_X11_told N l0 l1 l2 h = some r) : zR g jX11_told h0 0 [some (zr (some l0)), some (zi l1), some (zi l2), none] [] h (some (zi r)) h := by
  unfold f_X11_told at hf
  refine zr_aload_n (v := .inl (some l0)) dX11_told_0 rfl rfl ?_
  revert hf; refine zbi (fun x1 e_x1 hf => ?_)
  refine zq_getR kg_332 dX11_told_1 e_x1 ?_
  refine zr_iload_n (x := l1) dX11_told_4 rfl rfl ?_
  revert hf; refine zbi (fun q1 e_q1 hf => ?_)
  revert hf; refine zbi (fun x2 e_x2 hf => ?_)
  refine zq_callV (J' := jX9_find) (as := [zi l1]) (rest := []) (r1 := (some (zr x2))) (q := (RX9, TX9, 5)) kw_452 km_X9_find kt_369 dX11_told_5 rfl (Nat.le_of_ble_eq_true rfl) rfl rfl e_q1 rfl (c_X9_find hg e_x2) ?_
  refine zq_astore_n (v := .inl x2) (L' := [some (zr (some l0)), some (zi l1), some (zi l2), some (zr x2)]) dX11_told_8 rfl (by decide) rfl ?_
  refine zr_aload_n (v := .inl x2) dX11_told_9 rfl rfl ?_
  by_cases hc1 : x2 = none
  · rw [if_pos hc1] at hf
    refine zr_ifnonnull_f dX11_told_10 hc1 ?_
    refine zr_iconst (v := ((-1) : Int32)) dX11_told_13 (by decide) ?_
    cases hf
    exact zr_ret _ rfl dX11_told_14
  · rw [if_neg hc1] at hf
    refine zr_ifnonnull_t (tgt := 15) dX11_told_10 (by decide) hc1 ?_
    refine zr_iload_n (x := l2) dX11_told_15 rfl rfl ?_
    by_cases hc2 : l2 = (0 : Int32)
    · rw [if_pos hc2] at hf
      refine zr_tabIn (off := 44) (tgt := 60) dX11_told_16 (by rw [hc2]; decide) (by rw [hc2]; rfl) (by decide) ?_
      refine zr_aload_n (v := .inl x2) dX11_told_60 rfl rfl ?_
      revert hf; refine zbi (fun x3 e_x3 hf => ?_)
      refine zq_getI kg_370 dX11_told_61 e_x3 ?_
      cases hf
      exact zr_ret _ rfl dX11_told_64
    · rw [if_neg hc2] at hf
      by_cases hc3 : l2 = (1 : Int32)
      · rw [if_pos hc3] at hf
        refine zr_tabIn (off := 49) (tgt := 65) dX11_told_16 (by rw [hc3]; decide) (by rw [hc3]; rfl) (by decide) ?_
        refine zr_aload_n (v := .inl x2) dX11_told_65 rfl rfl ?_
        revert hf; refine zbi (fun x4 e_x4 hf => ?_)
        refine zq_getR kg_371 dX11_told_66 e_x4 ?_
        revert hf; refine zbi (fun q2 e_q2 hf => ?_)
        revert hf; refine zbi (fun x5 e_x5 hf => ?_)
        refine zq_callV (J' := jX8_countEnds) (as := []) (rest := []) (r1 := (some (zi x5))) (q := (RX8, TX8, 3)) kw_460 km_X8_countEnds kt_373 dX11_told_69 rfl (Nat.le_of_ble_eq_true rfl) rfl rfl e_q2 rfl (c_X8_countEnds hg e_x5) ?_
        cases hf
        exact zr_ret _ rfl dX11_told_72
      · rw [if_neg hc3] at hf
        by_cases hc4 : l2 = (2 : Int32)
        · rw [if_pos hc4] at hf
          refine zr_tabIn (off := 57) (tgt := 73) dX11_told_16 (by rw [hc4]; decide) (by rw [hc4]; rfl) (by decide) ?_
          refine zr_aload_n (v := .inl x2) dX11_told_73 rfl rfl ?_
          revert hf; refine zbi (fun x6 e_x6 hf => ?_)
          refine zq_getR kg_371 dX11_told_74 e_x6 ?_
          revert hf; refine zbi (fun q3 e_q3 hf => ?_)
          revert hf; refine zbi (fun x7 e_x7 hf => ?_)
          refine zq_callV (J' := jX8_total) (as := []) (rest := []) (r1 := (some (zi x7))) (q := (RX8, TX8, 3)) kw_464 km_X8_total kt_374 dX11_told_77 rfl (Nat.le_of_ble_eq_true rfl) rfl rfl e_q3 rfl (c_X8_total hg e_x7) ?_
          cases hf
          exact zr_ret _ rfl dX11_told_80
        · rw [if_neg hc4] at hf
          by_cases hc5 : l2 = (3 : Int32)
          · rw [if_pos hc5] at hf
            refine zr_tabIn (off := 65) (tgt := 81) dX11_told_16 (by rw [hc5]; decide) (by rw [hc5]; rfl) (by decide) ?_
            refine zr_aload_n (v := .inl x2) dX11_told_81 rfl rfl ?_
            revert hf; refine zbi (fun x8 e_x8 hf => ?_)
            refine zq_getR kg_371 dX11_told_82 e_x8 ?_
            revert hf; refine zbi (fun q4 e_q4 hf => ?_)
            revert hf; refine zbi (fun x9 e_x9 hf => ?_)
            refine zq_callV (J' := jX8_lastSum) (as := []) (rest := []) (r1 := (some (zi x9))) (q := (RX8, TX8, 3)) kw_465 km_X8_lastSum kt_375 dX11_told_85 rfl (Nat.le_of_ble_eq_true rfl) rfl rfl e_q4 rfl (c_X8_lastSum hg e_x9) ?_
            cases hf
            exact zr_ret _ rfl dX11_told_88
          · rw [if_neg hc5] at hf
            by_cases hc6 : l2 = (4 : Int32)
            · rw [if_pos hc6] at hf
              refine zr_tabIn (off := 73) (tgt := 89) dX11_told_16 (by rw [hc6]; decide) (by rw [hc6]; rfl) (by decide) ?_
              refine zr_aload_n (v := .inl x2) dX11_told_89 rfl rfl ?_
              revert hf; refine zbi (fun x10 e_x10 hf => ?_)
              refine zq_getR kg_371 dX11_told_90 e_x10 ?_
              revert hf; refine zbi (fun q5 e_q5 hf => ?_)
              revert hf; refine zbi (fun x11 e_x11 hf => ?_)
              refine zq_callV (J' := jX8_countOffs) (as := []) (rest := []) (r1 := (some (zi x11))) (q := (RX8, TX8, 3)) kw_466 km_X8_countOffs kt_377 dX11_told_93 rfl (Nat.le_of_ble_eq_true rfl) rfl rfl e_q5 rfl (c_X8_countOffs hg e_x11) ?_
              cases hf
              exact zr_ret _ rfl dX11_told_96
            · rw [if_neg hc6] at hf
              by_cases hc7 : l2 = (5 : Int32)
              · rw [if_pos hc7] at hf
                refine zr_tabIn (off := 81) (tgt := 97) dX11_told_16 (by rw [hc7]; decide) (by rw [hc7]; rfl) (by decide) ?_
                refine zr_aload_n (v := .inl x2) dX11_told_97 rfl rfl ?_
                revert hf; refine zbi (fun x12 e_x12 hf => ?_)
                refine zq_getR kg_378 dX11_told_98 e_x12 ?_
                revert hf; refine zbi (fun q6 e_q6 hf => ?_)
                revert hf; refine zbi (fun x13 e_x13 hf => ?_)
                refine zq_callV (J' := jX7_count) (as := []) (rest := []) (r1 := (some (zi x13))) (q := (RX7, TX7, 1)) kw_471 km_X7_count kt_379 dX11_told_101 rfl (Nat.le_of_ble_eq_true rfl) rfl rfl e_q6 rfl (c_X7_count hg e_x13) ?_
                cases hf
                exact zr_ret _ rfl dX11_told_104
              · rw [if_neg hc7] at hf
                by_cases hc8 : l2 = (6 : Int32)
                · rw [if_pos hc8] at hf
                  refine zr_tabIn (off := 89) (tgt := 105) dX11_told_16 (by rw [hc8]; decide) (by rw [hc8]; rfl) (by decide) ?_
                  refine zr_aload_n (v := .inl (some l0)) dX11_told_105 rfl rfl ?_
                  revert hf; refine zbi (fun x14 e_x14 hf => ?_)
                  refine zq_getR kg_332 dX11_told_106 e_x14 ?_
                  revert hf; refine zbi (fun x15 e_x15 hf => ?_)
                  refine zq_getR kg_365 dX11_told_109 e_x15 ?_
                  refine zr_iload_n (x := l1) dX11_told_112 rfl rfl ?_
                  revert hf; refine zbi (fun q7 e_q7 hf => ?_)
                  revert hf; refine zbi (fun x16 e_x16 hf => ?_)
                  refine zq_callV (J' := jX2_placeOf) (as := [zi l1]) (rest := []) (r1 := (some (zi x16))) (q := (RX2, TX2, 3)) kw_472 km_X2_placeOf kt_380 dX11_told_113 rfl (Nat.le_of_ble_eq_true rfl) rfl rfl e_q7 rfl (c_X2_placeOf hg e_x16) ?_
                  cases hf
                  exact zr_ret _ rfl dX11_told_116
                · rw [if_neg hc8] at hf
                  refine zr_tabOut (tgt := 117) dX11_told_16 (fun q => by have n0 := zne (n := 0) hc2 (by decide); have n1 := zne (n := 1) hc3 (by decide); have n2 := zne (n := 2) hc4 (by decide); have n3 := zne (n := 3) hc5 (by decide); have n4 := zne (n := 4) hc6 (by decide); have n5 := zne (n := 5) hc7 (by decide); have n6 := zne (n := 6) hc8 (by decide); omega) (by decide) ?_
                  refine zr_iconst (v := ((-1) : Int32)) dX11_told_117 (by decide) ?_
                  cases hf
                  exact zr_ret _ rfl dX11_told_118
theorem c_X11_told {g : zG} (hg : g.2.1.map (fun q => q.2) = zty) {N : Nat} {l0 : Nat} {l1 : Int32} {l2 : Int32} {h : zH} {r : Int32} (hf : f_X11_told N l0 l1 l2 h = some r) : zCa g jX11_told [zr (some l0), zi l1, zi l2] h (some (zi r)) h :=
  zCa.of hg (by decide +kernel) (Nat.le_of_ble_eq_true rfl) (s_X11_told hg N l0 l1 l2 h r hf)
theorem dX11_arrow_0 : decode cX11_arrow 0 = .ok (.aload_n 0, 1) := by decide +kernel
theorem dX11_arrow_1 : decode cX11_arrow 1 = .ok (.getfield 24, 3) := by decide +kernel
theorem dX11_arrow_4 : decode cX11_arrow 4 = .ok (.iload_n 1, 1) := by decide +kernel
theorem dX11_arrow_5 : decode cX11_arrow 5 = .ok (.iload_n 2, 1) := by decide +kernel
theorem dX11_arrow_6 : decode cX11_arrow 6 = .ok (.iload_n 3, 1) := by decide +kernel
theorem dX11_arrow_7 : decode cX11_arrow 7 = .ok (.invokevirtual 142, 3) := by decide +kernel
theorem dX11_arrow_10 : decode cX11_arrow 10 = .ok (.ifCond .eq 13, 3) := by decide +kernel
theorem dX11_arrow_13 : decode cX11_arrow 13 = .ok (.aload_n 0, 1) := by decide +kernel
theorem dX11_arrow_14 : decode cX11_arrow 14 = .ok (.getfield 24, 3) := by decide +kernel
theorem dX11_arrow_17 : decode cX11_arrow 17 = .ok (.getfield 146, 3) := by decide +kernel
theorem dX11_arrow_20 : decode cX11_arrow 20 = .ok (.goto 4, 3) := by decide +kernel
theorem dX11_arrow_23 : decode cX11_arrow 23 = .ok (.iconst (-1), 1) := by decide +kernel
theorem dX11_arrow_24 : decode cX11_arrow 24 = .ok (.ireturn, 1) := by decide +kernel
def f_X11_arrow (N : Nat) (l0 : Nat) (l1 : Int32) (l2 : Int32) (l3 : Int32) (h : zH) : Option (Int32 × zH) := (zgR h 11 (some l0) 2).bind fun x1 => (zck h 4 x1).bind fun q1 => zb2 (f_X4_add N q1 l1 l2 l3 h) fun x2 h1 => if x2 = 0 then some (((-1) : Int32), h1) else (zgR h1 11 (some l0) 2).bind fun x3 => (zgI h1 4 x3 3).bind fun x4 => some (x4, h1)
set_option maxHeartbeats 4000000 in
set_option maxRecDepth 100000 in
theorem s_X11_arrow {g : zG} (hg : g.2.1.map (fun q => q.2) = zty) {h0 : zH} (N : Nat) (l0 : Nat) (l1 : Int32) (l2 : Int32) (l3 : Int32) (h : zH) (r : Int32) (h' : zH) (hf : f_X11_arrow N l0 l1 l2 l3 h = some (r, h')) : zR g jX11_arrow h0 0 [some (zr (some l0)), some (zi l1), some (zi l2), some (zi l3)] [] h (some (zi r)) h' := by
  unfold f_X11_arrow at hf
  refine zr_aload_n (v := .inl (some l0)) dX11_arrow_0 rfl rfl ?_
  revert hf; refine zbi (fun x1 e_x1 hf => ?_)
  refine zq_getR kg_381 dX11_arrow_1 e_x1 ?_
  refine zr_iload_n (x := l1) dX11_arrow_4 rfl rfl ?_
  refine zr_iload_n (x := l2) dX11_arrow_5 rfl rfl ?_
  refine zr_iload_n (x := l3) dX11_arrow_6 rfl rfl ?_
  revert hf; refine zbi (fun q1 e_q1 hf => ?_)
  revert hf; refine zbi2 (fun x2 h1 e_x2 hf => ?_)
  refine zq_callV (J' := jX4_add) (as := [zi l1, zi l2, zi l3]) (rest := []) (r1 := (some (zi x2))) (q := (RX4, TX4, 5)) kw_473 km_X4_add kt_383 dX11_arrow_7 rfl (Nat.le_of_ble_eq_true rfl) rfl rfl e_q1 rfl (c_X4_add hg e_x2) ?_
  by_cases hc1 : x2 = 0
  · rw [if_pos hc1] at hf
    refine zr_ifeq_t (tgt := 23) dX11_arrow_10 (by decide) hc1 ?_
    refine zr_iconst (v := ((-1) : Int32)) dX11_arrow_23 (by decide) ?_
    cases hf
    exact zr_ret _ rfl dX11_arrow_24
  · rw [if_neg hc1] at hf
    refine zr_ifeq_f 23 dX11_arrow_10 (by decide) hc1 ?_
    refine zr_aload_n (v := .inl (some l0)) dX11_arrow_13 rfl rfl ?_
    revert hf; refine zbi (fun x3 e_x3 hf => ?_)
    refine zq_getR kg_381 dX11_arrow_14 e_x3 ?_
    revert hf; refine zbi (fun x4 e_x4 hf => ?_)
    refine zq_getI kg_384 dX11_arrow_17 e_x4 ?_
    refine zr_goto (tgt := 24) dX11_arrow_20 (by decide) ?_
    cases hf
    exact zr_ret _ rfl dX11_arrow_24
theorem c_X11_arrow {g : zG} (hg : g.2.1.map (fun q => q.2) = zty) {N : Nat} {l0 : Nat} {l1 : Int32} {l2 : Int32} {l3 : Int32} {h : zH} {r : Int32} {h' : zH} (hf : f_X11_arrow N l0 l1 l2 l3 h = some (r, h')) : zCa g jX11_arrow [zr (some l0), zi l1, zi l2, zi l3] h (some (zi r)) h' :=
  zCa.of hg (by decide +kernel) (Nat.le_of_ble_eq_true rfl) (s_X11_arrow hg N l0 l1 l2 l3 h r h' hf)
theorem dX11_shoot_0 : decode cX11_shoot 0 = .ok (.aload_n 0, 1) := by decide +kernel
theorem dX11_shoot_1 : decode cX11_shoot 1 = .ok (.getfield 24, 3) := by decide +kernel
theorem dX11_shoot_4 : decode cX11_shoot 4 = .ok (.invokevirtual 148, 3) := by decide +kernel
theorem dX11_shoot_7 : decode cX11_shoot 7 = .ok (.istore_n 2, 1) := by decide +kernel
theorem dX11_shoot_8 : decode cX11_shoot 8 = .ok (.aload_n 0, 1) := by decide +kernel
theorem dX11_shoot_9 : decode cX11_shoot 9 = .ok (.getfield 39, 3) := by decide +kernel
theorem dX11_shoot_12 : decode cX11_shoot 12 = .ok (.iload_n 1, 1) := by decide +kernel
theorem dX11_shoot_13 : decode cX11_shoot 13 = .ok (.invokevirtual 101, 3) := by decide +kernel
theorem dX11_shoot_16 : decode cX11_shoot 16 = .ok (.astore_n 3, 1) := by decide +kernel
theorem dX11_shoot_17 : decode cX11_shoot 17 = .ok (.aload_n 3, 1) := by decide +kernel
theorem dX11_shoot_18 : decode cX11_shoot 18 = .ok (.ifnull 13, 3) := by decide +kernel
theorem dX11_shoot_21 : decode cX11_shoot 21 = .ok (.aload_n 0, 1) := by decide +kernel
theorem dX11_shoot_22 : decode cX11_shoot 22 = .ok (.getfield 39, 3) := by decide +kernel
theorem dX11_shoot_25 : decode cX11_shoot 25 = .ok (.getfield 60, 3) := by decide +kernel
theorem dX11_shoot_28 : decode cX11_shoot 28 = .ok (.ifnonnull 5, 3) := by decide +kernel
theorem dX11_shoot_31 : decode cX11_shoot 31 = .ok (.iconst (-1), 1) := by decide +kernel
theorem dX11_shoot_32 : decode cX11_shoot 32 = .ok (.ireturn, 1) := by decide +kernel
theorem dX11_shoot_33 : decode cX11_shoot 33 = .ok (.aload_n 0, 1) := by decide +kernel
theorem dX11_shoot_34 : decode cX11_shoot 34 = .ok (.getfield 39, 3) := by decide +kernel
theorem dX11_shoot_37 : decode cX11_shoot 37 = .ok (.getfield 60, 3) := by decide +kernel
theorem dX11_shoot_40 : decode cX11_shoot 40 = .ok (.aload_n 3, 1) := by decide +kernel
theorem dX11_shoot_41 : decode cX11_shoot 41 = .ok (.getfield 118, 3) := by decide +kernel
theorem dX11_shoot_44 : decode cX11_shoot 44 = .ok (.invokevirtual 122, 3) := by decide +kernel
theorem dX11_shoot_47 : decode cX11_shoot 47 = .ok (.invokevirtual 151, 3) := by decide +kernel
theorem dX11_shoot_50 : decode cX11_shoot 50 = .ok (.istore 4, 2) := by decide +kernel
theorem dX11_shoot_52 : decode cX11_shoot 52 = .ok (.iload 4, 2) := by decide +kernel
theorem dX11_shoot_54 : decode cX11_shoot 54 = .ok (.iconst (-1), 1) := by decide +kernel
theorem dX11_shoot_55 : decode cX11_shoot 55 = .ok (.if_icmp .ne 5, 3) := by decide +kernel
theorem dX11_shoot_58 : decode cX11_shoot 58 = .ok (.iconst (-1), 1) := by decide +kernel
theorem dX11_shoot_59 : decode cX11_shoot 59 = .ok (.ireturn, 1) := by decide +kernel
theorem dX11_shoot_60 : decode cX11_shoot 60 = .ok (.iload_n 2, 1) := by decide +kernel
theorem dX11_shoot_61 : decode cX11_shoot 61 = .ok (.aload_n 0, 1) := by decide +kernel
theorem dX11_shoot_62 : decode cX11_shoot 62 = .ok (.getfield 39, 3) := by decide +kernel
theorem dX11_shoot_65 : decode cX11_shoot 65 = .ok (.getfield 60, 3) := by decide +kernel
theorem dX11_shoot_68 : decode cX11_shoot 68 = .ok (.iload 4, 2) := by decide +kernel
theorem dX11_shoot_70 : decode cX11_shoot 70 = .ok (.invokevirtual 154, 3) := by decide +kernel
theorem dX11_shoot_73 : decode cX11_shoot 73 = .ok (.if_icmp .eq 6, 3) := by decide +kernel
theorem dX11_shoot_76 : decode cX11_shoot 76 = .ok (.bipush (-2), 2) := by decide +kernel
theorem dX11_shoot_78 : decode cX11_shoot 78 = .ok (.ireturn, 1) := by decide +kernel
theorem dX11_shoot_79 : decode cX11_shoot 79 = .ok (.aload_n 0, 1) := by decide +kernel
theorem dX11_shoot_80 : decode cX11_shoot 80 = .ok (.getfield 24, 3) := by decide +kernel
theorem dX11_shoot_83 : decode cX11_shoot 83 = .ok (.aload_n 0, 1) := by decide +kernel
theorem dX11_shoot_84 : decode cX11_shoot 84 = .ok (.getfield 39, 3) := by decide +kernel
theorem dX11_shoot_87 : decode cX11_shoot 87 = .ok (.getfield 60, 3) := by decide +kernel
theorem dX11_shoot_90 : decode cX11_shoot 90 = .ok (.iload 4, 2) := by decide +kernel
theorem dX11_shoot_92 : decode cX11_shoot 92 = .ok (.iload_n 2, 1) := by decide +kernel
theorem dX11_shoot_93 : decode cX11_shoot 93 = .ok (.invokevirtual 157, 3) := by decide +kernel
theorem dX11_shoot_96 : decode cX11_shoot 96 = .ok (.istore 5, 2) := by decide +kernel
theorem dX11_shoot_98 : decode cX11_shoot 98 = .ok (.iload 5, 2) := by decide +kernel
theorem dX11_shoot_100 : decode cX11_shoot 100 = .ok (.iconst (-1), 1) := by decide +kernel
theorem dX11_shoot_101 : decode cX11_shoot 101 = .ok (.if_icmp .ne 6, 3) := by decide +kernel
theorem dX11_shoot_104 : decode cX11_shoot 104 = .ok (.bipush (-3), 2) := by decide +kernel
theorem dX11_shoot_106 : decode cX11_shoot 106 = .ok (.ireturn, 1) := by decide +kernel
theorem dX11_shoot_107 : decode cX11_shoot 107 = .ok (.aload_n 0, 1) := by decide +kernel
theorem dX11_shoot_108 : decode cX11_shoot 108 = .ok (.invokevirtual 56, 3) := by decide +kernel
theorem dX11_shoot_111 : decode cX11_shoot 111 = .ok (.iload_n 1, 1) := by decide +kernel
theorem dX11_shoot_112 : decode cX11_shoot 112 = .ok (.aload_n 3, 1) := by decide +kernel
theorem dX11_shoot_113 : decode cX11_shoot 113 = .ok (.aload_n 3, 1) := by decide +kernel
theorem dX11_shoot_114 : decode cX11_shoot 114 = .ok (.getfield 118, 3) := by decide +kernel
theorem dX11_shoot_117 : decode cX11_shoot 117 = .ok (.aload_n 0, 1) := by decide +kernel
theorem dX11_shoot_118 : decode cX11_shoot 118 = .ok (.getfield 24, 3) := by decide +kernel
theorem dX11_shoot_121 : decode cX11_shoot 121 = .ok (.getfield 161, 3) := by decide +kernel
theorem dX11_shoot_124 : decode cX11_shoot 124 = .ok (.iload_n 2, 1) := by decide +kernel
theorem dX11_shoot_125 : decode cX11_shoot 125 = .ok (.iload 5, 2) := by decide +kernel
theorem dX11_shoot_127 : decode cX11_shoot 127 = .ok (.invokevirtual 165, 3) := by decide +kernel
theorem dX11_shoot_130 : decode cX11_shoot 130 = .ok (.invokevirtual 169, 3) := by decide +kernel
theorem dX11_shoot_133 : decode cX11_shoot 133 = .ok (.invokevirtual 97, 3) := by decide +kernel
theorem dX11_shoot_136 : decode cX11_shoot 136 = .ok (.iload 5, 2) := by decide +kernel
theorem dX11_shoot_138 : decode cX11_shoot 138 = .ok (.ireturn, 1) := by decide +kernel
def f_X11_shoot (N : Nat) (l0 : Nat) (l1 : Int32) (h : zH) : Option (Int32 × zH) := (zgR h 11 (some l0) 2).bind fun x1 => (zck h 4 x1).bind fun q1 => zb2 (f_X4_empty N q1 h) fun x2 h1 => (zgR h1 11 (some l0) 5).bind fun x3 => (zck h1 9 x3).bind fun q2 => (f_X9_find N q2 l1 h1).bind fun x4 => if x4 = none then some (((-1) : Int32), h1) else (zgR h1 11 (some l0) 5).bind fun x5 => (zgR h1 9 x5 0).bind fun x6 => if x6 = none then some (((-1) : Int32), h1) else (zgR h1 11 (some l0) 5).bind fun x7 => (zgR h1 9 x7 0).bind fun x8 => (zgR h1 0 x4 1).bind fun x9 => (zck h1 8 x9).bind fun q3 => (f_X8_countEnds N q3 h1).bind fun x10 => (zck h1 6 x8).bind fun q4 => (f_X6_legOf N q4 x10 h1).bind fun x11 => if x11 = ((-1) : Int32) then some (((-1) : Int32), h1) else (zgR h1 11 (some l0) 5).bind fun x12 => (zgR h1 9 x12 0).bind fun x13 => (zck h1 6 x13).bind fun q5 => (f_X6_arrowsOf N q5 x11 h1).bind fun x14 => if x2 = x14 then (zgR h1 11 (some l0) 2).bind fun x15 => (zgR h1 11 (some l0) 5).bind fun x16 => (zgR h1 9 x16 0).bind fun x17 => (zck h1 4 x15).bind fun q6 => zb2 (f_X4_judge N q6 x17 x11 x2 h1) fun x18 h2 => if x18 = ((-1) : Int32) then some (((-3) : Int32), h2) else (zck h2 11 (some l0)).bind fun q7 => zb2 (f_X11_change N q7 h2) fun x19 h3 => (zgR h3 0 x4 1).bind fun x20 => (zgR h3 11 (some l0) 2).bind fun x21 => (zgR h3 4 x21 4).bind fun x22 => (zck h3 8 x20).bind fun q8 => zb2 (f_X8_withEnd N q8 x22 x2 x18 h3) fun x23 h4 => (zck h4 0 x4).bind fun q9 => zb2 (f_X0_with N q9 x23 h4) fun x24 h5 => (zck h5 9 x19).bind fun q10 => (f_X9_put N q10 l1 x24 h5).bind fun h6 => some (x18, h6) else some (((-2) : Int32), h1)
set_option maxHeartbeats 4000000 in
set_option maxRecDepth 100000 in
theorem s_X11_shoot {g : zG} (hg : g.2.1.map (fun q => q.2) = zty) {h0 : zH} (N : Nat) (l0 : Nat) (l1 : Int32) (h : zH) (r : Int32) (h' : zH) (hf : f_X11_shoot N l0 l1 h = some (r, h')) : zR g jX11_shoot h0 0 [some (zr (some l0)), some (zi l1), none, none, none, none] [] h (some (zi r)) h' := by
  unfold f_X11_shoot at hf
  refine zr_aload_n (v := .inl (some l0)) dX11_shoot_0 rfl rfl ?_
  revert hf; refine zbi (fun x1 e_x1 hf => ?_)
  refine zq_getR kg_381 dX11_shoot_1 e_x1 ?_
  revert hf; refine zbi (fun q1 e_q1 hf => ?_)
  revert hf; refine zbi2 (fun x2 h1 e_x2 hf => ?_)
  refine zq_callV (J' := jX4_empty) (as := []) (rest := []) (r1 := (some (zi x2))) (q := (RX4, TX4, 5)) kw_478 km_X4_empty kt_386 dX11_shoot_4 rfl (Nat.le_of_ble_eq_true rfl) rfl rfl e_q1 rfl (c_X4_empty hg e_x2) ?_
  refine zq_istore_n (x := x2) (L' := [some (zr (some l0)), some (zi l1), some (zi x2), none, none, none]) dX11_shoot_7 rfl (by decide) rfl ?_
  refine zr_aload_n (v := .inl (some l0)) dX11_shoot_8 rfl rfl ?_
  revert hf; refine zbi (fun x3 e_x3 hf => ?_)
  refine zq_getR kg_332 dX11_shoot_9 e_x3 ?_
  refine zr_iload_n (x := l1) dX11_shoot_12 rfl rfl ?_
  revert hf; refine zbi (fun q2 e_q2 hf => ?_)
  revert hf; refine zbi (fun x4 e_x4 hf => ?_)
  refine zq_callV (J' := jX9_find) (as := [zi l1]) (rest := []) (r1 := (some (zr x4))) (q := (RX9, TX9, 5)) kw_452 km_X9_find kt_387 dX11_shoot_13 rfl (Nat.le_of_ble_eq_true rfl) rfl rfl e_q2 rfl (c_X9_find hg e_x4) ?_
  refine zq_astore_n (v := .inl x4) (L' := [some (zr (some l0)), some (zi l1), some (zi x2), some (zr x4), none, none]) dX11_shoot_16 rfl (by decide) rfl ?_
  refine zr_aload_n (v := .inl x4) dX11_shoot_17 rfl rfl ?_
  by_cases hc1 : x4 = none
  · rw [if_pos hc1] at hf
    refine zr_ifnull_t (tgt := 31) dX11_shoot_18 (by decide) hc1 ?_
    refine zr_iconst (v := ((-1) : Int32)) dX11_shoot_31 (by decide) ?_
    cases hf
    exact zr_ret _ rfl dX11_shoot_32
  · rw [if_neg hc1] at hf
    refine zr_ifnull_f dX11_shoot_18 hc1 ?_
    refine zr_aload_n (v := .inl (some l0)) dX11_shoot_21 rfl rfl ?_
    revert hf; refine zbi (fun x5 e_x5 hf => ?_)
    refine zq_getR kg_332 dX11_shoot_22 e_x5 ?_
    revert hf; refine zbi (fun x6 e_x6 hf => ?_)
    refine zq_getR kg_347 dX11_shoot_25 e_x6 ?_
    by_cases hc2 : x6 = none
    · rw [if_pos hc2] at hf
      refine zr_ifnonnull_f dX11_shoot_28 hc2 ?_
      refine zr_iconst (v := ((-1) : Int32)) dX11_shoot_31 (by decide) ?_
      cases hf
      exact zr_ret _ rfl dX11_shoot_32
    · rw [if_neg hc2] at hf
      refine zr_ifnonnull_t (tgt := 33) dX11_shoot_28 (by decide) hc2 ?_
      refine zr_aload_n (v := .inl (some l0)) dX11_shoot_33 rfl rfl ?_
      revert hf; refine zbi (fun x7 e_x7 hf => ?_)
      refine zq_getR kg_332 dX11_shoot_34 e_x7 ?_
      revert hf; refine zbi (fun x8 e_x8 hf => ?_)
      refine zq_getR kg_347 dX11_shoot_37 e_x8 ?_
      refine zr_aload_n (v := .inl x4) dX11_shoot_40 rfl rfl ?_
      revert hf; refine zbi (fun x9 e_x9 hf => ?_)
      refine zq_getR kg_371 dX11_shoot_41 e_x9 ?_
      revert hf; refine zbi (fun q3 e_q3 hf => ?_)
      revert hf; refine zbi (fun x10 e_x10 hf => ?_)
      refine zq_callV (J' := jX8_countEnds) (as := []) (rest := [zr x8]) (r1 := (some (zi x10))) (q := (RX8, TX8, 3)) kw_460 km_X8_countEnds kt_388 dX11_shoot_44 rfl (Nat.le_of_ble_eq_true rfl) rfl rfl e_q3 rfl (c_X8_countEnds hg e_x10) ?_
      revert hf; refine zbi (fun q4 e_q4 hf => ?_)
      revert hf; refine zbi (fun x11 e_x11 hf => ?_)
      refine zq_callV (J' := jX6_legOf) (as := [zi x10]) (rest := []) (r1 := (some (zi x11))) (q := (RX6, TX6, 11)) kw_482 km_X6_legOf kt_390 dX11_shoot_47 rfl (Nat.le_of_ble_eq_true rfl) rfl rfl e_q4 rfl (c_X6_legOf hg e_x11) ?_
      refine zq_istore (x := x11) (L' := [some (zr (some l0)), some (zi l1), some (zi x2), some (zr x4), some (zi x11), none]) dX11_shoot_50 (by decide) rfl ?_
      refine zr_iload (x := x11) dX11_shoot_52 rfl ?_
      refine zr_iconst (v := ((-1) : Int32)) dX11_shoot_54 (by decide) ?_
      by_cases hc3 : x11 = ((-1) : Int32)
      · rw [if_pos hc3] at hf
        refine zr_icne_f 60 dX11_shoot_55 (by decide) hc3 ?_
        refine zr_iconst (v := ((-1) : Int32)) dX11_shoot_58 (by decide) ?_
        cases hf
        exact zr_ret _ rfl dX11_shoot_59
      · rw [if_neg hc3] at hf
        refine zr_icne_t (tgt := 60) dX11_shoot_55 (by decide) hc3 ?_
        refine zr_iload_n (x := x2) dX11_shoot_60 rfl rfl ?_
        refine zr_aload_n (v := .inl (some l0)) dX11_shoot_61 rfl rfl ?_
        revert hf; refine zbi (fun x12 e_x12 hf => ?_)
        refine zq_getR kg_332 dX11_shoot_62 e_x12 ?_
        revert hf; refine zbi (fun x13 e_x13 hf => ?_)
        refine zq_getR kg_347 dX11_shoot_65 e_x13 ?_
        refine zr_iload (x := x11) dX11_shoot_68 rfl ?_
        revert hf; refine zbi (fun q5 e_q5 hf => ?_)
        revert hf; refine zbi (fun x14 e_x14 hf => ?_)
        refine zq_callV (J' := jX6_arrowsOf) (as := [zi x11]) (rest := [zi x2]) (r1 := (some (zi x14))) (q := (RX6, TX6, 11)) kw_486 km_X6_arrowsOf kt_392 dX11_shoot_70 rfl (Nat.le_of_ble_eq_true rfl) rfl rfl e_q5 rfl (c_X6_arrowsOf hg e_x14) ?_
        by_cases hc4 : x2 = x14
        · rw [if_pos hc4] at hf
          refine zr_iceq_t (tgt := 79) dX11_shoot_73 (by decide) hc4 ?_
          refine zr_aload_n (v := .inl (some l0)) dX11_shoot_79 rfl rfl ?_
          revert hf; refine zbi (fun x15 e_x15 hf => ?_)
          refine zq_getR kg_381 dX11_shoot_80 e_x15 ?_
          refine zr_aload_n (v := .inl (some l0)) dX11_shoot_83 rfl rfl ?_
          revert hf; refine zbi (fun x16 e_x16 hf => ?_)
          refine zq_getR kg_332 dX11_shoot_84 e_x16 ?_
          revert hf; refine zbi (fun x17 e_x17 hf => ?_)
          refine zq_getR kg_347 dX11_shoot_87 e_x17 ?_
          refine zr_iload (x := x11) dX11_shoot_90 rfl ?_
          refine zr_iload_n (x := x2) dX11_shoot_92 rfl rfl ?_
          revert hf; refine zbi (fun q6 e_q6 hf => ?_)
          revert hf; refine zbi2 (fun x18 h2 e_x18 hf => ?_)
          refine zq_callV (J' := jX4_judge) (as := [zr x17, zi x11, zi x2]) (rest := []) (r1 := (some (zi x18))) (q := (RX4, TX4, 5)) kw_490 km_X4_judge kt_394 dX11_shoot_93 rfl (Nat.le_of_ble_eq_true rfl) rfl rfl e_q6 rfl (c_X4_judge hg e_x18) ?_
          refine zq_istore (x := x18) (L' := [some (zr (some l0)), some (zi l1), some (zi x2), some (zr x4), some (zi x11), some (zi x18)]) dX11_shoot_96 (by decide) rfl ?_
          refine zr_iload (x := x18) dX11_shoot_98 rfl ?_
          refine zr_iconst (v := ((-1) : Int32)) dX11_shoot_100 (by decide) ?_
          by_cases hc5 : x18 = ((-1) : Int32)
          · rw [if_pos hc5] at hf
            refine zr_icne_f 107 dX11_shoot_101 (by decide) hc5 ?_
            refine zr_bipush (v := ((-3) : Int32)) dX11_shoot_104 (by decide) ?_
            cases hf
            exact zr_ret _ rfl dX11_shoot_106
          · rw [if_neg hc5] at hf
            refine zr_icne_t (tgt := 107) dX11_shoot_101 (by decide) hc5 ?_
            refine zr_aload_n (v := .inl (some l0)) dX11_shoot_107 rfl rfl ?_
            revert hf; refine zbi (fun q7 e_q7 hf => ?_)
            revert hf; refine zbi2 (fun x19 h3 e_x19 hf => ?_)
            refine zq_callV (J' := jX11_change) (as := []) (rest := []) (r1 := (some (zr x19))) (q := (RX11, TX11, 6)) kw_420 km_X11_change kt_395 dX11_shoot_108 rfl (Nat.le_of_ble_eq_true rfl) rfl rfl e_q7 rfl (c_X11_change hg e_x19) ?_
            refine zr_iload_n (x := l1) dX11_shoot_111 rfl rfl ?_
            refine zr_aload_n (v := .inl x4) dX11_shoot_112 rfl rfl ?_
            refine zr_aload_n (v := .inl x4) dX11_shoot_113 rfl rfl ?_
            revert hf; refine zbi (fun x20 e_x20 hf => ?_)
            refine zq_getR kg_371 dX11_shoot_114 e_x20 ?_
            refine zr_aload_n (v := .inl (some l0)) dX11_shoot_117 rfl rfl ?_
            revert hf; refine zbi (fun x21 e_x21 hf => ?_)
            refine zq_getR kg_381 dX11_shoot_118 e_x21 ?_
            revert hf; refine zbi (fun x22 e_x22 hf => ?_)
            refine zq_getR kg_396 dX11_shoot_121 e_x22 ?_
            refine zr_iload_n (x := x2) dX11_shoot_124 rfl rfl ?_
            refine zr_iload (x := x18) dX11_shoot_125 rfl ?_
            revert hf; refine zbi (fun q8 e_q8 hf => ?_)
            revert hf; refine zbi2 (fun x23 h4 e_x23 hf => ?_)
            refine zq_callV (J' := jX8_withEnd) (as := [zr x22, zi x2, zi x18]) (rest := [zr x4, zi l1, zr x19]) (r1 := (some (zr x23))) (q := (RX8, TX8, 3)) kw_495 km_X8_withEnd kt_398 dX11_shoot_127 rfl (Nat.le_of_ble_eq_true rfl) rfl rfl e_q8 rfl (c_X8_withEnd hg e_x23) ?_
            revert hf; refine zbi (fun q9 e_q9 hf => ?_)
            revert hf; refine zbi2 (fun x24 h5 e_x24 hf => ?_)
            refine zq_callV (J' := jX0_with) (as := [zr x23]) (rest := [zi l1, zr x19]) (r1 := (some (zr x24))) (q := (RX0, TX0, 3)) kw_499 km_X0_with kt_399 dX11_shoot_130 rfl (Nat.le_of_ble_eq_true rfl) rfl rfl e_q9 rfl (c_X0_with hg e_x24) ?_
            revert hf; refine zbi (fun q10 e_q10 hf => ?_)
            revert hf; refine zbi (fun h6 e_h6 hf => ?_)
            refine zq_callV (J' := jX9_put) (as := [zi l1, zr x24]) (rest := []) (r1 := none) (q := (RX9, TX9, 5)) kw_448 km_X9_put kt_400 dX11_shoot_133 rfl (Nat.le_of_ble_eq_true rfl) rfl rfl e_q10 rfl (c_X9_put hg e_h6) ?_
            refine zr_iload (x := x18) dX11_shoot_136 rfl ?_
            cases hf
            exact zr_ret _ rfl dX11_shoot_138
        · rw [if_neg hc4] at hf
          refine zr_iceq_f 79 dX11_shoot_73 (by decide) hc4 ?_
          refine zr_bipush (v := ((-2) : Int32)) dX11_shoot_76 (by decide) ?_
          cases hf
          exact zr_ret _ rfl dX11_shoot_78
theorem c_X11_shoot {g : zG} (hg : g.2.1.map (fun q => q.2) = zty) {N : Nat} {l0 : Nat} {l1 : Int32} {h : zH} {r : Int32} {h' : zH} (hf : f_X11_shoot N l0 l1 h = some (r, h')) : zCa g jX11_shoot [zr (some l0), zi l1] h (some (zi r)) h' :=
  zCa.of hg (by decide +kernel) (Nat.le_of_ble_eq_true rfl) (s_X11_shoot hg N l0 l1 h r h' hf)
