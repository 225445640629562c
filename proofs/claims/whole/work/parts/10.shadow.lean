theorem dX0_init_0 : decode cX0_init 0 = .ok (.aload_n 0, 1) := by decide +kernel
theorem dX0_init_1 : decode cX0_init 1 = .ok (.invokespecial 1, 3) := by decide +kernel
theorem dX0_init_4 : decode cX0_init 4 = .ok (.aload_n 0, 1) := by decide +kernel
theorem dX0_init_5 : decode cX0_init 5 = .ok (.iload_n 1, 1) := by decide +kernel
theorem dX0_init_6 : decode cX0_init 6 = .ok (.putfield 7, 3) := by decide +kernel
theorem dX0_init_9 : decode cX0_init 9 = .ok (.aload_n 0, 1) := by decide +kernel
theorem dX0_init_10 : decode cX0_init 10 = .ok (.aload_n 2, 1) := by decide +kernel
theorem dX0_init_11 : decode cX0_init 11 = .ok (.putfield 13, 3) := by decide +kernel
theorem dX0_init_14 : decode cX0_init 14 = .ok (.aload_n 0, 1) := by decide +kernel
theorem dX0_init_15 : decode cX0_init 15 = .ok (.aload_n 3, 1) := by decide +kernel
theorem dX0_init_16 : decode cX0_init 16 = .ok (.putfield 17, 3) := by decide +kernel
theorem dX0_init_19 : decode cX0_init 19 = .ok (.return_, 1) := by decide +kernel
def f_X0_init (N : Nat) (l0 : Nat) (l1 : Int32) (l2 : Option Nat) (l3 : Option Nat) (h : zH) : Option zH := (zpu h 0 (some l0) 0 (zi l1)).bind fun h1 => (zpu h1 0 (some l0) 1 (zr l2)).bind fun h2 => (zpu h2 0 (some l0) 2 (zr l3)).bind fun h3 => some h3
set_option maxHeartbeats 4000000 in
set_option maxRecDepth 100000 in
theorem s_X0_init {g : zG} (hg : g.2.1.map (fun q => q.2) = zty) {h0 : zH} (N : Nat) (l0 : Nat) (l1 : Int32) (l2 : Option Nat) (l3 : Option Nat) (h : zH) (h' : zH) (hf : f_X0_init N l0 l1 l2 l3 h = some h') : zR g jX0_init h0 0 [some (zr (some l0)), some (zi l1), some (zr l2), some (zr l3)] [] h none h' := by
  unfold f_X0_init at hf
  refine zr_aload_n (v := .inl (some l0)) dX0_init_0 rfl rfl ?_
  refine zr_objInit kw_0 kw_1 kw_2 ⟨Nat.le_of_ble_eq_true rfl, Nat.le_of_ble_eq_true rfl⟩ dX0_init_1 ?_
  refine zr_aload_n (v := .inl (some l0)) dX0_init_4 rfl rfl ?_
  refine zr_iload_n (x := l1) dX0_init_5 rfl rfl ?_
  revert hf; refine zbi (fun h1 e_h1 hf => ?_)
  refine zq_put kp_0 dX0_init_6 (zn_i _) e_h1 ?_
  refine zr_aload_n (v := .inl (some l0)) dX0_init_9 rfl rfl ?_
  refine zr_aload_n (v := .inl l2) dX0_init_10 rfl rfl ?_
  revert hf; refine zbi (fun h2 e_h2 hf => ?_)
  refine zq_put kp_1 dX0_init_11 (zn_o _ _) e_h2 ?_
  refine zr_aload_n (v := .inl (some l0)) dX0_init_14 rfl rfl ?_
  refine zr_aload_n (v := .inl l3) dX0_init_15 rfl rfl ?_
  revert hf; refine zbi (fun h3 e_h3 hf => ?_)
  refine zq_put kp_2 dX0_init_16 (zn_o _ _) e_h3 ?_
  cases hf
  exact zr_ret none trivial dX0_init_19
theorem c_X0_init {g : zG} (hg : g.2.1.map (fun q => q.2) = zty) {N : Nat} {l0 : Nat} {l1 : Int32} {l2 : Option Nat} {l3 : Option Nat} {h : zH} {h' : zH} (hf : f_X0_init N l0 l1 l2 l3 h = some h') : zCa g jX0_init [zr (some l0), zi l1, zr l2, zr l3] h none h' :=
  zCa.of hg (by decide +kernel) (Nat.le_of_ble_eq_true rfl) (s_X0_init hg N l0 l1 l2 l3 h h' hf)
theorem dX0_with_0 : decode cX0_with 0 = .ok (.new 8, 3) := by decide +kernel
theorem dX0_with_3 : decode cX0_with 3 = .ok (.dup, 1) := by decide +kernel
theorem dX0_with_4 : decode cX0_with 4 = .ok (.aload_n 0, 1) := by decide +kernel
theorem dX0_with_5 : decode cX0_with 5 = .ok (.getfield 7, 3) := by decide +kernel
theorem dX0_with_8 : decode cX0_with 8 = .ok (.aload_n 1, 1) := by decide +kernel
theorem dX0_with_9 : decode cX0_with 9 = .ok (.aload_n 0, 1) := by decide +kernel
theorem dX0_with_10 : decode cX0_with 10 = .ok (.getfield 17, 3) := by decide +kernel
theorem dX0_with_13 : decode cX0_with 13 = .ok (.invokespecial 21, 3) := by decide +kernel
theorem dX0_with_16 : decode cX0_with 16 = .ok (.areturn, 1) := by decide +kernel
def f_X0_with (N : Nat) (l0 : Nat) (l1 : Option Nat) (h : zH) : Option ((Option Nat) × zH) := znw h (.inr (0, [zi 0, zr none, zr none])) fun a1 h1 => (zgI h1 0 (some l0) 0).bind fun x1 => (zgR h1 0 (some l0) 2).bind fun x2 => (f_X0_init N a1 x1 l1 x2 h1).bind fun h2 => some ((some a1), h2)
set_option maxHeartbeats 4000000 in
set_option maxRecDepth 100000 in
theorem s_X0_with {g : zG} (hg : g.2.1.map (fun q => q.2) = zty) {h0 : zH} (N : Nat) (l0 : Nat) (l1 : Option Nat) (h : zH) (r : Option Nat) (h' : zH) (hf : f_X0_with N l0 l1 h = some (r, h')) : zR g jX0_with h0 0 [some (zr (some l0)), some (zr l1)] [] h (some (zr r)) h' := by
  unfold f_X0_with at hf
  obtain ⟨a1, h1, e_a1, e_h1, hf⟩ := znw_spec hf
  refine zq_new kn_3 dX0_with_0 e_a1 e_h1 ?_
  refine zr_dup dX0_with_3 ?_
  refine zr_aload_n (v := .inl (some l0)) dX0_with_4 rfl rfl ?_
  revert hf; refine zbi (fun x1 e_x1 hf => ?_)
  refine zq_getI kg_4 dX0_with_5 e_x1 ?_
  refine zr_aload_n (v := .inl l1) dX0_with_8 rfl rfl ?_
  refine zr_aload_n (v := .inl (some l0)) dX0_with_9 rfl rfl ?_
  revert hf; refine zbi (fun x2 e_x2 hf => ?_)
  refine zq_getR kg_5 dX0_with_10 e_x2 ?_
  revert hf; refine zbi (fun h2 e_h2 hf => ?_)
  refine zq_callI (J' := jX0_init) (as := [zi x1, zr l1, zr x2]) (rest := [zr (some a1)]) (r1 := none) (a := a1) kw_9 km_X0_init kt_7 dX0_with_13 rfl (Nat.le_of_ble_eq_true rfl) rfl (c_X0_init hg e_h2) ?_
  cases hf
  exact zr_ret _ (Or.inl ⟨_, rfl⟩) dX0_with_16
theorem c_X0_with {g : zG} (hg : g.2.1.map (fun q => q.2) = zty) {N : Nat} {l0 : Nat} {l1 : Option Nat} {h : zH} {r : Option Nat} {h' : zH} (hf : f_X0_with N l0 l1 h = some (r, h')) : zCa g jX0_with [zr (some l0), zr l1] h (some (zr r)) h' :=
  zCa.of hg (by decide +kernel) (Nat.le_of_ble_eq_true rfl) (s_X0_with hg N l0 l1 h r h' hf)
theorem dX0_with__0 : decode cX0_with_ 0 = .ok (.new 8, 3) := by decide +kernel
theorem dX0_with__3 : decode cX0_with_ 3 = .ok (.dup, 1) := by decide +kernel
theorem dX0_with__4 : decode cX0_with_ 4 = .ok (.aload_n 0, 1) := by decide +kernel
theorem dX0_with__5 : decode cX0_with_ 5 = .ok (.getfield 7, 3) := by decide +kernel
theorem dX0_with__8 : decode cX0_with_ 8 = .ok (.aload_n 0, 1) := by decide +kernel
theorem dX0_with__9 : decode cX0_with_ 9 = .ok (.getfield 13, 3) := by decide +kernel
theorem dX0_with__12 : decode cX0_with_ 12 = .ok (.aload_n 1, 1) := by decide +kernel
theorem dX0_with__13 : decode cX0_with_ 13 = .ok (.invokespecial 21, 3) := by decide +kernel
theorem dX0_with__16 : decode cX0_with_ 16 = .ok (.areturn, 1) := by decide +kernel
def f_X0_with_ (N : Nat) (l0 : Nat) (l1 : Option Nat) (h : zH) : Option ((Option Nat) × zH) := znw h (.inr (0, [zi 0, zr none, zr none])) fun a1 h1 => (zgI h1 0 (some l0) 0).bind fun x1 => (zgR h1 0 (some l0) 1).bind fun x2 => (f_X0_init N a1 x1 x2 l1 h1).bind fun h2 => some ((some a1), h2)
set_option maxHeartbeats 4000000 in
set_option maxRecDepth 100000 in
theorem s_X0_with_ {g : zG} (hg : g.2.1.map (fun q => q.2) = zty) {h0 : zH} (N : Nat) (l0 : Nat) (l1 : Option Nat) (h : zH) (r : Option Nat) (h' : zH) (hf : f_X0_with_ N l0 l1 h = some (r, h')) : zR g jX0_with_ h0 0 [some (zr (some l0)), some (zr l1)] [] h (some (zr r)) h' := by
  unfold f_X0_with_ at hf
  obtain ⟨a1, h1, e_a1, e_h1, hf⟩ := znw_spec hf
  refine zq_new kn_3 dX0_with__0 e_a1 e_h1 ?_
  refine zr_dup dX0_with__3 ?_
  refine zr_aload_n (v := .inl (some l0)) dX0_with__4 rfl rfl ?_
  revert hf; refine zbi (fun x1 e_x1 hf => ?_)
  refine zq_getI kg_4 dX0_with__5 e_x1 ?_
  refine zr_aload_n (v := .inl (some l0)) dX0_with__8 rfl rfl ?_
  revert hf; refine zbi (fun x2 e_x2 hf => ?_)
  refine zq_getR kg_8 dX0_with__9 e_x2 ?_
  refine zr_aload_n (v := .inl l1) dX0_with__12 rfl rfl ?_
  revert hf; refine zbi (fun h2 e_h2 hf => ?_)
  refine zq_callI (J' := jX0_init) (as := [zi x1, zr x2, zr l1]) (rest := [zr (some a1)]) (r1 := none) (a := a1) kw_9 km_X0_init kt_9 dX0_with__13 rfl (Nat.le_of_ble_eq_true rfl) rfl (c_X0_init hg e_h2) ?_
  cases hf
  exact zr_ret _ (Or.inl ⟨_, rfl⟩) dX0_with__16
theorem c_X0_with_ {g : zG} (hg : g.2.1.map (fun q => q.2) = zty) {N : Nat} {l0 : Nat} {l1 : Option Nat} {h : zH} {r : Option Nat} {h' : zH} (hf : f_X0_with_ N l0 l1 h = some (r, h')) : zCa g jX0_with_ [zr (some l0), zr l1] h (some (zr r)) h' :=
  zCa.of hg (by decide +kernel) (Nat.le_of_ble_eq_true rfl) (s_X0_with_ hg N l0 l1 h r h' hf)
theorem dX1_init__0 : decode cX1_init_ 0 = .ok (.aload_n 0, 1) := by decide +kernel
theorem dX1_init__1 : decode cX1_init_ 1 = .ok (.invokespecial 7, 3) := by decide +kernel
theorem dX1_init__4 : decode cX1_init_ 4 = .ok (.aload_n 0, 1) := by decide +kernel
theorem dX1_init__5 : decode cX1_init_ 5 = .ok (.aload_n 1, 1) := by decide +kernel
theorem dX1_init__6 : decode cX1_init_ 6 = .ok (.putfield 12, 3) := by decide +kernel
theorem dX1_init__9 : decode cX1_init_ 9 = .ok (.return_, 1) := by decide +kernel
def f_X1_init_ (N : Nat) (l0 : Nat) (l1 : Option Nat) (h : zH) : Option zH := (zpu h 1 (some l0) 0 (zr l1)).bind fun h1 => some h1
set_option maxHeartbeats 4000000 in
set_option maxRecDepth 100000 in
theorem s_X1_init_ {g : zG} (hg : g.2.1.map (fun q => q.2) = zty) {h0 : zH} (N : Nat) (l0 : Nat) (l1 : Option Nat) (h : zH) (h' : zH) (hf : f_X1_init_ N l0 l1 h = some h') : zR g jX1_init_ h0 0 [some (zr (some l0)), some (zr l1)] [] h none h' := by
  unfold f_X1_init_ at hf
  refine zr_aload_n (v := .inl (some l0)) dX1_init__0 rfl rfl ?_
  refine zr_objInit kw_12 kw_1 kw_2 ⟨Nat.le_of_ble_eq_true rfl, Nat.le_of_ble_eq_true rfl⟩ dX1_init__1 ?_
  refine zr_aload_n (v := .inl (some l0)) dX1_init__4 rfl rfl ?_
  refine zr_aload_n (v := .inl l1) dX1_init__5 rfl rfl ?_
  revert hf; refine zbi (fun h1 e_h1 hf => ?_)
  refine zq_put kp_10 dX1_init__6 (zn_a _ _) e_h1 ?_
  cases hf
  exact zr_ret none trivial dX1_init__9
theorem c_X1_init_ {g : zG} (hg : g.2.1.map (fun q => q.2) = zty) {N : Nat} {l0 : Nat} {l1 : Option Nat} {h : zH} {h' : zH} (hf : f_X1_init_ N l0 l1 h = some h') : zCa g jX1_init_ [zr (some l0), zr l1] h none h' :=
  zCa.of hg (by decide +kernel) (Nat.le_of_ble_eq_true rfl) (s_X1_init_ hg N l0 l1 h h' hf)
theorem dX1_init_0 : decode cX1_init 0 = .ok (.aload_n 0, 1) := by decide +kernel
theorem dX1_init_1 : decode cX1_init 1 = .ok (.iconst 0, 1) := by decide +kernel
theorem dX1_init_2 : decode cX1_init 2 = .ok (.newarray .int, 2) := by decide +kernel
theorem dX1_init_4 : decode cX1_init 4 = .ok (.invokespecial 1, 3) := by decide +kernel
theorem dX1_init_7 : decode cX1_init 7 = .ok (.return_, 1) := by decide +kernel
def f_X1_init (N : Nat) (l0 : Nat) (h : zH) : Option zH := zna h 0 (0 : Int32) fun a1 h1 => (f_X1_init_ N l0 (some a1) h1).bind fun h2 => some h2
set_option maxHeartbeats 4000000 in
set_option maxRecDepth 100000 in
theorem s_X1_init {g : zG} (hg : g.2.1.map (fun q => q.2) = zty) {h0 : zH} (N : Nat) (l0 : Nat) (h : zH) (h' : zH) (hf : f_X1_init N l0 h = some h') : zR g jX1_init h0 0 [some (zr (some l0))] [] h none h' := by
  unfold f_X1_init at hf
  refine zr_aload_n (v := .inl (some l0)) dX1_init_0 rfl rfl ?_
  refine zr_iconst (v := (0 : Int32)) dX1_init_1 (by decide) ?_
  obtain ⟨a1, h1, e_a1, hf⟩ := zna_spec hf
  refine zq_newa (atype := .int) (t := 0) kw_14 rfl (fun _ _ => rfl) (by decide) dX1_init_2 e_a1 ?_
  revert hf; refine zbi (fun h2 e_h2 hf => ?_)
  refine zq_callI (J' := jX1_init_) (as := [zr (some a1)]) (rest := []) (r1 := none) (a := l0) kw_15 km_X1_init_ kt_12 dX1_init_4 rfl (Nat.le_of_ble_eq_true rfl) rfl (c_X1_init_ hg e_h2) ?_
  cases hf
  exact zr_ret none trivial dX1_init_7
theorem c_X1_init {g : zG} (hg : g.2.1.map (fun q => q.2) = zty) {N : Nat} {l0 : Nat} {h : zH} {h' : zH} (hf : f_X1_init N l0 h = some h') : zCa g jX1_init [zr (some l0)] h none h' :=
  zCa.of hg (by decide +kernel) (Nat.le_of_ble_eq_true rfl) (s_X1_init hg N l0 h h' hf)
theorem dX1_count_0 : decode cX1_count 0 = .ok (.aload_n 0, 1) := by decide +kernel
theorem dX1_count_1 : decode cX1_count 1 = .ok (.getfield 12, 3) := by decide +kernel
theorem dX1_count_4 : decode cX1_count 4 = .ok (.arraylength, 1) := by decide +kernel
theorem dX1_count_5 : decode cX1_count 5 = .ok (.iconst 3, 1) := by decide +kernel
theorem dX1_count_6 : decode cX1_count 6 = .ok (.idiv, 1) := by decide +kernel
theorem dX1_count_7 : decode cX1_count 7 = .ok (.ireturn, 1) := by decide +kernel
def f_X1_count (N : Nat) (l0 : Nat) (h : zH) : Option Int32 := (zgR h 1 (some l0) 0).bind fun x1 => (zlen h x1).bind fun x2 => some (x2 / (3 : Int32))
set_option maxHeartbeats 4000000 in
set_option maxRecDepth 100000 in
theorem s_X1_count {g : zG} (hg : g.2.1.map (fun q => q.2) = zty) {h0 : zH} (N : Nat) (l0 : Nat) (h : zH) (r : Int32) (hf : f_X1_count N l0 h = some r) : zR g jX1_count h0 0 [some (zr (some l0))] [] h (some (zi r)) h := by
  unfold f_X1_count at hf
  refine zr_aload_n (v := .inl (some l0)) dX1_count_0 rfl rfl ?_
  revert hf; refine zbi (fun x1 e_x1 hf => ?_)
  refine zq_getR kg_13 dX1_count_1 e_x1 ?_
  revert hf; refine zbi (fun x2 e_x2 hf => ?_)
  refine zq_alen dX1_count_4 e_x2 ?_
  refine zr_iconst (v := (3 : Int32)) dX1_count_5 (by decide) ?_
  refine zr_idiv (by decide) dX1_count_6 ?_
  cases hf
  exact zr_ret _ rfl dX1_count_7
theorem c_X1_count {g : zG} (hg : g.2.1.map (fun q => q.2) = zty) {N : Nat} {l0 : Nat} {h : zH} {r : Int32} (hf : f_X1_count N l0 h = some r) : zCa g jX1_count [zr (some l0)] h (some (zi r)) h :=
  zCa.of hg (by decide +kernel) (Nat.le_of_ble_eq_true rfl) (s_X1_count hg N l0 h r hf)
theorem dX1_canAdd_0 : decode cX1_canAdd 0 = .ok (.iload_n 1, 1) := by decide +kernel
theorem dX1_canAdd_1 : decode cX1_canAdd 1 = .ok (.iconst 1, 1) := by decide +kernel
theorem dX1_canAdd_2 : decode cX1_canAdd 2 = .ok (.if_icmp .lt 13, 3) := by decide +kernel
theorem dX1_canAdd_5 : decode cX1_canAdd 5 = .ok (.iload_n 1, 1) := by decide +kernel
theorem dX1_canAdd_6 : decode cX1_canAdd 6 = .ok (.bipush 9, 2) := by decide +kernel
theorem dX1_canAdd_8 : decode cX1_canAdd 8 = .ok (.if_icmp .gt 7, 3) := by decide +kernel
theorem dX1_canAdd_11 : decode cX1_canAdd 11 = .ok (.iconst 1, 1) := by decide +kernel
theorem dX1_canAdd_12 : decode cX1_canAdd 12 = .ok (.goto 4, 3) := by decide +kernel
theorem dX1_canAdd_15 : decode cX1_canAdd 15 = .ok (.iconst 0, 1) := by decide +kernel
theorem dX1_canAdd_16 : decode cX1_canAdd 16 = .ok (.istore_n 3, 1) := by decide +kernel
theorem dX1_canAdd_17 : decode cX1_canAdd 17 = .ok (.aload_n 0, 1) := by decide +kernel
theorem dX1_canAdd_18 : decode cX1_canAdd 18 = .ok (.invokevirtual 16, 3) := by decide +kernel
theorem dX1_canAdd_21 : decode cX1_canAdd 21 = .ok (.bipush 6, 2) := by decide +kernel
theorem dX1_canAdd_23 : decode cX1_canAdd 23 = .ok (.if_icmp .ge 21, 3) := by decide +kernel
theorem dX1_canAdd_26 : decode cX1_canAdd 26 = .ok (.iload_n 3, 1) := by decide +kernel
theorem dX1_canAdd_27 : decode cX1_canAdd 27 = .ok (.ifCond .eq 17, 3) := by decide +kernel
theorem dX1_canAdd_30 : decode cX1_canAdd 30 = .ok (.iload_n 2, 1) := by decide +kernel
theorem dX1_canAdd_31 : decode cX1_canAdd 31 = .ok (.iconst 1, 1) := by decide +kernel
theorem dX1_canAdd_32 : decode cX1_canAdd 32 = .ok (.if_icmp .lt 12, 3) := by decide +kernel
theorem dX1_canAdd_35 : decode cX1_canAdd 35 = .ok (.iload_n 2, 1) := by decide +kernel
theorem dX1_canAdd_36 : decode cX1_canAdd 36 = .ok (.iconst 5, 1) := by decide +kernel
theorem dX1_canAdd_37 : decode cX1_canAdd 37 = .ok (.if_icmp .gt 7, 3) := by decide +kernel
theorem dX1_canAdd_40 : decode cX1_canAdd 40 = .ok (.iconst 1, 1) := by decide +kernel
theorem dX1_canAdd_41 : decode cX1_canAdd 41 = .ok (.goto 4, 3) := by decide +kernel
theorem dX1_canAdd_44 : decode cX1_canAdd 44 = .ok (.iconst 0, 1) := by decide +kernel
theorem dX1_canAdd_45 : decode cX1_canAdd 45 = .ok (.ireturn, 1) := by decide +kernel
def f_X1_canAdd_16 (N : Nat) (l0 : Nat) (l2 : Int32) (s0 : Int32) (h : zH) : Option Int32 := (zck h 1 (some l0)).bind fun q1 => (f_X1_count N q1 h).bind fun x1 => if (6 : Int32) ≤ x1 then some (0 : Int32) else if s0 = 0 then some (0 : Int32) else if l2 < (1 : Int32) then some (0 : Int32) else if (5 : Int32) < l2 then some (0 : Int32) else some (1 : Int32)
set_option maxHeartbeats 4000000 in
set_option maxRecDepth 100000 in
theorem s_X1_canAdd_16 {g : zG} (hg : g.2.1.map (fun q => q.2) = zty) {h0 : zH} (N : Nat) (l0 : Nat) (l2 : Int32) (s0 : Int32) (h : zH) (r : Int32) (hf : f_X1_canAdd_16 N l0 l2 s0 h = some r) : zR g jX1_canAdd h0 16 [some (zr (some l0)), none, some (zi l2), none] [zi s0] h (some (zi r)) h := by
  unfold f_X1_canAdd_16 at hf
  refine zq_istore_n (x := s0) (L' := [some (zr (some l0)), none, some (zi l2), some (zi s0)]) dX1_canAdd_16 rfl (by decide) rfl ?_
  refine zr_aload_n (v := .inl (some l0)) dX1_canAdd_17 rfl rfl ?_
  revert hf; refine zbi (fun q1 e_q1 hf => ?_)
  revert hf; refine zbi (fun x1 e_x1 hf => ?_)
  refine zq_callV (J' := jX1_count) (as := []) (rest := []) (r1 := (some (zi x1))) (q := (RX1, TX1, 1)) kw_19 km_X1_count kt_15 dX1_canAdd_18 rfl (Nat.le_of_ble_eq_true rfl) rfl rfl e_q1 rfl (c_X1_count hg e_x1) ?_
  refine zr_bipush (v := (6 : Int32)) dX1_canAdd_21 (by decide) ?_
  by_cases hc1 : (6 : Int32) ≤ x1
  · rw [if_pos hc1] at hf
    refine zr_icge_t (tgt := 44) dX1_canAdd_23 (by decide) hc1 ?_
    refine zr_iconst (v := (0 : Int32)) dX1_canAdd_44 (by decide) ?_
    cases hf
    exact zr_ret _ rfl dX1_canAdd_45
  · rw [if_neg hc1] at hf
    refine zr_icge_f 44 dX1_canAdd_23 (by decide) hc1 ?_
    refine zr_iload_n (x := s0) dX1_canAdd_26 rfl rfl ?_
    by_cases hc2 : s0 = 0
    · rw [if_pos hc2] at hf
      refine zr_ifeq_t (tgt := 44) dX1_canAdd_27 (by decide) hc2 ?_
      refine zr_iconst (v := (0 : Int32)) dX1_canAdd_44 (by decide) ?_
      cases hf
      exact zr_ret _ rfl dX1_canAdd_45
    · rw [if_neg hc2] at hf
      refine zr_ifeq_f 44 dX1_canAdd_27 (by decide) hc2 ?_
      refine zr_iload_n (x := l2) dX1_canAdd_30 rfl rfl ?_
      refine zr_iconst (v := (1 : Int32)) dX1_canAdd_31 (by decide) ?_
      by_cases hc3 : l2 < (1 : Int32)
      · rw [if_pos hc3] at hf
        refine zr_iclt_t (tgt := 44) dX1_canAdd_32 (by decide) hc3 ?_
        refine zr_iconst (v := (0 : Int32)) dX1_canAdd_44 (by decide) ?_
        cases hf
        exact zr_ret _ rfl dX1_canAdd_45
      · rw [if_neg hc3] at hf
        refine zr_iclt_f 44 dX1_canAdd_32 (by decide) hc3 ?_
        refine zr_iload_n (x := l2) dX1_canAdd_35 rfl rfl ?_
        refine zr_iconst (v := (5 : Int32)) dX1_canAdd_36 (by decide) ?_
        by_cases hc4 : (5 : Int32) < l2
        · rw [if_pos hc4] at hf
          refine zr_icgt_t (tgt := 44) dX1_canAdd_37 (by decide) hc4 ?_
          refine zr_iconst (v := (0 : Int32)) dX1_canAdd_44 (by decide) ?_
          cases hf
          exact zr_ret _ rfl dX1_canAdd_45
        · rw [if_neg hc4] at hf
          refine zr_icgt_f 44 dX1_canAdd_37 (by decide) hc4 ?_
          refine zr_iconst (v := (1 : Int32)) dX1_canAdd_40 (by decide) ?_
          refine zr_goto (tgt := 45) dX1_canAdd_41 (by decide) ?_
          cases hf
          exact zr_ret _ rfl dX1_canAdd_45
def f_X1_canAdd_15 (N : Nat) (l0 : Nat) (l2 : Int32) (h : zH) : Option Int32 := f_X1_canAdd_16 N l0 l2 (0 : Int32) h
set_option maxHeartbeats 4000000 in
set_option maxRecDepth 100000 in
theorem s_X1_canAdd_15 {g : zG} (hg : g.2.1.map (fun q => q.2) = zty) {h0 : zH} (N : Nat) (l0 : Nat) (l2 : Int32) (h : zH) (r : Int32) (hf : f_X1_canAdd_15 N l0 l2 h = some r) : zR g jX1_canAdd h0 15 [some (zr (some l0)), none, some (zi l2), none] [] h (some (zi r)) h := by
  unfold f_X1_canAdd_15 at hf
  refine zr_iconst (v := (0 : Int32)) dX1_canAdd_15 (by decide) ?_
  exact s_X1_canAdd_16 hg N l0 l2 (0 : Int32) h r hf
def f_X1_canAdd (N : Nat) (l0 : Nat) (l1 : Int32) (l2 : Int32) (h : zH) : Option Int32 := if l1 < (1 : Int32) then f_X1_canAdd_15 N l0 l2 h else if (9 : Int32) < l1 then f_X1_canAdd_15 N l0 l2 h else f_X1_canAdd_16 N l0 l2 (1 : Int32) h
set_option maxHeartbeats 4000000 in
set_option maxRecDepth 100000 in
theorem s_X1_canAdd {g : zG} (hg : g.2.1.map (fun q => q.2) = zty) {h0 : zH} (N : Nat) (l0 : Nat) (l1 : Int32) (l2 : Int32) (h : zH) (r : Int32) (hf : f_X1_canAdd N l0 l1 l2 h = some r) : zR g jX1_canAdd h0 0 [some (zr (some l0)), some (zi l1), some (zi l2), none] [] h (some (zi r)) h := by
  unfold f_X1_canAdd at hf
  refine zr_iload_n (x := l1) dX1_canAdd_0 rfl rfl ?_
  refine zr_iconst (v := (1 : Int32)) dX1_canAdd_1 (by decide) ?_
  by_cases hc1 : l1 < (1 : Int32)
  · rw [if_pos hc1] at hf
    refine zr_iclt_t (tgt := 15) dX1_canAdd_2 (by decide) hc1 ?_
    refine zr_forget 1 (L' := [some (zr (some l0)), none, some (zi l2), none]) rfl ?_
    exact s_X1_canAdd_15 hg N l0 l2 h r hf
  · rw [if_neg hc1] at hf
    refine zr_iclt_f 15 dX1_canAdd_2 (by decide) hc1 ?_
    refine zr_iload_n (x := l1) dX1_canAdd_5 rfl rfl ?_
    refine zr_bipush (v := (9 : Int32)) dX1_canAdd_6 (by decide) ?_
    by_cases hc2 : (9 : Int32) < l1
    · rw [if_pos hc2] at hf
      refine zr_icgt_t (tgt := 15) dX1_canAdd_8 (by decide) hc2 ?_
      refine zr_forget 1 (L' := [some (zr (some l0)), none, some (zi l2), none]) rfl ?_
      exact s_X1_canAdd_15 hg N l0 l2 h r hf
    · rw [if_neg hc2] at hf
      refine zr_icgt_f 15 dX1_canAdd_8 (by decide) hc2 ?_
      refine zr_iconst (v := (1 : Int32)) dX1_canAdd_11 (by decide) ?_
      refine zr_goto (tgt := 16) dX1_canAdd_12 (by decide) ?_
      refine zr_forget 1 (L' := [some (zr (some l0)), none, some (zi l2), none]) rfl ?_
      exact s_X1_canAdd_16 hg N l0 l2 (1 : Int32) h r hf
theorem c_X1_canAdd {g : zG} (hg : g.2.1.map (fun q => q.2) = zty) {N : Nat} {l0 : Nat} {l1 : Int32} {l2 : Int32} {h : zH} {r : Int32} (hf : f_X1_canAdd N l0 l1 l2 h = some r) : zCa g jX1_canAdd [zr (some l0), zi l1, zi l2] h (some (zi r)) h :=
  zCa.of hg (by decide +kernel) (Nat.le_of_ble_eq_true rfl) (s_X1_canAdd hg N l0 l1 l2 h r hf)
theorem dJ7_copyOf_59c91_0 : decode cJ7_copyOf_59c91 0 = .ok (.iload_n 1, 1) := by decide +kernel
theorem dJ7_copyOf_59c91_1 : decode cJ7_copyOf_59c91 1 = .ok (.aload_n 0, 1) := by decide +kernel
theorem dJ7_copyOf_59c91_2 : decode cJ7_copyOf_59c91 2 = .ok (.arraylength, 1) := by decide +kernel
theorem dJ7_copyOf_59c91_3 : decode cJ7_copyOf_59c91 3 = .ok (.if_icmp .ne 11, 3) := by decide +kernel
theorem dJ7_copyOf_59c91_6 : decode cJ7_copyOf_59c91 6 = .ok (.aload_n 0, 1) := by decide +kernel
theorem dJ7_copyOf_59c91_7 : decode cJ7_copyOf_59c91 7 = .ok (.invokevirtual 316, 3) := by decide +kernel
theorem dJ7_copyOf_59c91_10 : decode cJ7_copyOf_59c91 10 = .ok (.checkcast 317, 3) := by decide +kernel
theorem dJ7_copyOf_59c91_13 : decode cJ7_copyOf_59c91 13 = .ok (.areturn, 1) := by decide +kernel
theorem dJ7_copyOf_59c91_14 : decode cJ7_copyOf_59c91 14 = .ok (.iload_n 1, 1) := by decide +kernel
theorem dJ7_copyOf_59c91_15 : decode cJ7_copyOf_59c91 15 = .ok (.newarray .int, 2) := by decide +kernel
theorem dJ7_copyOf_59c91_17 : decode cJ7_copyOf_59c91 17 = .ok (.astore_n 2, 1) := by decide +kernel
theorem dJ7_copyOf_59c91_18 : decode cJ7_copyOf_59c91 18 = .ok (.aload_n 0, 1) := by decide +kernel
theorem dJ7_copyOf_59c91_19 : decode cJ7_copyOf_59c91 19 = .ok (.iconst 0, 1) := by decide +kernel
theorem dJ7_copyOf_59c91_20 : decode cJ7_copyOf_59c91 20 = .ok (.aload_n 2, 1) := by decide +kernel
theorem dJ7_copyOf_59c91_21 : decode cJ7_copyOf_59c91 21 = .ok (.iconst 0, 1) := by decide +kernel
theorem dJ7_copyOf_59c91_22 : decode cJ7_copyOf_59c91 22 = .ok (.aload_n 0, 1) := by decide +kernel
theorem dJ7_copyOf_59c91_23 : decode cJ7_copyOf_59c91 23 = .ok (.arraylength, 1) := by decide +kernel
theorem dJ7_copyOf_59c91_24 : decode cJ7_copyOf_59c91 24 = .ok (.iload_n 1, 1) := by decide +kernel
theorem dJ7_copyOf_59c91_25 : decode cJ7_copyOf_59c91 25 = .ok (.invokestatic 304, 3) := by decide +kernel
theorem dJ7_copyOf_59c91_28 : decode cJ7_copyOf_59c91 28 = .ok (.invokestatic 150, 3) := by decide +kernel
theorem dJ7_copyOf_59c91_31 : decode cJ7_copyOf_59c91 31 = .ok (.aload_n 2, 1) := by decide +kernel
theorem dJ7_copyOf_59c91_32 : decode cJ7_copyOf_59c91 32 = .ok (.areturn, 1) := by decide +kernel
def f_J7_copyOf_59c91 (N : Nat) (l0 : Option Nat) (l1 : Int32) (h : zH) : Option ((Option Nat) × zH) := (zlen h l0).bind fun x1 => if l1 = x1 then zcl h 0 l0 fun a2 h3 => some ((some a2), h3) else zna h 0 l1 fun a1 h1 => (zlen h1 l0).bind fun x2 => (zcp h1 l0 (0 : Int32) (some a1) (0 : Int32) (if l1 < x2 then l1 else x2)).bind fun h2 => some ((some a1), h2)
set_option maxHeartbeats 4000000 in
set_option maxRecDepth 100000 in
theorem s_J7_copyOf_59c91 {g : zG} (hg : g.2.1.map (fun q => q.2) = zty) {h0 : zH} (N : Nat) (l0 : Option Nat) (l1 : Int32) (h : zH) (r : Option Nat) (h' : zH) (hf : f_J7_copyOf_59c91 N l0 l1 h = some (r, h')) : zR g jJ7_copyOf_59c91 h0 0 [some (zr l0), some (zi l1), none] [] h (some (zr r)) h' := by
  unfold f_J7_copyOf_59c91 at hf
  refine zr_iload_n (x := l1) dJ7_copyOf_59c91_0 rfl rfl ?_
  refine zr_aload_n (v := .inl l0) dJ7_copyOf_59c91_1 rfl rfl ?_
  revert hf; refine zbi (fun x1 e_x1 hf => ?_)
  refine zq_alen dJ7_copyOf_59c91_2 e_x1 ?_
  by_cases hc1 : l1 = x1
  · rw [if_pos hc1] at hf
    refine zr_icne_f 14 dJ7_copyOf_59c91_3 (by decide) hc1 ?_
    refine zr_aload_n (v := .inl l0) dJ7_copyOf_59c91_6 rfl rfl ?_
    obtain ⟨a2, h3, e_a2, hf⟩ := zcl_spec hf
    refine zq_clone (t := 0) kk_16 rfl (by decide +kernel) (Or.inl ⟨rfl, rfl⟩) ⟨Nat.le_of_ble_eq_true rfl, Nat.le_of_ble_eq_true rfl⟩ dJ7_copyOf_59c91_7 e_a2 ?_
    refine zq_castA (t := 0) (ad := "[I") (x := none) kw_37 rfl (by decide +kernel) dJ7_copyOf_59c91_10 (zcl_got e_a2) ?_
    cases hf
    exact zr_ret _ (Or.inr ⟨_, rfl⟩) dJ7_copyOf_59c91_13
  · rw [if_neg hc1] at hf
    refine zr_icne_t (tgt := 14) dJ7_copyOf_59c91_3 (by decide) hc1 ?_
    refine zr_iload_n (x := l1) dJ7_copyOf_59c91_14 rfl rfl ?_
    obtain ⟨a1, h1, e_a1, hf⟩ := zna_spec hf
    refine zq_newa (atype := .int) (t := 0) kw_14 rfl (fun _ _ => rfl) (by decide) dJ7_copyOf_59c91_15 e_a1 ?_
    refine zq_astore_n (v := .inl (some a1)) (L' := [some (zr l0), some (zi l1), some (zr (some a1))]) dJ7_copyOf_59c91_17 rfl (by decide) rfl ?_
    refine zr_aload_n (v := .inl l0) dJ7_copyOf_59c91_18 rfl rfl ?_
    refine zr_iconst (v := (0 : Int32)) dJ7_copyOf_59c91_19 (by decide) ?_
    refine zr_aload_n (v := .inl (some a1)) dJ7_copyOf_59c91_20 rfl rfl ?_
    refine zr_iconst (v := (0 : Int32)) dJ7_copyOf_59c91_21 (by decide) ?_
    refine zr_aload_n (v := .inl l0) dJ7_copyOf_59c91_22 rfl rfl ?_
    revert hf; refine zbi (fun x2 e_x2 hf => ?_)
    refine zq_alen dJ7_copyOf_59c91_23 e_x2 ?_
    refine zr_iload_n (x := l1) dJ7_copyOf_59c91_24 rfl rfl ?_
    refine zr_mmin kw_23 kw_24 kw_25 kw_26 ⟨Nat.le_of_ble_eq_true rfl, Nat.le_of_ble_eq_true rfl⟩ dJ7_copyOf_59c91_25 ?_
    revert hf; refine zbi (fun h2 e_h2 hf => ?_)
    refine zq_copyi kw_27 kw_28 kw_29 kw_30 ⟨Nat.le_of_ble_eq_true rfl, Nat.le_of_ble_eq_true rfl⟩ dJ7_copyOf_59c91_28 e_h2 ?_
    refine zr_aload_n (v := .inl (some a1)) dJ7_copyOf_59c91_31 rfl rfl ?_
    cases hf
    exact zr_ret _ (Or.inr ⟨_, rfl⟩) dJ7_copyOf_59c91_32
theorem c_J7_copyOf_59c91 {g : zG} (hg : g.2.1.map (fun q => q.2) = zty) {N : Nat} {l0 : Option Nat} {l1 : Int32} {h : zH} {r : Option Nat} {h' : zH} (hf : f_J7_copyOf_59c91 N l0 l1 h = some (r, h')) : zCa g jJ7_copyOf_59c91 [zr l0, zi l1] h (some (zr r)) h' :=
  zCa.of hg (by decide +kernel) (Nat.le_of_ble_eq_true rfl) (s_J7_copyOf_59c91 hg N l0 l1 h r h' hf)
theorem dX1_with_0 : decode cX1_with 0 = .ok (.aload_n 0, 1) := by decide +kernel
theorem dX1_with_1 : decode cX1_with 1 = .ok (.getfield 12, 3) := by decide +kernel
theorem dX1_with_4 : decode cX1_with 4 = .ok (.aload_n 0, 1) := by decide +kernel
theorem dX1_with_5 : decode cX1_with 5 = .ok (.getfield 12, 3) := by decide +kernel
theorem dX1_with_8 : decode cX1_with 8 = .ok (.arraylength, 1) := by decide +kernel
theorem dX1_with_9 : decode cX1_with 9 = .ok (.iconst 3, 1) := by decide +kernel
theorem dX1_with_10 : decode cX1_with 10 = .ok (.iadd, 1) := by decide +kernel
theorem dX1_with_11 : decode cX1_with 11 = .ok (.invokestatic 20, 3) := by decide +kernel
theorem dX1_with_14 : decode cX1_with 14 = .ok (.astore 4, 2) := by decide +kernel
theorem dX1_with_16 : decode cX1_with 16 = .ok (.aload 4, 2) := by decide +kernel
theorem dX1_with_18 : decode cX1_with 18 = .ok (.aload_n 0, 1) := by decide +kernel
theorem dX1_with_19 : decode cX1_with 19 = .ok (.getfield 12, 3) := by decide +kernel
theorem dX1_with_22 : decode cX1_with 22 = .ok (.arraylength, 1) := by decide +kernel
theorem dX1_with_23 : decode cX1_with 23 = .ok (.iconst 0, 1) := by decide +kernel
theorem dX1_with_24 : decode cX1_with 24 = .ok (.iadd, 1) := by decide +kernel
theorem dX1_with_25 : decode cX1_with 25 = .ok (.iload_n 1, 1) := by decide +kernel
theorem dX1_with_26 : decode cX1_with 26 = .ok (.iastore, 1) := by decide +kernel
theorem dX1_with_27 : decode cX1_with 27 = .ok (.aload 4, 2) := by decide +kernel
theorem dX1_with_29 : decode cX1_with 29 = .ok (.aload_n 0, 1) := by decide +kernel
theorem dX1_with_30 : decode cX1_with 30 = .ok (.getfield 12, 3) := by decide +kernel
theorem dX1_with_33 : decode cX1_with 33 = .ok (.arraylength, 1) := by decide +kernel
theorem dX1_with_34 : decode cX1_with 34 = .ok (.iconst 1, 1) := by decide +kernel
theorem dX1_with_35 : decode cX1_with 35 = .ok (.iadd, 1) := by decide +kernel
theorem dX1_with_36 : decode cX1_with 36 = .ok (.iload_n 2, 1) := by decide +kernel
theorem dX1_with_37 : decode cX1_with 37 = .ok (.iastore, 1) := by decide +kernel
theorem dX1_with_38 : decode cX1_with 38 = .ok (.aload 4, 2) := by decide +kernel
theorem dX1_with_40 : decode cX1_with 40 = .ok (.aload_n 0, 1) := by decide +kernel
theorem dX1_with_41 : decode cX1_with 41 = .ok (.getfield 12, 3) := by decide +kernel
theorem dX1_with_44 : decode cX1_with 44 = .ok (.arraylength, 1) := by decide +kernel
theorem dX1_with_45 : decode cX1_with 45 = .ok (.iconst 2, 1) := by decide +kernel
theorem dX1_with_46 : decode cX1_with 46 = .ok (.iadd, 1) := by decide +kernel
theorem dX1_with_47 : decode cX1_with 47 = .ok (.iload_n 3, 1) := by decide +kernel
theorem dX1_with_48 : decode cX1_with 48 = .ok (.iastore, 1) := by decide +kernel
theorem dX1_with_49 : decode cX1_with 49 = .ok (.new 2, 3) := by decide +kernel
theorem dX1_with_52 : decode cX1_with 52 = .ok (.dup, 1) := by decide +kernel
theorem dX1_with_53 : decode cX1_with 53 = .ok (.aload 4, 2) := by decide +kernel
theorem dX1_with_55 : decode cX1_with 55 = .ok (.invokespecial 1, 3) := by decide +kernel
theorem dX1_with_58 : decode cX1_with 58 = .ok (.areturn, 1) := by decide +kernel
def f_X1_with (N : Nat) (l0 : Nat) (l1 : Int32) (l2 : Int32) (l3 : Int32) (h : zH) : Option ((Option Nat) × zH) := (zgR h 1 (some l0) 0).bind fun x1 => (zgR h 1 (some l0) 0).bind fun x2 => (zlen h x2).bind fun x3 => zb2 (f_J7_copyOf_59c91 N x1 (x3 + (3 : Int32)) h) fun x4 h1 => (zgR h1 1 (some l0) 0).bind fun x5 => (zlen h1 x5).bind fun x6 => (zst h1 0 x4 (x6 + (0 : Int32)) l1).bind fun h2 => (zgR h2 1 (some l0) 0).bind fun x7 => (zlen h2 x7).bind fun x8 => (zst h2 0 x4 (x8 + (1 : Int32)) l2).bind fun h3 => (zgR h3 1 (some l0) 0).bind fun x9 => (zlen h3 x9).bind fun x10 => (zst h3 0 x4 (x10 + (2 : Int32)) l3).bind fun h4 => znw h4 (.inr (1, [zr none])) fun a1 h5 => (f_X1_init_ N a1 x4 h5).bind fun h6 => some ((some a1), h6)
set_option maxHeartbeats 4000000 in
set_option maxRecDepth 100000 in
theorem s_X1_with {g : zG} (hg : g.2.1.map (fun q => q.2) = zty) {h0 : zH} (N : Nat) (l0 : Nat) (l1 : Int32) (l2 : Int32) (l3 : Int32) (h : zH) (r : Option Nat) (h' : zH) (hf : f_X1_with N l0 l1 l2 l3 h = some (r, h')) : zR g jX1_with h0 0 [some (zr (some l0)), some (zi l1), some (zi l2), some (zi l3), none] [] h (some (zr r)) h' := by
  unfold f_X1_with at hf
  refine zr_aload_n (v := .inl (some l0)) dX1_with_0 rfl rfl ?_
  revert hf; refine zbi (fun x1 e_x1 hf => ?_)
  refine zq_getR kg_13 dX1_with_1 e_x1 ?_
  refine zr_aload_n (v := .inl (some l0)) dX1_with_4 rfl rfl ?_
  revert hf; refine zbi (fun x2 e_x2 hf => ?_)
  refine zq_getR kg_13 dX1_with_5 e_x2 ?_
  revert hf; refine zbi (fun x3 e_x3 hf => ?_)
  refine zq_alen dX1_with_8 e_x3 ?_
  refine zr_iconst (v := (3 : Int32)) dX1_with_9 (by decide) ?_
  refine zr_iadd dX1_with_10 ?_
  revert hf; refine zbi2 (fun x4 h1 e_x4 hf => ?_)
  refine zq_callS (J' := jJ7_copyOf_59c91) (as := [zr x1, zi (x3 + (3 : Int32))]) (rest := []) (r1 := (some (zr x4))) kw_38 km_J7_copyOf_59c91 kt_18 dX1_with_11 rfl (Nat.le_of_ble_eq_true rfl) rfl (c_J7_copyOf_59c91 hg e_x4) ?_
  refine zq_astore (v := .inl x4) (L' := [some (zr (some l0)), some (zi l1), some (zi l2), some (zi l3), some (zr x4)]) dX1_with_14 (by decide) rfl ?_
  refine zr_aload (v := .inl x4) dX1_with_16 rfl ?_
  refine zr_aload_n (v := .inl (some l0)) dX1_with_18 rfl rfl ?_
  revert hf; refine zbi (fun x5 e_x5 hf => ?_)
  refine zq_getR kg_13 dX1_with_19 e_x5 ?_
  revert hf; refine zbi (fun x6 e_x6 hf => ?_)
  refine zq_alen dX1_with_22 e_x6 ?_
  refine zr_iconst (v := (0 : Int32)) dX1_with_23 (by decide) ?_
  refine zr_iadd dX1_with_24 ?_
  refine zr_iload_n (x := l1) dX1_with_25 rfl rfl ?_
  revert hf; refine zbi (fun h2 e_h2 hf => ?_)
  refine zq_iast dX1_with_26 e_h2 ?_
  refine zr_aload (v := .inl x4) dX1_with_27 rfl ?_
  refine zr_aload_n (v := .inl (some l0)) dX1_with_29 rfl rfl ?_
  revert hf; refine zbi (fun x7 e_x7 hf => ?_)
  refine zq_getR kg_13 dX1_with_30 e_x7 ?_
  revert hf; refine zbi (fun x8 e_x8 hf => ?_)
  refine zq_alen dX1_with_33 e_x8 ?_
  refine zr_iconst (v := (1 : Int32)) dX1_with_34 (by decide) ?_
  refine zr_iadd dX1_with_35 ?_
  refine zr_iload_n (x := l2) dX1_with_36 rfl rfl ?_
  revert hf; refine zbi (fun h3 e_h3 hf => ?_)
  refine zq_iast dX1_with_37 e_h3 ?_
  refine zr_aload (v := .inl x4) dX1_with_38 rfl ?_
  refine zr_aload_n (v := .inl (some l0)) dX1_with_40 rfl rfl ?_
  revert hf; refine zbi (fun x9 e_x9 hf => ?_)
  refine zq_getR kg_13 dX1_with_41 e_x9 ?_
  revert hf; refine zbi (fun x10 e_x10 hf => ?_)
  refine zq_alen dX1_with_44 e_x10 ?_
  refine zr_iconst (v := (2 : Int32)) dX1_with_45 (by decide) ?_
  refine zr_iadd dX1_with_46 ?_
  refine zr_iload_n (x := l3) dX1_with_47 rfl rfl ?_
  revert hf; refine zbi (fun h4 e_h4 hf => ?_)
  refine zq_iast dX1_with_48 e_h4 ?_
  obtain ⟨a1, h5, e_a1, e_h5, hf⟩ := znw_spec hf
  refine zq_new kn_19 dX1_with_49 e_a1 e_h5 ?_
  refine zr_dup dX1_with_52 ?_
  refine zr_aload (v := .inl x4) dX1_with_53 rfl ?_
  revert hf; refine zbi (fun h6 e_h6 hf => ?_)
  refine zq_callI (J' := jX1_init_) (as := [zr x4]) (rest := [zr (some a1)]) (r1 := none) (a := a1) kw_15 km_X1_init_ kt_20 dX1_with_55 rfl (Nat.le_of_ble_eq_true rfl) rfl (c_X1_init_ hg e_h6) ?_
  cases hf
  exact zr_ret _ (Or.inl ⟨_, rfl⟩) dX1_with_58
theorem c_X1_with {g : zG} (hg : g.2.1.map (fun q => q.2) = zty) {N : Nat} {l0 : Nat} {l1 : Int32} {l2 : Int32} {l3 : Int32} {h : zH} {r : Option Nat} {h' : zH} (hf : f_X1_with N l0 l1 l2 l3 h = some (r, h')) : zCa g jX1_with [zr (some l0), zi l1, zi l2, zi l3] h (some (zr r)) h' :=
  zCa.of hg (by decide +kernel) (Nat.le_of_ble_eq_true rfl) (s_X1_with hg N l0 l1 l2 l3 h r h' hf)
theorem dX7_count_0 : decode cX7_count 0 = .ok (.aload_n 0, 1) := by decide +kernel
theorem dX7_count_1 : decode cX7_count 1 = .ok (.getfield 14, 3) := by decide +kernel
theorem dX7_count_4 : decode cX7_count 4 = .ok (.arraylength, 1) := by decide +kernel
theorem dX7_count_5 : decode cX7_count 5 = .ok (.iconst 4, 1) := by decide +kernel
theorem dX7_count_6 : decode cX7_count 6 = .ok (.idiv, 1) := by decide +kernel
theorem dX7_count_7 : decode cX7_count 7 = .ok (.ireturn, 1) := by decide +kernel
def f_X7_count (N : Nat) (l0 : Nat) (h : zH) : Option Int32 := (zgR h 7 (some l0) 0).bind fun x1 => (zlen h x1).bind fun x2 => some (x2 / (4 : Int32))
set_option maxHeartbeats 4000000 in
set_option maxRecDepth 100000 in
theorem s_X7_count {g : zG} (hg : g.2.1.map (fun q => q.2) = zty) {h0 : zH} (N : Nat) (l0 : Nat) (h : zH) (r : Int32) (hf : f_X7_count N l0 h = some r) : zR g jX7_count h0 0 [some (zr (some l0))] [] h (some (zi r)) h := by
  unfold f_X7_count at hf
  refine zr_aload_n (v := .inl (some l0)) dX7_count_0 rfl rfl ?_
  revert hf; refine zbi (fun x1 e_x1 hf => ?_)
  refine zq_getR kg_21 dX7_count_1 e_x1 ?_
  revert hf; refine zbi (fun x2 e_x2 hf => ?_)
  refine zq_alen dX7_count_4 e_x2 ?_
  refine zr_iconst (v := (4 : Int32)) dX7_count_5 (by decide) ?_
  refine zr_idiv (by decide) dX7_count_6 ?_
  cases hf
  exact zr_ret _ rfl dX7_count_7
theorem c_X7_count {g : zG} (hg : g.2.1.map (fun q => q.2) = zty) {N : Nat} {l0 : Nat} {h : zH} {r : Int32} (hf : f_X7_count N l0 h = some r) : zCa g jX7_count [zr (some l0)] h (some (zi r)) h :=
  zCa.of hg (by decide +kernel) (Nat.le_of_ble_eq_true rfl) (s_X7_count hg N l0 h r hf)
theorem dX7_standsFor_0 : decode cX7_standsFor 0 = .ok (.aload_n 0, 1) := by decide +kernel
theorem dX7_standsFor_1 : decode cX7_standsFor 1 = .ok (.getfield 14, 3) := by decide +kernel
theorem dX7_standsFor_4 : decode cX7_standsFor 4 = .ok (.iload_n 1, 1) := by decide +kernel
theorem dX7_standsFor_5 : decode cX7_standsFor 5 = .ok (.iconst 0, 1) := by decide +kernel
theorem dX7_standsFor_6 : decode cX7_standsFor 6 = .ok (.iadd, 1) := by decide +kernel
theorem dX7_standsFor_7 : decode cX7_standsFor 7 = .ok (.iaload, 1) := by decide +kernel
theorem dX7_standsFor_8 : decode cX7_standsFor 8 = .ok (.iload_n 2, 1) := by decide +kernel
theorem dX7_standsFor_9 : decode cX7_standsFor 9 = .ok (.if_icmp .gt 23, 3) := by decide +kernel
theorem dX7_standsFor_12 : decode cX7_standsFor 12 = .ok (.aload_n 0, 1) := by decide +kernel
theorem dX7_standsFor_13 : decode cX7_standsFor 13 = .ok (.getfield 14, 3) := by decide +kernel
theorem dX7_standsFor_16 : decode cX7_standsFor 16 = .ok (.iload_n 1, 1) := by decide +kernel
theorem dX7_standsFor_17 : decode cX7_standsFor 17 = .ok (.iconst 0, 1) := by decide +kernel
theorem dX7_standsFor_18 : decode cX7_standsFor 18 = .ok (.iadd, 1) := by decide +kernel
theorem dX7_standsFor_19 : decode cX7_standsFor 19 = .ok (.iaload, 1) := by decide +kernel
theorem dX7_standsFor_20 : decode cX7_standsFor 20 = .ok (.iload_n 2, 1) := by decide +kernel
theorem dX7_standsFor_21 : decode cX7_standsFor 21 = .ok (.sipush 365, 3) := by decide +kernel
theorem dX7_standsFor_24 : decode cX7_standsFor 24 = .ok (.isub, 1) := by decide +kernel
theorem dX7_standsFor_25 : decode cX7_standsFor 25 = .ok (.if_icmp .le 7, 3) := by decide +kernel
theorem dX7_standsFor_28 : decode cX7_standsFor 28 = .ok (.iconst 1, 1) := by decide +kernel
theorem dX7_standsFor_29 : decode cX7_standsFor 29 = .ok (.goto 4, 3) := by decide +kernel
theorem dX7_standsFor_32 : decode cX7_standsFor 32 = .ok (.iconst 0, 1) := by decide +kernel
theorem dX7_standsFor_33 : decode cX7_standsFor 33 = .ok (.istore 4, 2) := by decide +kernel
theorem dX7_standsFor_35 : decode cX7_standsFor 35 = .ok (.aload_n 0, 1) := by decide +kernel
theorem dX7_standsFor_36 : decode cX7_standsFor 36 = .ok (.getfield 14, 3) := by decide +kernel
theorem dX7_standsFor_39 : decode cX7_standsFor 39 = .ok (.iload_n 1, 1) := by decide +kernel
theorem dX7_standsFor_40 : decode cX7_standsFor 40 = .ok (.iconst 3, 1) := by decide +kernel
theorem dX7_standsFor_41 : decode cX7_standsFor 41 = .ok (.iadd, 1) := by decide +kernel
theorem dX7_standsFor_42 : decode cX7_standsFor 42 = .ok (.iaload, 1) := by decide +kernel
theorem dX7_standsFor_43 : decode cX7_standsFor 43 = .ok (.iconst (-1), 1) := by decide +kernel
theorem dX7_standsFor_44 : decode cX7_standsFor 44 = .ok (.if_icmp .eq 19, 3) := by decide +kernel
theorem dX7_standsFor_47 : decode cX7_standsFor 47 = .ok (.aload_n 0, 1) := by decide +kernel
theorem dX7_standsFor_48 : decode cX7_standsFor 48 = .ok (.getfield 14, 3) := by decide +kernel
theorem dX7_standsFor_51 : decode cX7_standsFor 51 = .ok (.iload_n 1, 1) := by decide +kernel
theorem dX7_standsFor_52 : decode cX7_standsFor 52 = .ok (.iconst 3, 1) := by decide +kernel
theorem dX7_standsFor_53 : decode cX7_standsFor 53 = .ok (.iadd, 1) := by decide +kernel
theorem dX7_standsFor_54 : decode cX7_standsFor 54 = .ok (.iaload, 1) := by decide +kernel
theorem dX7_standsFor_55 : decode cX7_standsFor 55 = .ok (.iload_n 3, 1) := by decide +kernel
theorem dX7_standsFor_56 : decode cX7_standsFor 56 = .ok (.if_icmp .gt 7, 3) := by decide +kernel
theorem dX7_standsFor_59 : decode cX7_standsFor 59 = .ok (.iconst 1, 1) := by decide +kernel
theorem dX7_standsFor_60 : decode cX7_standsFor 60 = .ok (.goto 4, 3) := by decide +kernel
theorem dX7_standsFor_63 : decode cX7_standsFor 63 = .ok (.iconst 0, 1) := by decide +kernel
theorem dX7_standsFor_64 : decode cX7_standsFor 64 = .ok (.istore 5, 2) := by decide +kernel
theorem dX7_standsFor_66 : decode cX7_standsFor 66 = .ok (.iload 4, 2) := by decide +kernel
theorem dX7_standsFor_68 : decode cX7_standsFor 68 = .ok (.ifCond .eq 24, 3) := by decide +kernel
theorem dX7_standsFor_71 : decode cX7_standsFor 71 = .ok (.aload_n 0, 1) := by decide +kernel
theorem dX7_standsFor_72 : decode cX7_standsFor 72 = .ok (.getfield 14, 3) := by decide +kernel
theorem dX7_standsFor_75 : decode cX7_standsFor 75 = .ok (.iload_n 1, 1) := by decide +kernel
theorem dX7_standsFor_76 : decode cX7_standsFor 76 = .ok (.iconst 2, 1) := by decide +kernel
theorem dX7_standsFor_77 : decode cX7_standsFor 77 = .ok (.iadd, 1) := by decide +kernel
theorem dX7_standsFor_78 : decode cX7_standsFor 78 = .ok (.iaload, 1) := by decide +kernel
theorem dX7_standsFor_79 : decode cX7_standsFor 79 = .ok (.iload_n 3, 1) := by decide +kernel
theorem dX7_standsFor_80 : decode cX7_standsFor 80 = .ok (.if_icmp .gt 12, 3) := by decide +kernel
theorem dX7_standsFor_83 : decode cX7_standsFor 83 = .ok (.iload 5, 2) := by decide +kernel
theorem dX7_standsFor_85 : decode cX7_standsFor 85 = .ok (.ifCond .ne 7, 3) := by decide +kernel
theorem dX7_standsFor_88 : decode cX7_standsFor 88 = .ok (.iconst 1, 1) := by decide +kernel
theorem dX7_standsFor_89 : decode cX7_standsFor 89 = .ok (.goto 4, 3) := by decide +kernel
theorem dX7_standsFor_92 : decode cX7_standsFor 92 = .ok (.iconst 0, 1) := by decide +kernel
theorem dX7_standsFor_93 : decode cX7_standsFor 93 = .ok (.ireturn, 1) := by decide +kernel
def f_X7_standsFor_64 (N : Nat) (l0 : Nat) (l1 : Int32) (l3 : Int32) (l4 : Int32) (s0 : Int32) (h : zH) : Option Int32 := if l4 = 0 then some (0 : Int32) else (zgR h 7 (some l0) 0).bind fun x1 => (zld h 0 x1 (l1 + (2 : Int32))).bind fun x2 => if l3 < x2 then some (0 : Int32) else if s0 = 0 then some (1 : Int32) else some (0 : Int32)
set_option maxHeartbeats 4000000 in
set_option maxRecDepth 100000 in
theorem s_X7_standsFor_64 {g : zG} (hg : g.2.1.map (fun q => q.2) = zty) {h0 : zH} (N : Nat) (l0 : Nat) (l1 : Int32) (l3 : Int32) (l4 : Int32) (s0 : Int32) (h : zH) (r : Int32) (hf : f_X7_standsFor_64 N l0 l1 l3 l4 s0 h = some r) : zR g jX7_standsFor h0 64 [some (zr (some l0)), some (zi l1), none, some (zi l3), some (zi l4), none] [zi s0] h (some (zi r)) h := by
  unfold f_X7_standsFor_64 at hf
  refine zq_istore (x := s0) (L' := [some (zr (some l0)), some (zi l1), none, some (zi l3), some (zi l4), some (zi s0)]) dX7_standsFor_64 (by decide) rfl ?_
  refine zr_iload (x := l4) dX7_standsFor_66 rfl ?_
  by_cases hc1 : l4 = 0
  · rw [if_pos hc1] at hf
    refine zr_ifeq_t (tgt := 92) dX7_standsFor_68 (by decide) hc1 ?_
    refine zr_iconst (v := (0 : Int32)) dX7_standsFor_92 (by decide) ?_
    cases hf
    exact zr_ret _ rfl dX7_standsFor_93
  · rw [if_neg hc1] at hf
    refine zr_ifeq_f 92 dX7_standsFor_68 (by decide) hc1 ?_
    refine zr_aload_n (v := .inl (some l0)) dX7_standsFor_71 rfl rfl ?_
    revert hf; refine zbi (fun x1 e_x1 hf => ?_)
    refine zq_getR kg_21 dX7_standsFor_72 e_x1 ?_
    refine zr_iload_n (x := l1) dX7_standsFor_75 rfl rfl ?_
    refine zr_iconst (v := (2 : Int32)) dX7_standsFor_76 (by decide) ?_
    refine zr_iadd dX7_standsFor_77 ?_
    revert hf; refine zbi (fun x2 e_x2 hf => ?_)
    refine zq_iald dX7_standsFor_78 e_x2 ?_
    refine zr_iload_n (x := l3) dX7_standsFor_79 rfl rfl ?_
    by_cases hc2 : l3 < x2
    · rw [if_pos hc2] at hf
      refine zr_icgt_t (tgt := 92) dX7_standsFor_80 (by decide) hc2 ?_
      refine zr_iconst (v := (0 : Int32)) dX7_standsFor_92 (by decide) ?_
      cases hf
      exact zr_ret _ rfl dX7_standsFor_93
    · rw [if_neg hc2] at hf
      refine zr_icgt_f 92 dX7_standsFor_80 (by decide) hc2 ?_
      refine zr_iload (x := s0) dX7_standsFor_83 rfl ?_
      by_cases hc3 : s0 = 0
      · rw [if_pos hc3] at hf
        refine zr_ifne_f 92 dX7_standsFor_85 (by decide) hc3 ?_
        refine zr_iconst (v := (1 : Int32)) dX7_standsFor_88 (by decide) ?_
        refine zr_goto (tgt := 93) dX7_standsFor_89 (by decide) ?_
        cases hf
        exact zr_ret _ rfl dX7_standsFor_93
      · rw [if_neg hc3] at hf
        refine zr_ifne_t (tgt := 92) dX7_standsFor_85 (by decide) hc3 ?_
        refine zr_iconst (v := (0 : Int32)) dX7_standsFor_92 (by decide) ?_
        cases hf
        exact zr_ret _ rfl dX7_standsFor_93
def f_X7_standsFor_63 (N : Nat) (l0 : Nat) (l1 : Int32) (l3 : Int32) (l4 : Int32) (h : zH) : Option Int32 := f_X7_standsFor_64 N l0 l1 l3 l4 (0 : Int32) h
set_option maxHeartbeats 4000000 in
set_option maxRecDepth 100000 in
theorem s_X7_standsFor_63 {g : zG} (hg : g.2.1.map (fun q => q.2) = zty) {h0 : zH} (N : Nat) (l0 : Nat) (l1 : Int32) (l3 : Int32) (l4 : Int32) (h : zH) (r : Int32) (hf : f_X7_standsFor_63 N l0 l1 l3 l4 h = some r) : zR g jX7_standsFor h0 63 [some (zr (some l0)), some (zi l1), none, some (zi l3), some (zi l4), none] [] h (some (zi r)) h := by
  unfold f_X7_standsFor_63 at hf
  refine zr_iconst (v := (0 : Int32)) dX7_standsFor_63 (by decide) ?_
  exact s_X7_standsFor_64 hg N l0 l1 l3 l4 (0 : Int32) h r hf
def f_X7_standsFor_33 (N : Nat) (l0 : Nat) (l1 : Int32) (l3 : Int32) (s0 : Int32) (h : zH) : Option Int32 := (zgR h 7 (some l0) 0).bind fun x1 => (zld h 0 x1 (l1 + (3 : Int32))).bind fun x2 => if x2 = ((-1) : Int32) then f_X7_standsFor_63 N l0 l1 l3 s0 h else (zgR h 7 (some l0) 0).bind fun x3 => (zld h 0 x3 (l1 + (3 : Int32))).bind fun x4 => if l3 < x4 then f_X7_standsFor_63 N l0 l1 l3 s0 h else f_X7_standsFor_64 N l0 l1 l3 s0 (1 : Int32) h
set_option maxHeartbeats 4000000 in
set_option maxRecDepth 100000 in
theorem s_X7_standsFor_33 {g : zG} (hg : g.2.1.map (fun q => q.2) = zty) {h0 : zH} (N : Nat) (l0 : Nat) (l1 : Int32) (l3 : Int32) (s0 : Int32) (h : zH) (r : Int32) (hf : f_X7_standsFor_33 N l0 l1 l3 s0 h = some r) : zR g jX7_standsFor h0 33 [some (zr (some l0)), some (zi l1), none, some (zi l3), none, none] [zi s0] h (some (zi r)) h := by
  unfold f_X7_standsFor_33 at hf
  refine zq_istore (x := s0) (L' := [some (zr (some l0)), some (zi l1), none, some (zi l3), some (zi s0), none]) dX7_standsFor_33 (by decide) rfl ?_
  refine zr_aload_n (v := .inl (some l0)) dX7_standsFor_35 rfl rfl ?_
  revert hf; refine zbi (fun x1 e_x1 hf => ?_)
  refine zq_getR kg_21 dX7_standsFor_36 e_x1 ?_
  refine zr_iload_n (x := l1) dX7_standsFor_39 rfl rfl ?_
  refine zr_iconst (v := (3 : Int32)) dX7_standsFor_40 (by decide) ?_
  refine zr_iadd dX7_standsFor_41 ?_
  revert hf; refine zbi (fun x2 e_x2 hf => ?_)
  refine zq_iald dX7_standsFor_42 e_x2 ?_
  refine zr_iconst (v := ((-1) : Int32)) dX7_standsFor_43 (by decide) ?_
  by_cases hc1 : x2 = ((-1) : Int32)
  · rw [if_pos hc1] at hf
    refine zr_iceq_t (tgt := 63) dX7_standsFor_44 (by decide) hc1 ?_
    exact s_X7_standsFor_63 hg N l0 l1 l3 s0 h r hf
  · rw [if_neg hc1] at hf
    refine zr_iceq_f 63 dX7_standsFor_44 (by decide) hc1 ?_
    refine zr_aload_n (v := .inl (some l0)) dX7_standsFor_47 rfl rfl ?_
    revert hf; refine zbi (fun x3 e_x3 hf => ?_)
    refine zq_getR kg_21 dX7_standsFor_48 e_x3 ?_
    refine zr_iload_n (x := l1) dX7_standsFor_51 rfl rfl ?_
    refine zr_iconst (v := (3 : Int32)) dX7_standsFor_52 (by decide) ?_
    refine zr_iadd dX7_standsFor_53 ?_
    revert hf; refine zbi (fun x4 e_x4 hf => ?_)
    refine zq_iald dX7_standsFor_54 e_x4 ?_
    refine zr_iload_n (x := l3) dX7_standsFor_55 rfl rfl ?_
    by_cases hc2 : l3 < x4
    · rw [if_pos hc2] at hf
      refine zr_icgt_t (tgt := 63) dX7_standsFor_56 (by decide) hc2 ?_
      exact s_X7_standsFor_63 hg N l0 l1 l3 s0 h r hf
    · rw [if_neg hc2] at hf
      refine zr_icgt_f 63 dX7_standsFor_56 (by decide) hc2 ?_
      refine zr_iconst (v := (1 : Int32)) dX7_standsFor_59 (by decide) ?_
      refine zr_goto (tgt := 64) dX7_standsFor_60 (by decide) ?_
      exact s_X7_standsFor_64 hg N l0 l1 l3 s0 (1 : Int32) h r hf
def f_X7_standsFor_32 (N : Nat) (l0 : Nat) (l1 : Int32) (l3 : Int32) (h : zH) : Option Int32 := f_X7_standsFor_33 N l0 l1 l3 (0 : Int32) h
set_option maxHeartbeats 4000000 in
set_option maxRecDepth 100000 in
theorem s_X7_standsFor_32 {g : zG} (hg : g.2.1.map (fun q => q.2) = zty) {h0 : zH} (N : Nat) (l0 : Nat) (l1 : Int32) (l3 : Int32) (h : zH) (r : Int32) (hf : f_X7_standsFor_32 N l0 l1 l3 h = some r) : zR g jX7_standsFor h0 32 [some (zr (some l0)), some (zi l1), none, some (zi l3), none, none] [] h (some (zi r)) h := by
  unfold f_X7_standsFor_32 at hf
  refine zr_iconst (v := (0 : Int32)) dX7_standsFor_32 (by decide) ?_
  exact s_X7_standsFor_33 hg N l0 l1 l3 (0 : Int32) h r hf
def f_X7_standsFor (N : Nat) (l0 : Nat) (l1 : Int32) (l2 : Int32) (l3 : Int32) (h : zH) : Option Int32 := (zgR h 7 (some l0) 0).bind fun x1 => (zld h 0 x1 (l1 + (0 : Int32))).bind fun x2 => if l2 < x2 then f_X7_standsFor_32 N l0 l1 l3 h else (zgR h 7 (some l0) 0).bind fun x3 => (zld h 0 x3 (l1 + (0 : Int32))).bind fun x4 => if x4 ≤ (l2 - (365 : Int32)) then f_X7_standsFor_32 N l0 l1 l3 h else f_X7_standsFor_33 N l0 l1 l3 (1 : Int32) h
set_option maxHeartbeats 4000000 in
set_option maxRecDepth 100000 in
theorem s_X7_standsFor {g : zG} (hg : g.2.1.map (fun q => q.2) = zty) {h0 : zH} (N : Nat) (l0 : Nat) (l1 : Int32) (l2 : Int32) (l3 : Int32) (h : zH) (r : Int32) (hf : f_X7_standsFor N l0 l1 l2 l3 h = some r) : zR g jX7_standsFor h0 0 [some (zr (some l0)), some (zi l1), some (zi l2), some (zi l3), none, none] [] h (some (zi r)) h := by
  unfold f_X7_standsFor at hf
  refine zr_aload_n (v := .inl (some l0)) dX7_standsFor_0 rfl rfl ?_
  revert hf; refine zbi (fun x1 e_x1 hf => ?_)
  refine zq_getR kg_21 dX7_standsFor_1 e_x1 ?_
  refine zr_iload_n (x := l1) dX7_standsFor_4 rfl rfl ?_
  refine zr_iconst (v := (0 : Int32)) dX7_standsFor_5 (by decide) ?_
  refine zr_iadd dX7_standsFor_6 ?_
  revert hf; refine zbi (fun x2 e_x2 hf => ?_)
  refine zq_iald dX7_standsFor_7 e_x2 ?_
  refine zr_iload_n (x := l2) dX7_standsFor_8 rfl rfl ?_
  by_cases hc1 : l2 < x2
  · rw [if_pos hc1] at hf
    refine zr_icgt_t (tgt := 32) dX7_standsFor_9 (by decide) hc1 ?_
    refine zr_forget 2 (L' := [some (zr (some l0)), some (zi l1), none, some (zi l3), none, none]) rfl ?_
    exact s_X7_standsFor_32 hg N l0 l1 l3 h r hf
  · rw [if_neg hc1] at hf
    refine zr_icgt_f 32 dX7_standsFor_9 (by decide) hc1 ?_
    refine zr_aload_n (v := .inl (some l0)) dX7_standsFor_12 rfl rfl ?_
    revert hf; refine zbi (fun x3 e_x3 hf => ?_)
    refine zq_getR kg_21 dX7_standsFor_13 e_x3 ?_
    refine zr_iload_n (x := l1) dX7_standsFor_16 rfl rfl ?_
    refine zr_iconst (v := (0 : Int32)) dX7_standsFor_17 (by decide) ?_
    refine zr_iadd dX7_standsFor_18 ?_
    revert hf; refine zbi (fun x4 e_x4 hf => ?_)
    refine zq_iald dX7_standsFor_19 e_x4 ?_
    refine zr_iload_n (x := l2) dX7_standsFor_20 rfl rfl ?_
    refine zr_sipush (v := (365 : Int32)) dX7_standsFor_21 (by decide) ?_
    refine zr_isub dX7_standsFor_24 ?_
    by_cases hc2 : x4 ≤ (l2 - (365 : Int32))
    · rw [if_pos hc2] at hf
      refine zr_icle_t (tgt := 32) dX7_standsFor_25 (by decide) hc2 ?_
      refine zr_forget 2 (L' := [some (zr (some l0)), some (zi l1), none, some (zi l3), none, none]) rfl ?_
      exact s_X7_standsFor_32 hg N l0 l1 l3 h r hf
    · rw [if_neg hc2] at hf
      refine zr_icle_f 32 dX7_standsFor_25 (by decide) hc2 ?_
      refine zr_iconst (v := (1 : Int32)) dX7_standsFor_28 (by decide) ?_
      refine zr_goto (tgt := 33) dX7_standsFor_29 (by decide) ?_
      refine zr_forget 2 (L' := [some (zr (some l0)), some (zi l1), none, some (zi l3), none, none]) rfl ?_
      exact s_X7_standsFor_33 hg N l0 l1 l3 (1 : Int32) h r hf
theorem c_X7_standsFor {g : zG} (hg : g.2.1.map (fun q => q.2) = zty) {N : Nat} {l0 : Nat} {l1 : Int32} {l2 : Int32} {l3 : Int32} {h : zH} {r : Int32} (hf : f_X7_standsFor N l0 l1 l2 l3 h = some r) : zCa g jX7_standsFor [zr (some l0), zi l1, zi l2, zi l3] h (some (zi r)) h :=
  zCa.of hg (by decide +kernel) (Nat.le_of_ble_eq_true rfl) (s_X7_standsFor hg N l0 l1 l2 l3 h r hf)
theorem dX7_countFor_0 : decode cX7_countFor 0 = .ok (.iconst 0, 1) := by decide +kernel
theorem dX7_countFor_1 : decode cX7_countFor 1 = .ok (.istore 4, 2) := by decide +kernel
theorem dX7_countFor_3 : decode cX7_countFor 3 = .ok (.iconst 0, 1) := by decide +kernel
theorem dX7_countFor_4 : decode cX7_countFor 4 = .ok (.istore 5, 2) := by decide +kernel
theorem dX7_countFor_6 : decode cX7_countFor 6 = .ok (.iload 5, 2) := by decide +kernel
theorem dX7_countFor_8 : decode cX7_countFor 8 = .ok (.aload_n 0, 1) := by decide +kernel
theorem dX7_countFor_9 : decode cX7_countFor 9 = .ok (.invokevirtual 24, 3) := by decide +kernel
theorem dX7_countFor_12 : decode cX7_countFor 12 = .ok (.if_icmp .ge 40, 3) := by decide +kernel
theorem dX7_countFor_15 : decode cX7_countFor 15 = .ok (.aload_n 0, 1) := by decide +kernel
theorem dX7_countFor_16 : decode cX7_countFor 16 = .ok (.iload 5, 2) := by decide +kernel
theorem dX7_countFor_18 : decode cX7_countFor 18 = .ok (.iconst 4, 1) := by decide +kernel
theorem dX7_countFor_19 : decode cX7_countFor 19 = .ok (.imul, 1) := by decide +kernel
theorem dX7_countFor_20 : decode cX7_countFor 20 = .ok (.iload_n 1, 1) := by decide +kernel
theorem dX7_countFor_21 : decode cX7_countFor 21 = .ok (.iload_n 2, 1) := by decide +kernel
theorem dX7_countFor_22 : decode cX7_countFor 22 = .ok (.invokevirtual 33, 3) := by decide +kernel
theorem dX7_countFor_25 : decode cX7_countFor 25 = .ok (.ifCond .eq 21, 3) := by decide +kernel
theorem dX7_countFor_28 : decode cX7_countFor 28 = .ok (.aload_n 0, 1) := by decide +kernel
theorem dX7_countFor_29 : decode cX7_countFor 29 = .ok (.getfield 14, 3) := by decide +kernel
theorem dX7_countFor_32 : decode cX7_countFor 32 = .ok (.iload 5, 2) := by decide +kernel
theorem dX7_countFor_34 : decode cX7_countFor 34 = .ok (.iconst 4, 1) := by decide +kernel
theorem dX7_countFor_35 : decode cX7_countFor 35 = .ok (.imul, 1) := by decide +kernel
theorem dX7_countFor_36 : decode cX7_countFor 36 = .ok (.iconst 1, 1) := by decide +kernel
theorem dX7_countFor_37 : decode cX7_countFor 37 = .ok (.iadd, 1) := by decide +kernel
theorem dX7_countFor_38 : decode cX7_countFor 38 = .ok (.iaload, 1) := by decide +kernel
theorem dX7_countFor_39 : decode cX7_countFor 39 = .ok (.iload_n 3, 1) := by decide +kernel
theorem dX7_countFor_40 : decode cX7_countFor 40 = .ok (.if_icmp .lt 6, 3) := by decide +kernel
theorem dX7_countFor_43 : decode cX7_countFor 43 = .ok (.iinc 4 1, 3) := by decide +kernel
theorem dX7_countFor_46 : decode cX7_countFor 46 = .ok (.iinc 5 1, 3) := by decide +kernel
theorem dX7_countFor_49 : decode cX7_countFor 49 = .ok (.goto (-43), 3) := by decide +kernel
theorem dX7_countFor_52 : decode cX7_countFor 52 = .ok (.iload 4, 2) := by decide +kernel
theorem dX7_countFor_54 : decode cX7_countFor 54 = .ok (.ireturn, 1) := by decide +kernel
def f_X7_countFor_6 (N : Nat) : Nat → Nat → Int32 → Int32 → Int32 → Int32 → Int32 → zH → Option Int32
  | 0, _, _, _, _, _, _, _ => none
  | n + 1, l0, l1, l2, l3, l4, l5, h => (zck h 7 (some l0)).bind fun q1 => (f_X7_count N q1 h).bind fun x1 => if x1 ≤ l5 then some l4 else (zck h 7 (some l0)).bind fun q2 => (f_X7_standsFor N q2 (l5 * (4 : Int32)) l1 l2 h).bind fun x2 => if x2 = 0 then f_X7_countFor_6 N n l0 l1 l2 l3 l4 (l5 + (1 : Int32)) h else (zgR h 7 (some l0) 0).bind fun x3 => (zld h 0 x3 ((l5 * (4 : Int32)) + (1 : Int32))).bind fun x4 => if x4 < l3 then f_X7_countFor_6 N n l0 l1 l2 l3 l4 (l5 + (1 : Int32)) h else f_X7_countFor_6 N n l0 l1 l2 l3 (l4 + (1 : Int32)) (l5 + (1 : Int32)) h
set_option maxHeartbeats 4000000 in
set_option maxRecDepth 100000 in
theorem s_X7_countFor_6 {g : zG} (hg : g.2.1.map (fun q => q.2) = zty) {h0 : zH} (N : Nat) : ∀ (n : Nat) (l0 : Nat) (l1 : Int32) (l2 : Int32) (l3 : Int32) (l4 : Int32) (l5 : Int32) (h : zH) (r : Int32), f_X7_countFor_6 N n l0 l1 l2 l3 l4 l5 h = some r → zR g jX7_countFor h0 6 [some (zr (some l0)), some (zi l1), some (zi l2), some (zi l3), some (zi l4), some (zi l5)] [] h (some (zi r)) h := by
  intro n
  induction n with
  | zero =>
    intro l0 l1 l2 l3 l4 l5 h r hf
    cases hf
  | succ n ih =>
    intro l0 l1 l2 l3 l4 l5 h r hf
    rw [f_X7_countFor_6] at hf
    refine zr_iload (x := l5) dX7_countFor_6 rfl ?_
    refine zr_aload_n (v := .inl (some l0)) dX7_countFor_8 rfl rfl ?_
    revert hf; refine zbi (fun q1 e_q1 hf => ?_)
    revert hf; refine zbi (fun x1 e_x1 hf => ?_)
    refine zq_callV (J' := jX7_count) (as := []) (rest := [zi l5]) (r1 := (some (zi x1))) (q := (RX7, TX7, 1)) kw_45 km_X7_count kt_23 dX7_countFor_9 rfl (Nat.le_of_ble_eq_true rfl) rfl rfl e_q1 rfl (c_X7_count hg e_x1) ?_
    by_cases hc1 : x1 ≤ l5
    · rw [if_pos hc1] at hf
      refine zr_icge_t (tgt := 52) dX7_countFor_12 (by decide) hc1 ?_
      refine zr_iload (x := l4) dX7_countFor_52 rfl ?_
      cases hf
      exact zr_ret _ rfl dX7_countFor_54
    · rw [if_neg hc1] at hf
      refine zr_icge_f 52 dX7_countFor_12 (by decide) hc1 ?_
      refine zr_aload_n (v := .inl (some l0)) dX7_countFor_15 rfl rfl ?_
      refine zr_iload (x := l5) dX7_countFor_16 rfl ?_
      refine zr_iconst (v := (4 : Int32)) dX7_countFor_18 (by decide) ?_
      refine zr_imul dX7_countFor_19 ?_
      refine zr_iload_n (x := l1) dX7_countFor_20 rfl rfl ?_
      refine zr_iload_n (x := l2) dX7_countFor_21 rfl rfl ?_
      revert hf; refine zbi (fun q2 e_q2 hf => ?_)
      revert hf; refine zbi (fun x2 e_x2 hf => ?_)
      refine zq_callV (J' := jX7_standsFor) (as := [zi (l5 * (4 : Int32)), zi l1, zi l2]) (rest := []) (r1 := (some (zi x2))) (q := (RX7, TX7, 1)) kw_50 km_X7_standsFor kt_25 dX7_countFor_22 rfl (Nat.le_of_ble_eq_true rfl) rfl rfl e_q2 rfl (c_X7_standsFor hg e_x2) ?_
      by_cases hc2 : x2 = 0
      · rw [if_pos hc2] at hf
        refine zr_ifeq_t (tgt := 46) dX7_countFor_25 (by decide) hc2 ?_
        refine zq_iinc (x := l5) (y := (1 : Int32)) (L' := [some (zr (some l0)), some (zi l1), some (zi l2), some (zi l3), some (zi l4), some (zi (l5 + (1 : Int32)))]) dX7_countFor_46 rfl (by decide) (by decide) rfl ?_
        refine zr_goto (tgt := 6) dX7_countFor_49 (by decide) ?_
        exact ih l0 l1 l2 l3 l4 (l5 + (1 : Int32)) h r hf
      · rw [if_neg hc2] at hf
        refine zr_ifeq_f 46 dX7_countFor_25 (by decide) hc2 ?_
        refine zr_aload_n (v := .inl (some l0)) dX7_countFor_28 rfl rfl ?_
        revert hf; refine zbi (fun x3 e_x3 hf => ?_)
        refine zq_getR kg_21 dX7_countFor_29 e_x3 ?_
        refine zr_iload (x := l5) dX7_countFor_32 rfl ?_
        refine zr_iconst (v := (4 : Int32)) dX7_countFor_34 (by decide) ?_
        refine zr_imul dX7_countFor_35 ?_
        refine zr_iconst (v := (1 : Int32)) dX7_countFor_36 (by decide) ?_
        refine zr_iadd dX7_countFor_37 ?_
        revert hf; refine zbi (fun x4 e_x4 hf => ?_)
        refine zq_iald dX7_countFor_38 e_x4 ?_
        refine zr_iload_n (x := l3) dX7_countFor_39 rfl rfl ?_
        by_cases hc3 : x4 < l3
        · rw [if_pos hc3] at hf
          refine zr_iclt_t (tgt := 46) dX7_countFor_40 (by decide) hc3 ?_
          refine zq_iinc (x := l5) (y := (1 : Int32)) (L' := [some (zr (some l0)), some (zi l1), some (zi l2), some (zi l3), some (zi l4), some (zi (l5 + (1 : Int32)))]) dX7_countFor_46 rfl (by decide) (by decide) rfl ?_
          refine zr_goto (tgt := 6) dX7_countFor_49 (by decide) ?_
          exact ih l0 l1 l2 l3 l4 (l5 + (1 : Int32)) h r hf
        · rw [if_neg hc3] at hf
          refine zr_iclt_f 46 dX7_countFor_40 (by decide) hc3 ?_
          refine zq_iinc (x := l4) (y := (1 : Int32)) (L' := [some (zr (some l0)), some (zi l1), some (zi l2), some (zi l3), some (zi (l4 + (1 : Int32))), some (zi l5)]) dX7_countFor_43 rfl (by decide) (by decide) rfl ?_
          refine zq_iinc (x := l5) (y := (1 : Int32)) (L' := [some (zr (some l0)), some (zi l1), some (zi l2), some (zi l3), some (zi (l4 + (1 : Int32))), some (zi (l5 + (1 : Int32)))]) dX7_countFor_46 rfl (by decide) (by decide) rfl ?_
          refine zr_goto (tgt := 6) dX7_countFor_49 (by decide) ?_
          exact ih l0 l1 l2 l3 (l4 + (1 : Int32)) (l5 + (1 : Int32)) h r hf
def f_X7_countFor (N : Nat) (l0 : Nat) (l1 : Int32) (l2 : Int32) (l3 : Int32) (h : zH) : Option Int32 := f_X7_countFor_6 N N l0 l1 l2 l3 (0 : Int32) (0 : Int32) h
set_option maxHeartbeats 4000000 in
set_option maxRecDepth 100000 in
theorem s_X7_countFor {g : zG} (hg : g.2.1.map (fun q => q.2) = zty) {h0 : zH} (N : Nat) (l0 : Nat) (l1 : Int32) (l2 : Int32) (l3 : Int32) (h : zH) (r : Int32) (hf : f_X7_countFor N l0 l1 l2 l3 h = some r) : zR g jX7_countFor h0 0 [some (zr (some l0)), some (zi l1), some (zi l2), some (zi l3), none, none] [] h (some (zi r)) h := by
  unfold f_X7_countFor at hf
  refine zr_iconst (v := (0 : Int32)) dX7_countFor_0 (by decide) ?_
  refine zq_istore (x := (0 : Int32)) (L' := [some (zr (some l0)), some (zi l1), some (zi l2), some (zi l3), some (zi (0 : Int32)), none]) dX7_countFor_1 (by decide) rfl ?_
  refine zr_iconst (v := (0 : Int32)) dX7_countFor_3 (by decide) ?_
  refine zq_istore (x := (0 : Int32)) (L' := [some (zr (some l0)), some (zi l1), some (zi l2), some (zi l3), some (zi (0 : Int32)), some (zi (0 : Int32))]) dX7_countFor_4 (by decide) rfl ?_
  exact s_X7_countFor_6 hg N N l0 l1 l2 l3 (0 : Int32) (0 : Int32) h r hf
theorem c_X7_countFor {g : zG} (hg : g.2.1.map (fun q => q.2) = zty) {N : Nat} {l0 : Nat} {l1 : Int32} {l2 : Int32} {l3 : Int32} {h : zH} {r : Int32} (hf : f_X7_countFor N l0 l1 l2 l3 h = some r) : zCa g jX7_countFor [zr (some l0), zi l1, zi l2, zi l3] h (some (zi r)) h :=
  zCa.of hg (by decide +kernel) (Nat.le_of_ble_eq_true rfl) (s_X7_countFor hg N l0 l1 l2 l3 h r hf)
theorem dX1_classOf_0 : decode cX1_classOf 0 = .ok (.iconst 0, 1) := by decide +kernel
theorem dX1_classOf_1 : decode cX1_classOf 1 = .ok (.istore 4, 2) := by decide +kernel
theorem dX1_classOf_3 : decode cX1_classOf 3 = .ok (.iload 4, 2) := by decide +kernel
theorem dX1_classOf_5 : decode cX1_classOf 5 = .ok (.aload_n 0, 1) := by decide +kernel
theorem dX1_classOf_6 : decode cX1_classOf 6 = .ok (.invokevirtual 16, 3) := by decide +kernel
theorem dX1_classOf_9 : decode cX1_classOf 9 = .ok (.if_icmp .ge 52, 3) := by decide +kernel
theorem dX1_classOf_12 : decode cX1_classOf 12 = .ok (.iload 4, 2) := by decide +kernel
theorem dX1_classOf_14 : decode cX1_classOf 14 = .ok (.iconst 3, 1) := by decide +kernel
theorem dX1_classOf_15 : decode cX1_classOf 15 = .ok (.imul, 1) := by decide +kernel
theorem dX1_classOf_16 : decode cX1_classOf 16 = .ok (.istore 5, 2) := by decide +kernel
theorem dX1_classOf_18 : decode cX1_classOf 18 = .ok (.aload_n 1, 1) := by decide +kernel
theorem dX1_classOf_19 : decode cX1_classOf 19 = .ok (.iload_n 2, 1) := by decide +kernel
theorem dX1_classOf_20 : decode cX1_classOf 20 = .ok (.iload_n 3, 1) := by decide +kernel
theorem dX1_classOf_21 : decode cX1_classOf 21 = .ok (.aload_n 0, 1) := by decide +kernel
theorem dX1_classOf_22 : decode cX1_classOf 22 = .ok (.getfield 12, 3) := by decide +kernel
theorem dX1_classOf_25 : decode cX1_classOf 25 = .ok (.iload 5, 2) := by decide +kernel
theorem dX1_classOf_27 : decode cX1_classOf 27 = .ok (.iconst 2, 1) := by decide +kernel
theorem dX1_classOf_28 : decode cX1_classOf 28 = .ok (.iadd, 1) := by decide +kernel
theorem dX1_classOf_29 : decode cX1_classOf 29 = .ok (.iaload, 1) := by decide +kernel
theorem dX1_classOf_30 : decode cX1_classOf 30 = .ok (.invokevirtual 26, 3) := by decide +kernel
theorem dX1_classOf_33 : decode cX1_classOf 33 = .ok (.aload_n 0, 1) := by decide +kernel
theorem dX1_classOf_34 : decode cX1_classOf 34 = .ok (.getfield 12, 3) := by decide +kernel
theorem dX1_classOf_37 : decode cX1_classOf 37 = .ok (.iload 5, 2) := by decide +kernel
theorem dX1_classOf_39 : decode cX1_classOf 39 = .ok (.iconst 1, 1) := by decide +kernel
theorem dX1_classOf_40 : decode cX1_classOf 40 = .ok (.iadd, 1) := by decide +kernel
theorem dX1_classOf_41 : decode cX1_classOf 41 = .ok (.iaload, 1) := by decide +kernel
theorem dX1_classOf_42 : decode cX1_classOf 42 = .ok (.if_icmp .lt 13, 3) := by decide +kernel
theorem dX1_classOf_45 : decode cX1_classOf 45 = .ok (.aload_n 0, 1) := by decide +kernel
theorem dX1_classOf_46 : decode cX1_classOf 46 = .ok (.getfield 12, 3) := by decide +kernel
theorem dX1_classOf_49 : decode cX1_classOf 49 = .ok (.iload 5, 2) := by decide +kernel
theorem dX1_classOf_51 : decode cX1_classOf 51 = .ok (.iconst 0, 1) := by decide +kernel
theorem dX1_classOf_52 : decode cX1_classOf 52 = .ok (.iadd, 1) := by decide +kernel
theorem dX1_classOf_53 : decode cX1_classOf 53 = .ok (.iaload, 1) := by decide +kernel
theorem dX1_classOf_54 : decode cX1_classOf 54 = .ok (.ireturn, 1) := by decide +kernel
theorem dX1_classOf_55 : decode cX1_classOf 55 = .ok (.iinc 4 1, 3) := by decide +kernel
theorem dX1_classOf_58 : decode cX1_classOf 58 = .ok (.goto (-55), 3) := by decide +kernel
theorem dX1_classOf_61 : decode cX1_classOf 61 = .ok (.iconst 0, 1) := by decide +kernel
theorem dX1_classOf_62 : decode cX1_classOf 62 = .ok (.ireturn, 1) := by decide +kernel
def f_X1_classOf_3 (N : Nat) : Nat → Nat → Option Nat → Int32 → Int32 → Int32 → zH → Option Int32
  | 0, _, _, _, _, _, _ => none
  | n + 1, l0, l1, l2, l3, l4, h => (zck h 1 (some l0)).bind fun q1 => (f_X1_count N q1 h).bind fun x1 => if x1 ≤ l4 then some (0 : Int32) else (zgR h 1 (some l0) 0).bind fun x2 => (zld h 0 x2 ((l4 * (3 : Int32)) + (2 : Int32))).bind fun x3 => (zck h 7 l1).bind fun q2 => (f_X7_countFor N q2 l2 l3 x3 h).bind fun x4 => (zgR h 1 (some l0) 0).bind fun x5 => (zld h 0 x5 ((l4 * (3 : Int32)) + (1 : Int32))).bind fun x6 => if x4 < x6 then f_X1_classOf_3 N n l0 l1 l2 l3 (l4 + (1 : Int32)) h else (zgR h 1 (some l0) 0).bind fun x7 => (zld h 0 x7 ((l4 * (3 : Int32)) + (0 : Int32))).bind fun x8 => some x8
set_option maxHeartbeats 4000000 in
set_option maxRecDepth 100000 in
theorem s_X1_classOf_3 {g : zG} (hg : g.2.1.map (fun q => q.2) = zty) {h0 : zH} (N : Nat) : ∀ (n : Nat) (l0 : Nat) (l1 : Option Nat) (l2 : Int32) (l3 : Int32) (l4 : Int32) (h : zH) (r : Int32), f_X1_classOf_3 N n l0 l1 l2 l3 l4 h = some r → zR g jX1_classOf h0 3 [some (zr (some l0)), some (zr l1), some (zi l2), some (zi l3), some (zi l4), none] [] h (some (zi r)) h := by
  intro n
  induction n with
  | zero =>
    intro l0 l1 l2 l3 l4 h r hf
    cases hf
  | succ n ih =>
    intro l0 l1 l2 l3 l4 h r hf
    rw [f_X1_classOf_3] at hf
    refine zr_iload (x := l4) dX1_classOf_3 rfl ?_
    refine zr_aload_n (v := .inl (some l0)) dX1_classOf_5 rfl rfl ?_
    revert hf; refine zbi (fun q1 e_q1 hf => ?_)
    revert hf; refine zbi (fun x1 e_x1 hf => ?_)
    refine zq_callV (J' := jX1_count) (as := []) (rest := [zi l4]) (r1 := (some (zi x1))) (q := (RX1, TX1, 1)) kw_19 km_X1_count kt_26 dX1_classOf_6 rfl (Nat.le_of_ble_eq_true rfl) rfl rfl e_q1 rfl (c_X1_count hg e_x1) ?_
    by_cases hc1 : x1 ≤ l4
    · rw [if_pos hc1] at hf
      refine zr_icge_t (tgt := 61) dX1_classOf_9 (by decide) hc1 ?_
      refine zr_iconst (v := (0 : Int32)) dX1_classOf_61 (by decide) ?_
      cases hf
      exact zr_ret _ rfl dX1_classOf_62
    · rw [if_neg hc1] at hf
      refine zr_icge_f 61 dX1_classOf_9 (by decide) hc1 ?_
      refine zr_iload (x := l4) dX1_classOf_12 rfl ?_
      refine zr_iconst (v := (3 : Int32)) dX1_classOf_14 (by decide) ?_
      refine zr_imul dX1_classOf_15 ?_
      refine zq_istore (x := (l4 * (3 : Int32))) (L' := [some (zr (some l0)), some (zr l1), some (zi l2), some (zi l3), some (zi l4), some (zi (l4 * (3 : Int32)))]) dX1_classOf_16 (by decide) rfl ?_
      refine zr_aload_n (v := .inl l1) dX1_classOf_18 rfl rfl ?_
      refine zr_iload_n (x := l2) dX1_classOf_19 rfl rfl ?_
      refine zr_iload_n (x := l3) dX1_classOf_20 rfl rfl ?_
      refine zr_aload_n (v := .inl (some l0)) dX1_classOf_21 rfl rfl ?_
      revert hf; refine zbi (fun x2 e_x2 hf => ?_)
      refine zq_getR kg_13 dX1_classOf_22 e_x2 ?_
      refine zr_iload (x := (l4 * (3 : Int32))) dX1_classOf_25 rfl ?_
      refine zr_iconst (v := (2 : Int32)) dX1_classOf_27 (by decide) ?_
      refine zr_iadd dX1_classOf_28 ?_
      revert hf; refine zbi (fun x3 e_x3 hf => ?_)
      refine zq_iald dX1_classOf_29 e_x3 ?_
      revert hf; refine zbi (fun q2 e_q2 hf => ?_)
      revert hf; refine zbi (fun x4 e_x4 hf => ?_)
      refine zq_callV (J' := jX7_countFor) (as := [zi l2, zi l3, zi x3]) (rest := []) (r1 := (some (zi x4))) (q := (RX7, TX7, 1)) kw_54 km_X7_countFor kt_28 dX1_classOf_30 rfl (Nat.le_of_ble_eq_true rfl) rfl rfl e_q2 rfl (c_X7_countFor hg e_x4) ?_
      refine zr_aload_n (v := .inl (some l0)) dX1_classOf_33 rfl rfl ?_
      revert hf; refine zbi (fun x5 e_x5 hf => ?_)
      refine zq_getR kg_13 dX1_classOf_34 e_x5 ?_
      refine zr_iload (x := (l4 * (3 : Int32))) dX1_classOf_37 rfl ?_
      refine zr_iconst (v := (1 : Int32)) dX1_classOf_39 (by decide) ?_
      refine zr_iadd dX1_classOf_40 ?_
      revert hf; refine zbi (fun x6 e_x6 hf => ?_)
      refine zq_iald dX1_classOf_41 e_x6 ?_
      by_cases hc2 : x4 < x6
      · rw [if_pos hc2] at hf
        refine zr_iclt_t (tgt := 55) dX1_classOf_42 (by decide) hc2 ?_
        refine zq_iinc (x := l4) (y := (1 : Int32)) (L' := [some (zr (some l0)), some (zr l1), some (zi l2), some (zi l3), some (zi (l4 + (1 : Int32))), some (zi (l4 * (3 : Int32)))]) dX1_classOf_55 rfl (by decide) (by decide) rfl ?_
        refine zr_goto (tgt := 3) dX1_classOf_58 (by decide) ?_
        refine zr_forget 5 (L' := [some (zr (some l0)), some (zr l1), some (zi l2), some (zi l3), some (zi (l4 + (1 : Int32))), none]) rfl ?_
        exact ih l0 l1 l2 l3 (l4 + (1 : Int32)) h r hf
      · rw [if_neg hc2] at hf
        refine zr_iclt_f 55 dX1_classOf_42 (by decide) hc2 ?_
        refine zr_aload_n (v := .inl (some l0)) dX1_classOf_45 rfl rfl ?_
        revert hf; refine zbi (fun x7 e_x7 hf => ?_)
        refine zq_getR kg_13 dX1_classOf_46 e_x7 ?_
        refine zr_iload (x := (l4 * (3 : Int32))) dX1_classOf_49 rfl ?_
        refine zr_iconst (v := (0 : Int32)) dX1_classOf_51 (by decide) ?_
        refine zr_iadd dX1_classOf_52 ?_
        revert hf; refine zbi (fun x8 e_x8 hf => ?_)
        refine zq_iald dX1_classOf_53 e_x8 ?_
        cases hf
        exact zr_ret _ rfl dX1_classOf_54
def f_X1_classOf (N : Nat) (l0 : Nat) (l1 : Option Nat) (l2 : Int32) (l3 : Int32) (h : zH) : Option Int32 := f_X1_classOf_3 N N l0 l1 l2 l3 (0 : Int32) h
set_option maxHeartbeats 4000000 in
set_option maxRecDepth 100000 in
theorem s_X1_classOf {g : zG} (hg : g.2.1.map (fun q => q.2) = zty) {h0 : zH} (N : Nat) (l0 : Nat) (l1 : Option Nat) (l2 : Int32) (l3 : Int32) (h : zH) (r : Int32) (hf : f_X1_classOf N l0 l1 l2 l3 h = some r) : zR g jX1_classOf h0 0 [some (zr (some l0)), some (zr l1), some (zi l2), some (zi l3), none, none] [] h (some (zi r)) h := by
  unfold f_X1_classOf at hf
  refine zr_iconst (v := (0 : Int32)) dX1_classOf_0 (by decide) ?_
  refine zq_istore (x := (0 : Int32)) (L' := [some (zr (some l0)), some (zr l1), some (zi l2), some (zi l3), some (zi (0 : Int32)), none]) dX1_classOf_1 (by decide) rfl ?_
  exact s_X1_classOf_3 hg N N l0 l1 l2 l3 (0 : Int32) h r hf
theorem c_X1_classOf {g : zG} (hg : g.2.1.map (fun q => q.2) = zty) {N : Nat} {l0 : Nat} {l1 : Option Nat} {l2 : Int32} {l3 : Int32} {h : zH} {r : Int32} (hf : f_X1_classOf N l0 l1 l2 l3 h = some r) : zCa g jX1_classOf [zr (some l0), zr l1, zi l2, zi l3] h (some (zi r)) h :=
  zCa.of hg (by decide +kernel) (Nat.le_of_ble_eq_true rfl) (s_X1_classOf hg N l0 l1 l2 l3 h r hf)
theorem dX2_init__0 : decode cX2_init_ 0 = .ok (.aload_n 0, 1) := by decide +kernel
theorem dX2_init__1 : decode cX2_init_ 1 = .ok (.invokespecial 9, 3) := by decide +kernel
theorem dX2_init__4 : decode cX2_init_ 4 = .ok (.aload_n 0, 1) := by decide +kernel
theorem dX2_init__5 : decode cX2_init_ 5 = .ok (.aload_n 1, 1) := by decide +kernel
theorem dX2_init__6 : decode cX2_init_ 6 = .ok (.putfield 14, 3) := by decide +kernel
theorem dX2_init__9 : decode cX2_init_ 9 = .ok (.aload_n 0, 1) := by decide +kernel
theorem dX2_init__10 : decode cX2_init_ 10 = .ok (.aload_n 2, 1) := by decide +kernel
theorem dX2_init__11 : decode cX2_init_ 11 = .ok (.putfield 18, 3) := by decide +kernel
theorem dX2_init__14 : decode cX2_init_ 14 = .ok (.aload_n 0, 1) := by decide +kernel
theorem dX2_init__15 : decode cX2_init_ 15 = .ok (.aload_n 3, 1) := by decide +kernel
theorem dX2_init__16 : decode cX2_init_ 16 = .ok (.putfield 21, 3) := by decide +kernel
theorem dX2_init__19 : decode cX2_init_ 19 = .ok (.return_, 1) := by decide +kernel
def f_X2_init_ (N : Nat) (l0 : Nat) (l1 : Option Nat) (l2 : Option Nat) (l3 : Option Nat) (h : zH) : Option zH := (zpu h 2 (some l0) 0 (zr l1)).bind fun h1 => (zpu h1 2 (some l0) 1 (zr l2)).bind fun h2 => (zpu h2 2 (some l0) 2 (zr l3)).bind fun h3 => some h3
set_option maxHeartbeats 4000000 in
set_option maxRecDepth 100000 in
theorem s_X2_init_ {g : zG} (hg : g.2.1.map (fun q => q.2) = zty) {h0 : zH} (N : Nat) (l0 : Nat) (l1 : Option Nat) (l2 : Option Nat) (l3 : Option Nat) (h : zH) (h' : zH) (hf : f_X2_init_ N l0 l1 l2 l3 h = some h') : zR g jX2_init_ h0 0 [some (zr (some l0)), some (zr l1), some (zr l2), some (zr l3)] [] h none h' := by
  unfold f_X2_init_ at hf
  refine zr_aload_n (v := .inl (some l0)) dX2_init__0 rfl rfl ?_
  refine zr_objInit kw_58 kw_1 kw_2 ⟨Nat.le_of_ble_eq_true rfl, Nat.le_of_ble_eq_true rfl⟩ dX2_init__1 ?_
  refine zr_aload_n (v := .inl (some l0)) dX2_init__4 rfl rfl ?_
  refine zr_aload_n (v := .inl l1) dX2_init__5 rfl rfl ?_
  revert hf; refine zbi (fun h1 e_h1 hf => ?_)
  refine zq_put kp_29 dX2_init__6 (zn_a _ _) e_h1 ?_
  refine zr_aload_n (v := .inl (some l0)) dX2_init__9 rfl rfl ?_
  refine zr_aload_n (v := .inl l2) dX2_init__10 rfl rfl ?_
  revert hf; refine zbi (fun h2 e_h2 hf => ?_)
  refine zq_put kp_30 dX2_init__11 (zn_a _ _) e_h2 ?_
  refine zr_aload_n (v := .inl (some l0)) dX2_init__14 rfl rfl ?_
  refine zr_aload_n (v := .inl l3) dX2_init__15 rfl rfl ?_
  revert hf; refine zbi (fun h3 e_h3 hf => ?_)
  refine zq_put kp_31 dX2_init__16 (zn_a _ _) e_h3 ?_
  cases hf
  exact zr_ret none trivial dX2_init__19
theorem c_X2_init_ {g : zG} (hg : g.2.1.map (fun q => q.2) = zty) {N : Nat} {l0 : Nat} {l1 : Option Nat} {l2 : Option Nat} {l3 : Option Nat} {h : zH} {h' : zH} (hf : f_X2_init_ N l0 l1 l2 l3 h = some h') : zCa g jX2_init_ [zr (some l0), zr l1, zr l2, zr l3] h none h' :=
  zCa.of hg (by decide +kernel) (Nat.le_of_ble_eq_true rfl) (s_X2_init_ hg N l0 l1 l2 l3 h h' hf)
theorem dX2_init_0 : decode cX2_init 0 = .ok (.aload_n 0, 1) := by decide +kernel
theorem dX2_init_1 : decode cX2_init 1 = .ok (.iconst 0, 1) := by decide +kernel
theorem dX2_init_2 : decode cX2_init 2 = .ok (.newarray .int, 2) := by decide +kernel
theorem dX2_init_4 : decode cX2_init 4 = .ok (.iconst 0, 1) := by decide +kernel
theorem dX2_init_5 : decode cX2_init 5 = .ok (.newarray .int, 2) := by decide +kernel
theorem dX2_init_7 : decode cX2_init 7 = .ok (.iconst 0, 1) := by decide +kernel
theorem dX2_init_8 : decode cX2_init 8 = .ok (.newarray .int, 2) := by decide +kernel
theorem dX2_init_10 : decode cX2_init 10 = .ok (.invokespecial 3, 3) := by decide +kernel
theorem dX2_init_13 : decode cX2_init 13 = .ok (.return_, 1) := by decide +kernel
def f_X2_init (N : Nat) (l0 : Nat) (h : zH) : Option zH := zna h 0 (0 : Int32) fun a1 h1 => zna h1 0 (0 : Int32) fun a2 h2 => zna h2 0 (0 : Int32) fun a3 h3 => (f_X2_init_ N l0 (some a1) (some a2) (some a3) h3).bind fun h4 => some h4
set_option maxHeartbeats 4000000 in
set_option maxRecDepth 100000 in
theorem s_X2_init {g : zG} (hg : g.2.1.map (fun q => q.2) = zty) {h0 : zH} (N : Nat) (l0 : Nat) (h : zH) (h' : zH) (hf : f_X2_init N l0 h = some h') : zR g jX2_init h0 0 [some (zr (some l0))] [] h none h' := by
  unfold f_X2_init at hf
  refine zr_aload_n (v := .inl (some l0)) dX2_init_0 rfl rfl ?_
  refine zr_iconst (v := (0 : Int32)) dX2_init_1 (by decide) ?_
  obtain ⟨a1, h1, e_a1, hf⟩ := zna_spec hf
  refine zq_newa (atype := .int) (t := 0) kw_14 rfl (fun _ _ => rfl) (by decide) dX2_init_2 e_a1 ?_
  refine zr_iconst (v := (0 : Int32)) dX2_init_4 (by decide) ?_
  obtain ⟨a2, h2, e_a2, hf⟩ := zna_spec hf
  refine zq_newa (atype := .int) (t := 0) kw_14 rfl (fun _ _ => rfl) (by decide) dX2_init_5 e_a2 ?_
  refine zr_iconst (v := (0 : Int32)) dX2_init_7 (by decide) ?_
  obtain ⟨a3, h3, e_a3, hf⟩ := zna_spec hf
  refine zq_newa (atype := .int) (t := 0) kw_14 rfl (fun _ _ => rfl) (by decide) dX2_init_8 e_a3 ?_
  revert hf; refine zbi (fun h4 e_h4 hf => ?_)
  refine zq_callI (J' := jX2_init_) (as := [zr (some a1), zr (some a2), zr (some a3)]) (rest := []) (r1 := none) (a := l0) kw_62 km_X2_init_ kt_33 dX2_init_10 rfl (Nat.le_of_ble_eq_true rfl) rfl (c_X2_init_ hg e_h4) ?_
  cases hf
  exact zr_ret none trivial dX2_init_13
theorem c_X2_init {g : zG} (hg : g.2.1.map (fun q => q.2) = zty) {N : Nat} {l0 : Nat} {h : zH} {h' : zH} (hf : f_X2_init N l0 h = some h') : zCa g jX2_init [zr (some l0)] h none h' :=
  zCa.of hg (by decide +kernel) (Nat.le_of_ble_eq_true rfl) (s_X2_init hg N l0 h h' hf)
theorem dX2_countLanes_0 : decode cX2_countLanes 0 = .ok (.aload_n 0, 1) := by decide +kernel
theorem dX2_countLanes_1 : decode cX2_countLanes 1 = .ok (.getfield 18, 3) := by decide +kernel
theorem dX2_countLanes_4 : decode cX2_countLanes 4 = .ok (.arraylength, 1) := by decide +kernel
theorem dX2_countLanes_5 : decode cX2_countLanes 5 = .ok (.ireturn, 1) := by decide +kernel
def f_X2_countLanes (N : Nat) (l0 : Nat) (h : zH) : Option Int32 := (zgR h 2 (some l0) 1).bind fun x1 => (zlen h x1).bind fun x2 => some x2
set_option maxHeartbeats 4000000 in
set_option maxRecDepth 100000 in
theorem s_X2_countLanes {g : zG} (hg : g.2.1.map (fun q => q.2) = zty) {h0 : zH} (N : Nat) (l0 : Nat) (h : zH) (r : Int32) (hf : f_X2_countLanes N l0 h = some r) : zR g jX2_countLanes h0 0 [some (zr (some l0))] [] h (some (zi r)) h := by
  unfold f_X2_countLanes at hf
  refine zr_aload_n (v := .inl (some l0)) dX2_countLanes_0 rfl rfl ?_
  revert hf; refine zbi (fun x1 e_x1 hf => ?_)
  refine zq_getR kg_34 dX2_countLanes_1 e_x1 ?_
  revert hf; refine zbi (fun x2 e_x2 hf => ?_)
  refine zq_alen dX2_countLanes_4 e_x2 ?_
  cases hf
  exact zr_ret _ rfl dX2_countLanes_5
theorem c_X2_countLanes {g : zG} (hg : g.2.1.map (fun q => q.2) = zty) {N : Nat} {l0 : Nat} {h : zH} {r : Int32} (hf : f_X2_countLanes N l0 h = some r) : zCa g jX2_countLanes [zr (some l0)] h (some (zi r)) h :=
  zCa.of hg (by decide +kernel) (Nat.le_of_ble_eq_true rfl) (s_X2_countLanes hg N l0 h r hf)
theorem dX2_countPlaces_0 : decode cX2_countPlaces 0 = .ok (.aload_n 0, 1) := by decide +kernel
theorem dX2_countPlaces_1 : decode cX2_countPlaces 1 = .ok (.getfield 21, 3) := by decide +kernel
theorem dX2_countPlaces_4 : decode cX2_countPlaces 4 = .ok (.arraylength, 1) := by decide +kernel
theorem dX2_countPlaces_5 : decode cX2_countPlaces 5 = .ok (.ireturn, 1) := by decide +kernel
def f_X2_countPlaces (N : Nat) (l0 : Nat) (h : zH) : Option Int32 := (zgR h 2 (some l0) 2).bind fun x1 => (zlen h x1).bind fun x2 => some x2
set_option maxHeartbeats 4000000 in
set_option maxRecDepth 100000 in
theorem s_X2_countPlaces {g : zG} (hg : g.2.1.map (fun q => q.2) = zty) {h0 : zH} (N : Nat) (l0 : Nat) (h : zH) (r : Int32) (hf : f_X2_countPlaces N l0 h = some r) : zR g jX2_countPlaces h0 0 [some (zr (some l0))] [] h (some (zi r)) h := by
  unfold f_X2_countPlaces at hf
  refine zr_aload_n (v := .inl (some l0)) dX2_countPlaces_0 rfl rfl ?_
  revert hf; refine zbi (fun x1 e_x1 hf => ?_)
  refine zq_getR kg_35 dX2_countPlaces_1 e_x1 ?_
  revert hf; refine zbi (fun x2 e_x2 hf => ?_)
  refine zq_alen dX2_countPlaces_4 e_x2 ?_
  cases hf
  exact zr_ret _ rfl dX2_countPlaces_5
theorem c_X2_countPlaces {g : zG} (hg : g.2.1.map (fun q => q.2) = zty) {N : Nat} {l0 : Nat} {h : zH} {r : Int32} (hf : f_X2_countPlaces N l0 h = some r) : zCa g jX2_countPlaces [zr (some l0)] h (some (zi r)) h :=
  zCa.of hg (by decide +kernel) (Nat.le_of_ble_eq_true rfl) (s_X2_countPlaces hg N l0 h r hf)
theorem dX2_canAdd_0 : decode cX2_canAdd 0 = .ok (.iload_n 1, 1) := by decide +kernel
theorem dX2_canAdd_1 : decode cX2_canAdd 1 = .ok (.iconst 1, 1) := by decide +kernel
theorem dX2_canAdd_2 : decode cX2_canAdd 2 = .ok (.if_icmp .lt 23, 3) := by decide +kernel
theorem dX2_canAdd_5 : decode cX2_canAdd 5 = .ok (.iload_n 1, 1) := by decide +kernel
theorem dX2_canAdd_6 : decode cX2_canAdd 6 = .ok (.iconst 4, 1) := by decide +kernel
theorem dX2_canAdd_7 : decode cX2_canAdd 7 = .ok (.if_icmp .gt 18, 3) := by decide +kernel
theorem dX2_canAdd_10 : decode cX2_canAdd 10 = .ok (.aload_n 0, 1) := by decide +kernel
theorem dX2_canAdd_11 : decode cX2_canAdd 11 = .ok (.invokevirtual 24, 3) := by decide +kernel
theorem dX2_canAdd_14 : decode cX2_canAdd 14 = .ok (.iload_n 1, 1) := by decide +kernel
theorem dX2_canAdd_15 : decode cX2_canAdd 15 = .ok (.iadd, 1) := by decide +kernel
theorem dX2_canAdd_16 : decode cX2_canAdd 16 = .ok (.bipush 8, 2) := by decide +kernel
theorem dX2_canAdd_18 : decode cX2_canAdd 18 = .ok (.if_icmp .gt 7, 3) := by decide +kernel
theorem dX2_canAdd_21 : decode cX2_canAdd 21 = .ok (.iconst 1, 1) := by decide +kernel
theorem dX2_canAdd_22 : decode cX2_canAdd 22 = .ok (.goto 4, 3) := by decide +kernel
theorem dX2_canAdd_25 : decode cX2_canAdd 25 = .ok (.iconst 0, 1) := by decide +kernel
theorem dX2_canAdd_26 : decode cX2_canAdd 26 = .ok (.ireturn, 1) := by decide +kernel
def f_X2_canAdd (N : Nat) (l0 : Nat) (l1 : Int32) (h : zH) : Option Int32 := if l1 < (1 : Int32) then some (0 : Int32) else if (4 : Int32) < l1 then some (0 : Int32) else (zck h 2 (some l0)).bind fun q1 => (f_X2_countLanes N q1 h).bind fun x1 => if (8 : Int32) < (x1 + l1) then some (0 : Int32) else some (1 : Int32)
set_option maxHeartbeats 4000000 in
set_option maxRecDepth 100000 in
theorem s_X2_canAdd {g : zG} (hg : g.2.1.map (fun q => q.2) = zty) {h0 : zH} (N : Nat) (l0 : Nat) (l1 : Int32) (h : zH) (r : Int32) (hf : f_X2_canAdd N l0 l1 h = some r) : zR g jX2_canAdd h0 0 [some (zr (some l0)), some (zi l1)] [] h (some (zi r)) h := by
  unfold f_X2_canAdd at hf
  refine zr_iload_n (x := l1) dX2_canAdd_0 rfl rfl ?_
  refine zr_iconst (v := (1 : Int32)) dX2_canAdd_1 (by decide) ?_
  by_cases hc1 : l1 < (1 : Int32)
  · rw [if_pos hc1] at hf
    refine zr_iclt_t (tgt := 25) dX2_canAdd_2 (by decide) hc1 ?_
    refine zr_iconst (v := (0 : Int32)) dX2_canAdd_25 (by decide) ?_
    cases hf
    exact zr_ret _ rfl dX2_canAdd_26
  · rw [if_neg hc1] at hf
    refine zr_iclt_f 25 dX2_canAdd_2 (by decide) hc1 ?_
    refine zr_iload_n (x := l1) dX2_canAdd_5 rfl rfl ?_
    refine zr_iconst (v := (4 : Int32)) dX2_canAdd_6 (by decide) ?_
    by_cases hc2 : (4 : Int32) < l1
    · rw [if_pos hc2] at hf
      refine zr_icgt_t (tgt := 25) dX2_canAdd_7 (by decide) hc2 ?_
      refine zr_iconst (v := (0 : Int32)) dX2_canAdd_25 (by decide) ?_
      cases hf
      exact zr_ret _ rfl dX2_canAdd_26
    · rw [if_neg hc2] at hf
      refine zr_icgt_f 25 dX2_canAdd_7 (by decide) hc2 ?_
      refine zr_aload_n (v := .inl (some l0)) dX2_canAdd_10 rfl rfl ?_
      revert hf; refine zbi (fun q1 e_q1 hf => ?_)
      revert hf; refine zbi (fun x1 e_x1 hf => ?_)
      refine zq_callV (J' := jX2_countLanes) (as := []) (rest := []) (r1 := (some (zi x1))) (q := (RX2, TX2, 3)) kw_66 km_X2_countLanes kt_37 dX2_canAdd_11 rfl (Nat.le_of_ble_eq_true rfl) rfl rfl e_q1 rfl (c_X2_countLanes hg e_x1) ?_
      refine zr_iload_n (x := l1) dX2_canAdd_14 rfl rfl ?_
      refine zr_iadd dX2_canAdd_15 ?_
      refine zr_bipush (v := (8 : Int32)) dX2_canAdd_16 (by decide) ?_
      by_cases hc3 : (8 : Int32) < (x1 + l1)
      · rw [if_pos hc3] at hf
        refine zr_icgt_t (tgt := 25) dX2_canAdd_18 (by decide) hc3 ?_
        refine zr_iconst (v := (0 : Int32)) dX2_canAdd_25 (by decide) ?_
        cases hf
        exact zr_ret _ rfl dX2_canAdd_26
      · rw [if_neg hc3] at hf
        refine zr_icgt_f 25 dX2_canAdd_18 (by decide) hc3 ?_
        refine zr_iconst (v := (1 : Int32)) dX2_canAdd_21 (by decide) ?_
        refine zr_goto (tgt := 26) dX2_canAdd_22 (by decide) ?_
        cases hf
        exact zr_ret _ rfl dX2_canAdd_26
theorem c_X2_canAdd {g : zG} (hg : g.2.1.map (fun q => q.2) = zty) {N : Nat} {l0 : Nat} {l1 : Int32} {h : zH} {r : Int32} (hf : f_X2_canAdd N l0 l1 h = some r) : zCa g jX2_canAdd [zr (some l0), zi l1] h (some (zi r)) h :=
  zCa.of hg (by decide +kernel) (Nat.le_of_ble_eq_true rfl) (s_X2_canAdd hg N l0 l1 h r hf)
theorem dJ7_fill_53178_0 : decode cJ7_fill_53178 0 = .ok (.iconst 0, 1) := by decide +kernel
theorem dJ7_fill_53178_1 : decode cJ7_fill_53178 1 = .ok (.istore_n 2, 1) := by decide +kernel
theorem dJ7_fill_53178_2 : decode cJ7_fill_53178 2 = .ok (.aload_n 0, 1) := by decide +kernel
theorem dJ7_fill_53178_3 : decode cJ7_fill_53178 3 = .ok (.arraylength, 1) := by decide +kernel
theorem dJ7_fill_53178_4 : decode cJ7_fill_53178 4 = .ok (.istore_n 3, 1) := by decide +kernel
theorem dJ7_fill_53178_5 : decode cJ7_fill_53178 5 = .ok (.iload_n 2, 1) := by decide +kernel
theorem dJ7_fill_53178_6 : decode cJ7_fill_53178 6 = .ok (.iload_n 3, 1) := by decide +kernel
theorem dJ7_fill_53178_7 : decode cJ7_fill_53178 7 = .ok (.if_icmp .ge 13, 3) := by decide +kernel
theorem dJ7_fill_53178_10 : decode cJ7_fill_53178 10 = .ok (.aload_n 0, 1) := by decide +kernel
theorem dJ7_fill_53178_11 : decode cJ7_fill_53178 11 = .ok (.iload_n 2, 1) := by decide +kernel
theorem dJ7_fill_53178_12 : decode cJ7_fill_53178 12 = .ok (.iload_n 1, 1) := by decide +kernel
theorem dJ7_fill_53178_13 : decode cJ7_fill_53178 13 = .ok (.iastore, 1) := by decide +kernel
theorem dJ7_fill_53178_14 : decode cJ7_fill_53178 14 = .ok (.iinc 2 1, 3) := by decide +kernel
theorem dJ7_fill_53178_17 : decode cJ7_fill_53178 17 = .ok (.goto (-12), 3) := by decide +kernel
theorem dJ7_fill_53178_20 : decode cJ7_fill_53178 20 = .ok (.return_, 1) := by decide +kernel
def f_J7_fill_53178_5 (N : Nat) : Nat → Option Nat → Int32 → Int32 → Int32 → zH → Option zH
  | 0, _, _, _, _, _ => none
  | n + 1, l0, l1, l2, l3, h => if l3 ≤ l2 then some h else (zst h 0 l0 l2 l1).bind fun h1 => f_J7_fill_53178_5 N n l0 l1 (l2 + (1 : Int32)) l3 h1
set_option maxHeartbeats 4000000 in
set_option maxRecDepth 100000 in
theorem s_J7_fill_53178_5 {g : zG} (hg : g.2.1.map (fun q => q.2) = zty) {h0 : zH} (N : Nat) : ∀ (n : Nat) (l0 : Option Nat) (l1 : Int32) (l2 : Int32) (l3 : Int32) (h : zH) (h' : zH), f_J7_fill_53178_5 N n l0 l1 l2 l3 h = some h' → zR g jJ7_fill_53178 h0 5 [some (zr l0), some (zi l1), some (zi l2), some (zi l3)] [] h none h' := by
  intro n
  induction n with
  | zero =>
    intro l0 l1 l2 l3 h h' hf
    cases hf
  | succ n ih =>
    intro l0 l1 l2 l3 h h' hf
    rw [f_J7_fill_53178_5] at hf
    refine zr_iload_n (x := l2) dJ7_fill_53178_5 rfl rfl ?_
    refine zr_iload_n (x := l3) dJ7_fill_53178_6 rfl rfl ?_
    by_cases hc1 : l3 ≤ l2
    · rw [if_pos hc1] at hf
      refine zr_icge_t (tgt := 20) dJ7_fill_53178_7 (by decide) hc1 ?_
      cases hf
      exact zr_ret none trivial dJ7_fill_53178_20
    · rw [if_neg hc1] at hf
      refine zr_icge_f 20 dJ7_fill_53178_7 (by decide) hc1 ?_
      refine zr_aload_n (v := .inl l0) dJ7_fill_53178_10 rfl rfl ?_
      refine zr_iload_n (x := l2) dJ7_fill_53178_11 rfl rfl ?_
      refine zr_iload_n (x := l1) dJ7_fill_53178_12 rfl rfl ?_
      revert hf; refine zbi (fun h1 e_h1 hf => ?_)
      refine zq_iast dJ7_fill_53178_13 e_h1 ?_
      refine zq_iinc (x := l2) (y := (1 : Int32)) (L' := [some (zr l0), some (zi l1), some (zi (l2 + (1 : Int32))), some (zi l3)]) dJ7_fill_53178_14 rfl (by decide) (by decide) rfl ?_
      refine zr_goto (tgt := 5) dJ7_fill_53178_17 (by decide) ?_
      exact ih l0 l1 (l2 + (1 : Int32)) l3 h1 h' hf
def f_J7_fill_53178 (N : Nat) (l0 : Option Nat) (l1 : Int32) (h : zH) : Option zH := (zlen h l0).bind fun x1 => f_J7_fill_53178_5 N N l0 l1 (0 : Int32) x1 h
set_option maxHeartbeats 4000000 in
set_option maxRecDepth 100000 in
theorem s_J7_fill_53178 {g : zG} (hg : g.2.1.map (fun q => q.2) = zty) {h0 : zH} (N : Nat) (l0 : Option Nat) (l1 : Int32) (h : zH) (h' : zH) (hf : f_J7_fill_53178 N l0 l1 h = some h') : zR g jJ7_fill_53178 h0 0 [some (zr l0), some (zi l1), none, none] [] h none h' := by
  unfold f_J7_fill_53178 at hf
  refine zr_iconst (v := (0 : Int32)) dJ7_fill_53178_0 (by decide) ?_
  refine zq_istore_n (x := (0 : Int32)) (L' := [some (zr l0), some (zi l1), some (zi (0 : Int32)), none]) dJ7_fill_53178_1 rfl (by decide) rfl ?_
  refine zr_aload_n (v := .inl l0) dJ7_fill_53178_2 rfl rfl ?_
  revert hf; refine zbi (fun x1 e_x1 hf => ?_)
  refine zq_alen dJ7_fill_53178_3 e_x1 ?_
  refine zq_istore_n (x := x1) (L' := [some (zr l0), some (zi l1), some (zi (0 : Int32)), some (zi x1)]) dJ7_fill_53178_4 rfl (by decide) rfl ?_
  exact s_J7_fill_53178_5 hg N N l0 l1 (0 : Int32) x1 h h' hf
theorem c_J7_fill_53178 {g : zG} (hg : g.2.1.map (fun q => q.2) = zty) {N : Nat} {l0 : Option Nat} {l1 : Int32} {h : zH} {h' : zH} (hf : f_J7_fill_53178 N l0 l1 h = some h') : zCa g jJ7_fill_53178 [zr l0, zi l1] h none h' :=
  zCa.of hg (by decide +kernel) (Nat.le_of_ble_eq_true rfl) (s_J7_fill_53178 hg N l0 l1 h h' hf)
theorem dX2_withBay_0 : decode cX2_withBay 0 = .ok (.aload_n 0, 1) := by decide +kernel
theorem dX2_withBay_1 : decode cX2_withBay 1 = .ok (.iload_n 1, 1) := by decide +kernel
theorem dX2_withBay_2 : decode cX2_withBay 2 = .ok (.invokevirtual 28, 3) := by decide +kernel
theorem dX2_withBay_5 : decode cX2_withBay 5 = .ok (.ifCond .ne 5, 3) := by decide +kernel
theorem dX2_withBay_8 : decode cX2_withBay 8 = .ok (.aload_n 0, 1) := by decide +kernel
theorem dX2_withBay_9 : decode cX2_withBay 9 = .ok (.areturn, 1) := by decide +kernel
theorem dX2_withBay_10 : decode cX2_withBay 10 = .ok (.aload_n 0, 1) := by decide +kernel
theorem dX2_withBay_11 : decode cX2_withBay 11 = .ok (.invokevirtual 24, 3) := by decide +kernel
theorem dX2_withBay_14 : decode cX2_withBay 14 = .ok (.istore_n 2, 1) := by decide +kernel
theorem dX2_withBay_15 : decode cX2_withBay 15 = .ok (.iload_n 2, 1) := by decide +kernel
theorem dX2_withBay_16 : decode cX2_withBay 16 = .ok (.ifCond .ne 7, 3) := by decide +kernel
theorem dX2_withBay_19 : decode cX2_withBay 19 = .ok (.iconst 0, 1) := by decide +kernel
theorem dX2_withBay_20 : decode cX2_withBay 20 = .ok (.goto 13, 3) := by decide +kernel
theorem dX2_withBay_23 : decode cX2_withBay 23 = .ok (.aload_n 0, 1) := by decide +kernel
theorem dX2_withBay_24 : decode cX2_withBay 24 = .ok (.getfield 14, 3) := by decide +kernel
theorem dX2_withBay_27 : decode cX2_withBay 27 = .ok (.iload_n 2, 1) := by decide +kernel
theorem dX2_withBay_28 : decode cX2_withBay 28 = .ok (.iconst 1, 1) := by decide +kernel
theorem dX2_withBay_29 : decode cX2_withBay 29 = .ok (.isub, 1) := by decide +kernel
theorem dX2_withBay_30 : decode cX2_withBay 30 = .ok (.iaload, 1) := by decide +kernel
theorem dX2_withBay_31 : decode cX2_withBay 31 = .ok (.iconst 1, 1) := by decide +kernel
theorem dX2_withBay_32 : decode cX2_withBay 32 = .ok (.iadd, 1) := by decide +kernel
theorem dX2_withBay_33 : decode cX2_withBay 33 = .ok (.istore_n 3, 1) := by decide +kernel
theorem dX2_withBay_34 : decode cX2_withBay 34 = .ok (.aload_n 0, 1) := by decide +kernel
theorem dX2_withBay_35 : decode cX2_withBay 35 = .ok (.getfield 14, 3) := by decide +kernel
theorem dX2_withBay_38 : decode cX2_withBay 38 = .ok (.iload_n 2, 1) := by decide +kernel
theorem dX2_withBay_39 : decode cX2_withBay 39 = .ok (.iload_n 1, 1) := by decide +kernel
theorem dX2_withBay_40 : decode cX2_withBay 40 = .ok (.iadd, 1) := by decide +kernel
theorem dX2_withBay_41 : decode cX2_withBay 41 = .ok (.invokestatic 32, 3) := by decide +kernel
theorem dX2_withBay_44 : decode cX2_withBay 44 = .ok (.astore 4, 2) := by decide +kernel
theorem dX2_withBay_46 : decode cX2_withBay 46 = .ok (.aload_n 0, 1) := by decide +kernel
theorem dX2_withBay_47 : decode cX2_withBay 47 = .ok (.getfield 18, 3) := by decide +kernel
theorem dX2_withBay_50 : decode cX2_withBay 50 = .ok (.iload_n 2, 1) := by decide +kernel
theorem dX2_withBay_51 : decode cX2_withBay 51 = .ok (.iload_n 1, 1) := by decide +kernel
theorem dX2_withBay_52 : decode cX2_withBay 52 = .ok (.iadd, 1) := by decide +kernel
theorem dX2_withBay_53 : decode cX2_withBay 53 = .ok (.invokestatic 32, 3) := by decide +kernel
theorem dX2_withBay_56 : decode cX2_withBay 56 = .ok (.astore 5, 2) := by decide +kernel
theorem dX2_withBay_58 : decode cX2_withBay 58 = .ok (.iload_n 2, 1) := by decide +kernel
theorem dX2_withBay_59 : decode cX2_withBay 59 = .ok (.istore 6, 2) := by decide +kernel
theorem dX2_withBay_61 : decode cX2_withBay 61 = .ok (.iload 6, 2) := by decide +kernel
theorem dX2_withBay_63 : decode cX2_withBay 63 = .ok (.iload_n 2, 1) := by decide +kernel
theorem dX2_withBay_64 : decode cX2_withBay 64 = .ok (.iload_n 1, 1) := by decide +kernel
theorem dX2_withBay_65 : decode cX2_withBay 65 = .ok (.iadd, 1) := by decide +kernel
theorem dX2_withBay_66 : decode cX2_withBay 66 = .ok (.if_icmp .ge 21, 3) := by decide +kernel
theorem dX2_withBay_69 : decode cX2_withBay 69 = .ok (.aload 4, 2) := by decide +kernel
theorem dX2_withBay_71 : decode cX2_withBay 71 = .ok (.iload 6, 2) := by decide +kernel
theorem dX2_withBay_73 : decode cX2_withBay 73 = .ok (.iload_n 3, 1) := by decide +kernel
theorem dX2_withBay_74 : decode cX2_withBay 74 = .ok (.iastore, 1) := by decide +kernel
theorem dX2_withBay_75 : decode cX2_withBay 75 = .ok (.aload 5, 2) := by decide +kernel
theorem dX2_withBay_77 : decode cX2_withBay 77 = .ok (.iload 6, 2) := by decide +kernel
theorem dX2_withBay_79 : decode cX2_withBay 79 = .ok (.iconst 0, 1) := by decide +kernel
theorem dX2_withBay_80 : decode cX2_withBay 80 = .ok (.iastore, 1) := by decide +kernel
theorem dX2_withBay_81 : decode cX2_withBay 81 = .ok (.iinc 6 1, 3) := by decide +kernel
theorem dX2_withBay_84 : decode cX2_withBay 84 = .ok (.goto (-23), 3) := by decide +kernel
theorem dX2_withBay_87 : decode cX2_withBay 87 = .ok (.iload_n 2, 1) := by decide +kernel
theorem dX2_withBay_88 : decode cX2_withBay 88 = .ok (.iload_n 1, 1) := by decide +kernel
theorem dX2_withBay_89 : decode cX2_withBay 89 = .ok (.iadd, 1) := by decide +kernel
theorem dX2_withBay_90 : decode cX2_withBay 90 = .ok (.iconst 2, 1) := by decide +kernel
theorem dX2_withBay_91 : decode cX2_withBay 91 = .ok (.imul, 1) := by decide +kernel
theorem dX2_withBay_92 : decode cX2_withBay 92 = .ok (.newarray .int, 2) := by decide +kernel
theorem dX2_withBay_94 : decode cX2_withBay 94 = .ok (.astore 6, 2) := by decide +kernel
theorem dX2_withBay_96 : decode cX2_withBay 96 = .ok (.aload 6, 2) := by decide +kernel
theorem dX2_withBay_98 : decode cX2_withBay 98 = .ok (.iconst (-1), 1) := by decide +kernel
theorem dX2_withBay_99 : decode cX2_withBay 99 = .ok (.invokestatic 38, 3) := by decide +kernel
theorem dX2_withBay_102 : decode cX2_withBay 102 = .ok (.new 4, 3) := by decide +kernel
theorem dX2_withBay_105 : decode cX2_withBay 105 = .ok (.dup, 1) := by decide +kernel
theorem dX2_withBay_106 : decode cX2_withBay 106 = .ok (.aload 4, 2) := by decide +kernel
theorem dX2_withBay_108 : decode cX2_withBay 108 = .ok (.aload 5, 2) := by decide +kernel
theorem dX2_withBay_110 : decode cX2_withBay 110 = .ok (.aload 6, 2) := by decide +kernel
theorem dX2_withBay_112 : decode cX2_withBay 112 = .ok (.invokespecial 3, 3) := by decide +kernel
theorem dX2_withBay_115 : decode cX2_withBay 115 = .ok (.areturn, 1) := by decide +kernel
def f_X2_withBay_61 (N : Nat) : Nat → Int32 → Int32 → Int32 → Option Nat → Option Nat → Int32 → zH → Option ((Option Nat) × zH)
  | 0, _, _, _, _, _, _, _ => none
  | n + 1, l1, l2, l3, l4, l5, l6, h => if (l2 + l1) ≤ l6 then zna h 0 ((l2 + l1) * (2 : Int32)) fun a1 h1 => (f_J7_fill_53178 N (some a1) ((-1) : Int32) h1).bind fun h2 => znw h2 (.inr (2, [zr none, zr none, zr none])) fun a2 h3 => (f_X2_init_ N a2 l4 l5 (some a1) h3).bind fun h4 => some ((some a2), h4) else (zst h 0 l4 l6 l3).bind fun h5 => (zst h5 0 l5 l6 (0 : Int32)).bind fun h6 => f_X2_withBay_61 N n l1 l2 l3 l4 l5 (l6 + (1 : Int32)) h6
set_option maxHeartbeats 4000000 in
set_option maxRecDepth 100000 in
theorem s_X2_withBay_61 {g : zG} (hg : g.2.1.map (fun q => q.2) = zty) {h0 : zH} (N : Nat) : ∀ (n : Nat) (l1 : Int32) (l2 : Int32) (l3 : Int32) (l4 : Option Nat) (l5 : Option Nat) (l6 : Int32) (h : zH) (r : Option Nat) (h' : zH), f_X2_withBay_61 N n l1 l2 l3 l4 l5 l6 h = some (r, h') → zR g jX2_withBay h0 61 [none, some (zi l1), some (zi l2), some (zi l3), some (zr l4), some (zr l5), some (zi l6)] [] h (some (zr r)) h' := by
  intro n
  induction n with
  | zero =>
    intro l1 l2 l3 l4 l5 l6 h r h' hf
    cases hf
  | succ n ih =>
    intro l1 l2 l3 l4 l5 l6 h r h' hf
    rw [f_X2_withBay_61] at hf
    refine zr_iload (x := l6) dX2_withBay_61 rfl ?_
    refine zr_iload_n (x := l2) dX2_withBay_63 rfl rfl ?_
    refine zr_iload_n (x := l1) dX2_withBay_64 rfl rfl ?_
    refine zr_iadd dX2_withBay_65 ?_
    by_cases hc1 : (l2 + l1) ≤ l6
    · rw [if_pos hc1] at hf
      refine zr_icge_t (tgt := 87) dX2_withBay_66 (by decide) hc1 ?_
      refine zr_iload_n (x := l2) dX2_withBay_87 rfl rfl ?_
      refine zr_iload_n (x := l1) dX2_withBay_88 rfl rfl ?_
      refine zr_iadd dX2_withBay_89 ?_
      refine zr_iconst (v := (2 : Int32)) dX2_withBay_90 (by decide) ?_
      refine zr_imul dX2_withBay_91 ?_
      obtain ⟨a1, h1, e_a1, hf⟩ := zna_spec hf
      refine zq_newa (atype := .int) (t := 0) kw_14 rfl (fun _ _ => rfl) (by decide) dX2_withBay_92 e_a1 ?_
      refine zq_astore (v := .inl (some a1)) (L' := [none, some (zi l1), some (zi l2), some (zi l3), some (zr l4), some (zr l5), some (zr (some a1))]) dX2_withBay_94 (by decide) rfl ?_
      refine zr_aload (v := .inl (some a1)) dX2_withBay_96 rfl ?_
      refine zr_iconst (v := ((-1) : Int32)) dX2_withBay_98 (by decide) ?_
      revert hf; refine zbi (fun h2 e_h2 hf => ?_)
      refine zq_callS (J' := jJ7_fill_53178) (as := [zr (some a1), zi ((-1) : Int32)]) (rest := []) (r1 := none) kw_70 km_J7_fill_53178 kt_39 dX2_withBay_99 rfl (Nat.le_of_ble_eq_true rfl) rfl (c_J7_fill_53178 hg e_h2) ?_
      obtain ⟨a2, h3, e_a2, e_h3, hf⟩ := znw_spec hf
      refine zq_new kn_40 dX2_withBay_102 e_a2 e_h3 ?_
      refine zr_dup dX2_withBay_105 ?_
      refine zr_aload (v := .inl l4) dX2_withBay_106 rfl ?_
      refine zr_aload (v := .inl l5) dX2_withBay_108 rfl ?_
      refine zr_aload (v := .inl (some a1)) dX2_withBay_110 rfl ?_
      revert hf; refine zbi (fun h4 e_h4 hf => ?_)
      refine zq_callI (J' := jX2_init_) (as := [zr l4, zr l5, zr (some a1)]) (rest := [zr (some a2)]) (r1 := none) (a := a2) kw_62 km_X2_init_ kt_41 dX2_withBay_112 rfl (Nat.le_of_ble_eq_true rfl) rfl (c_X2_init_ hg e_h4) ?_
      cases hf
      exact zr_ret _ (Or.inl ⟨_, rfl⟩) dX2_withBay_115
    · rw [if_neg hc1] at hf
      refine zr_icge_f 87 dX2_withBay_66 (by decide) hc1 ?_
      refine zr_aload (v := .inl l4) dX2_withBay_69 rfl ?_
      refine zr_iload (x := l6) dX2_withBay_71 rfl ?_
      refine zr_iload_n (x := l3) dX2_withBay_73 rfl rfl ?_
      revert hf; refine zbi (fun h5 e_h5 hf => ?_)
      refine zq_iast dX2_withBay_74 e_h5 ?_
      refine zr_aload (v := .inl l5) dX2_withBay_75 rfl ?_
      refine zr_iload (x := l6) dX2_withBay_77 rfl ?_
      refine zr_iconst (v := (0 : Int32)) dX2_withBay_79 (by decide) ?_
      revert hf; refine zbi (fun h6 e_h6 hf => ?_)
      refine zq_iast dX2_withBay_80 e_h6 ?_
      refine zq_iinc (x := l6) (y := (1 : Int32)) (L' := [none, some (zi l1), some (zi l2), some (zi l3), some (zr l4), some (zr l5), some (zi (l6 + (1 : Int32)))]) dX2_withBay_81 rfl (by decide) (by decide) rfl ?_
      refine zr_goto (tgt := 61) dX2_withBay_84 (by decide) ?_
      exact ih l1 l2 l3 l4 l5 (l6 + (1 : Int32)) h6 r h' hf
def f_X2_withBay_33 (N : Nat) (l0 : Nat) (l1 : Int32) (l2 : Int32) (s0 : Int32) (h : zH) : Option ((Option Nat) × zH) := (zgR h 2 (some l0) 0).bind fun x1 => zb2 (f_J7_copyOf_59c91 N x1 (l2 + l1) h) fun x2 h1 => (zgR h1 2 (some l0) 1).bind fun x3 => zb2 (f_J7_copyOf_59c91 N x3 (l2 + l1) h1) fun x4 h2 => f_X2_withBay_61 N N l1 l2 s0 x2 x4 l2 h2
set_option maxHeartbeats 4000000 in
set_option maxRecDepth 100000 in
theorem s_X2_withBay_33 {g : zG} (hg : g.2.1.map (fun q => q.2) = zty) {h0 : zH} (N : Nat) (l0 : Nat) (l1 : Int32) (l2 : Int32) (s0 : Int32) (h : zH) (r : Option Nat) (h' : zH) (hf : f_X2_withBay_33 N l0 l1 l2 s0 h = some (r, h')) : zR g jX2_withBay h0 33 [some (zr (some l0)), some (zi l1), some (zi l2), none, none, none, none] [zi s0] h (some (zr r)) h' := by
  unfold f_X2_withBay_33 at hf
  refine zq_istore_n (x := s0) (L' := [some (zr (some l0)), some (zi l1), some (zi l2), some (zi s0), none, none, none]) dX2_withBay_33 rfl (by decide) rfl ?_
  refine zr_aload_n (v := .inl (some l0)) dX2_withBay_34 rfl rfl ?_
  revert hf; refine zbi (fun x1 e_x1 hf => ?_)
  refine zq_getR kg_42 dX2_withBay_35 e_x1 ?_
  refine zr_iload_n (x := l2) dX2_withBay_38 rfl rfl ?_
  refine zr_iload_n (x := l1) dX2_withBay_39 rfl rfl ?_
  refine zr_iadd dX2_withBay_40 ?_
  revert hf; refine zbi2 (fun x2 h1 e_x2 hf => ?_)
  refine zq_callS (J' := jJ7_copyOf_59c91) (as := [zr x1, zi (l2 + l1)]) (rest := []) (r1 := (some (zr x2))) kw_75 km_J7_copyOf_59c91 kt_43 dX2_withBay_41 rfl (Nat.le_of_ble_eq_true rfl) rfl (c_J7_copyOf_59c91 hg e_x2) ?_
  refine zq_astore (v := .inl x2) (L' := [some (zr (some l0)), some (zi l1), some (zi l2), some (zi s0), some (zr x2), none, none]) dX2_withBay_44 (by decide) rfl ?_
  refine zr_aload_n (v := .inl (some l0)) dX2_withBay_46 rfl rfl ?_
  revert hf; refine zbi (fun x3 e_x3 hf => ?_)
  refine zq_getR kg_34 dX2_withBay_47 e_x3 ?_
  refine zr_iload_n (x := l2) dX2_withBay_50 rfl rfl ?_
  refine zr_iload_n (x := l1) dX2_withBay_51 rfl rfl ?_
  refine zr_iadd dX2_withBay_52 ?_
  revert hf; refine zbi2 (fun x4 h2 e_x4 hf => ?_)
  refine zq_callS (J' := jJ7_copyOf_59c91) (as := [zr x3, zi (l2 + l1)]) (rest := []) (r1 := (some (zr x4))) kw_75 km_J7_copyOf_59c91 kt_43 dX2_withBay_53 rfl (Nat.le_of_ble_eq_true rfl) rfl (c_J7_copyOf_59c91 hg e_x4) ?_
  refine zq_astore (v := .inl x4) (L' := [some (zr (some l0)), some (zi l1), some (zi l2), some (zi s0), some (zr x2), some (zr x4), none]) dX2_withBay_56 (by decide) rfl ?_
  refine zr_iload_n (x := l2) dX2_withBay_58 rfl rfl ?_
  refine zq_istore (x := l2) (L' := [some (zr (some l0)), some (zi l1), some (zi l2), some (zi s0), some (zr x2), some (zr x4), some (zi l2)]) dX2_withBay_59 (by decide) rfl ?_
  refine zr_forget 0 (L' := [none, some (zi l1), some (zi l2), some (zi s0), some (zr x2), some (zr x4), some (zi l2)]) rfl ?_
  exact s_X2_withBay_61 hg N N l1 l2 s0 x2 x4 l2 h2 r h' hf
def f_X2_withBay (N : Nat) (l0 : Nat) (l1 : Int32) (h : zH) : Option ((Option Nat) × zH) := (zck h 2 (some l0)).bind fun q1 => (f_X2_canAdd N q1 l1 h).bind fun x1 => if x1 = 0 then some ((some l0), h) else (zck h 2 (some l0)).bind fun q2 => (f_X2_countLanes N q2 h).bind fun x2 => if x2 = 0 then f_X2_withBay_33 N l0 l1 x2 (0 : Int32) h else (zgR h 2 (some l0) 0).bind fun x3 => (zld h 0 x3 (x2 - (1 : Int32))).bind fun x4 => f_X2_withBay_33 N l0 l1 x2 (x4 + (1 : Int32)) h
set_option maxHeartbeats 4000000 in
set_option maxRecDepth 100000 in
theorem s_X2_withBay {g : zG} (hg : g.2.1.map (fun q => q.2) = zty) {h0 : zH} (N : Nat) (l0 : Nat) (l1 : Int32) (h : zH) (r : Option Nat) (h' : zH) (hf : f_X2_withBay N l0 l1 h = some (r, h')) : zR g jX2_withBay h0 0 [some (zr (some l0)), some (zi l1), none, none, none, none, none] [] h (some (zr r)) h' := by
  unfold f_X2_withBay at hf
  refine zr_aload_n (v := .inl (some l0)) dX2_withBay_0 rfl rfl ?_
  refine zr_iload_n (x := l1) dX2_withBay_1 rfl rfl ?_
  revert hf; refine zbi (fun q1 e_q1 hf => ?_)
  revert hf; refine zbi (fun x1 e_x1 hf => ?_)
  refine zq_callV (J' := jX2_canAdd) (as := [zi l1]) (rest := []) (r1 := (some (zi x1))) (q := (RX2, TX2, 3)) kw_76 km_X2_canAdd kt_45 dX2_withBay_2 rfl (Nat.le_of_ble_eq_true rfl) rfl rfl e_q1 rfl (c_X2_canAdd hg e_x1) ?_
  by_cases hc1 : x1 = 0
  · rw [if_pos hc1] at hf
    refine zr_ifne_f 10 dX2_withBay_5 (by decide) hc1 ?_
    refine zr_aload_n (v := .inl (some l0)) dX2_withBay_8 rfl rfl ?_
    cases hf
    exact zr_ret _ (Or.inl ⟨_, rfl⟩) dX2_withBay_9
  · rw [if_neg hc1] at hf
    refine zr_ifne_t (tgt := 10) dX2_withBay_5 (by decide) hc1 ?_
    refine zr_aload_n (v := .inl (some l0)) dX2_withBay_10 rfl rfl ?_
    revert hf; refine zbi (fun q2 e_q2 hf => ?_)
    revert hf; refine zbi (fun x2 e_x2 hf => ?_)
    refine zq_callV (J' := jX2_countLanes) (as := []) (rest := []) (r1 := (some (zi x2))) (q := (RX2, TX2, 3)) kw_66 km_X2_countLanes kt_46 dX2_withBay_11 rfl (Nat.le_of_ble_eq_true rfl) rfl rfl e_q2 rfl (c_X2_countLanes hg e_x2) ?_
    refine zq_istore_n (x := x2) (L' := [some (zr (some l0)), some (zi l1), some (zi x2), none, none, none, none]) dX2_withBay_14 rfl (by decide) rfl ?_
    refine zr_iload_n (x := x2) dX2_withBay_15 rfl rfl ?_
    by_cases hc2 : x2 = 0
    · rw [if_pos hc2] at hf
      refine zr_ifne_f 23 dX2_withBay_16 (by decide) hc2 ?_
      refine zr_iconst (v := (0 : Int32)) dX2_withBay_19 (by decide) ?_
      refine zr_goto (tgt := 33) dX2_withBay_20 (by decide) ?_
      exact s_X2_withBay_33 hg N l0 l1 x2 (0 : Int32) h r h' hf
    · rw [if_neg hc2] at hf
      refine zr_ifne_t (tgt := 23) dX2_withBay_16 (by decide) hc2 ?_
      refine zr_aload_n (v := .inl (some l0)) dX2_withBay_23 rfl rfl ?_
      revert hf; refine zbi (fun x3 e_x3 hf => ?_)
      refine zq_getR kg_42 dX2_withBay_24 e_x3 ?_
      refine zr_iload_n (x := x2) dX2_withBay_27 rfl rfl ?_
      refine zr_iconst (v := (1 : Int32)) dX2_withBay_28 (by decide) ?_
      refine zr_isub dX2_withBay_29 ?_
      revert hf; refine zbi (fun x4 e_x4 hf => ?_)
      refine zq_iald dX2_withBay_30 e_x4 ?_
      refine zr_iconst (v := (1 : Int32)) dX2_withBay_31 (by decide) ?_
      refine zr_iadd dX2_withBay_32 ?_
      exact s_X2_withBay_33 hg N l0 l1 x2 (x4 + (1 : Int32)) h r h' hf
theorem c_X2_withBay {g : zG} (hg : g.2.1.map (fun q => q.2) = zty) {N : Nat} {l0 : Nat} {l1 : Int32} {h : zH} {r : Option Nat} {h' : zH} (hf : f_X2_withBay N l0 l1 h = some (r, h')) : zCa g jX2_withBay [zr (some l0), zi l1] h (some (zr r)) h' :=
  zCa.of hg (by decide +kernel) (Nat.le_of_ble_eq_true rfl) (s_X2_withBay hg N l0 l1 h r h' hf)
theorem dX2_withSeats_0 : decode cX2_withSeats 0 = .ok (.new 4, 3) := by decide +kernel
theorem dX2_withSeats_3 : decode cX2_withSeats 3 = .ok (.dup, 1) := by decide +kernel
theorem dX2_withSeats_4 : decode cX2_withSeats 4 = .ok (.aload_n 0, 1) := by decide +kernel
theorem dX2_withSeats_5 : decode cX2_withSeats 5 = .ok (.getfield 14, 3) := by decide +kernel
theorem dX2_withSeats_8 : decode cX2_withSeats 8 = .ok (.aload_n 0, 1) := by decide +kernel
theorem dX2_withSeats_9 : decode cX2_withSeats 9 = .ok (.getfield 18, 3) := by decide +kernel
theorem dX2_withSeats_12 : decode cX2_withSeats 12 = .ok (.aload_n 1, 1) := by decide +kernel
theorem dX2_withSeats_13 : decode cX2_withSeats 13 = .ok (.invokespecial 3, 3) := by decide +kernel
theorem dX2_withSeats_16 : decode cX2_withSeats 16 = .ok (.areturn, 1) := by decide +kernel
def f_X2_withSeats (N : Nat) (l0 : Nat) (l1 : Option Nat) (h : zH) : Option ((Option Nat) × zH) := znw h (.inr (2, [zr none, zr none, zr none])) fun a1 h1 => (zgR h1 2 (some l0) 0).bind fun x1 => (zgR h1 2 (some l0) 1).bind fun x2 => (f_X2_init_ N a1 x1 x2 l1 h1).bind fun h2 => some ((some a1), h2)
set_option maxHeartbeats 4000000 in
set_option maxRecDepth 100000 in
theorem s_X2_withSeats {g : zG} (hg : g.2.1.map (fun q => q.2) = zty) {h0 : zH} (N : Nat) (l0 : Nat) (l1 : Option Nat) (h : zH) (r : Option Nat) (h' : zH) (hf : f_X2_withSeats N l0 l1 h = some (r, h')) : zR g jX2_withSeats h0 0 [some (zr (some l0)), some (zr l1)] [] h (some (zr r)) h' := by
  unfold f_X2_withSeats at hf
  obtain ⟨a1, h1, e_a1, e_h1, hf⟩ := znw_spec hf
  refine zq_new kn_40 dX2_withSeats_0 e_a1 e_h1 ?_
  refine zr_dup dX2_withSeats_3 ?_
  refine zr_aload_n (v := .inl (some l0)) dX2_withSeats_4 rfl rfl ?_
  revert hf; refine zbi (fun x1 e_x1 hf => ?_)
  refine zq_getR kg_42 dX2_withSeats_5 e_x1 ?_
  refine zr_aload_n (v := .inl (some l0)) dX2_withSeats_8 rfl rfl ?_
  revert hf; refine zbi (fun x2 e_x2 hf => ?_)
  refine zq_getR kg_34 dX2_withSeats_9 e_x2 ?_
  refine zr_aload_n (v := .inl l1) dX2_withSeats_12 rfl rfl ?_
  revert hf; refine zbi (fun h2 e_h2 hf => ?_)
  refine zq_callI (J' := jX2_init_) (as := [zr x1, zr x2, zr l1]) (rest := [zr (some a1)]) (r1 := none) (a := a1) kw_62 km_X2_init_ kt_47 dX2_withSeats_13 rfl (Nat.le_of_ble_eq_true rfl) rfl (c_X2_init_ hg e_h2) ?_
  cases hf
  exact zr_ret _ (Or.inl ⟨_, rfl⟩) dX2_withSeats_16
theorem c_X2_withSeats {g : zG} (hg : g.2.1.map (fun q => q.2) = zty) {N : Nat} {l0 : Nat} {l1 : Option Nat} {h : zH} {r : Option Nat} {h' : zH} (hf : f_X2_withSeats N l0 l1 h = some (r, h')) : zCa g jX2_withSeats [zr (some l0), zr l1] h (some (zr r)) h' :=
  zCa.of hg (by decide +kernel) (Nat.le_of_ble_eq_true rfl) (s_X2_withSeats hg N l0 l1 h r h' hf)
theorem dX2_placeOf_0 : decode cX2_placeOf 0 = .ok (.iconst 0, 1) := by decide +kernel
theorem dX2_placeOf_1 : decode cX2_placeOf 1 = .ok (.istore_n 2, 1) := by decide +kernel
theorem dX2_placeOf_2 : decode cX2_placeOf 2 = .ok (.iload_n 2, 1) := by decide +kernel
theorem dX2_placeOf_3 : decode cX2_placeOf 3 = .ok (.aload_n 0, 1) := by decide +kernel
theorem dX2_placeOf_4 : decode cX2_placeOf 4 = .ok (.getfield 21, 3) := by decide +kernel
theorem dX2_placeOf_7 : decode cX2_placeOf 7 = .ok (.arraylength, 1) := by decide +kernel
theorem dX2_placeOf_8 : decode cX2_placeOf 8 = .ok (.if_icmp .ge 21, 3) := by decide +kernel
theorem dX2_placeOf_11 : decode cX2_placeOf 11 = .ok (.aload_n 0, 1) := by decide +kernel
theorem dX2_placeOf_12 : decode cX2_placeOf 12 = .ok (.getfield 21, 3) := by decide +kernel
theorem dX2_placeOf_15 : decode cX2_placeOf 15 = .ok (.iload_n 2, 1) := by decide +kernel
theorem dX2_placeOf_16 : decode cX2_placeOf 16 = .ok (.iaload, 1) := by decide +kernel
theorem dX2_placeOf_17 : decode cX2_placeOf 17 = .ok (.iload_n 1, 1) := by decide +kernel
theorem dX2_placeOf_18 : decode cX2_placeOf 18 = .ok (.if_icmp .ne 5, 3) := by decide +kernel
theorem dX2_placeOf_21 : decode cX2_placeOf 21 = .ok (.iload_n 2, 1) := by decide +kernel
theorem dX2_placeOf_22 : decode cX2_placeOf 22 = .ok (.ireturn, 1) := by decide +kernel
theorem dX2_placeOf_23 : decode cX2_placeOf 23 = .ok (.iinc 2 1, 3) := by decide +kernel
theorem dX2_placeOf_26 : decode cX2_placeOf 26 = .ok (.goto (-24), 3) := by decide +kernel
theorem dX2_placeOf_29 : decode cX2_placeOf 29 = .ok (.iconst (-1), 1) := by decide +kernel
theorem dX2_placeOf_30 : decode cX2_placeOf 30 = .ok (.ireturn, 1) := by decide +kernel
def f_X2_placeOf_2 (N : Nat) : Nat → Nat → Int32 → Int32 → zH → Option Int32
  | 0, _, _, _, _ => none
  | n + 1, l0, l1, l2, h => (zgR h 2 (some l0) 2).bind fun x1 => (zlen h x1).bind fun x2 => if x2 ≤ l2 then some ((-1) : Int32) else (zgR h 2 (some l0) 2).bind fun x3 => (zld h 0 x3 l2).bind fun x4 => if x4 = l1 then some l2 else f_X2_placeOf_2 N n l0 l1 (l2 + (1 : Int32)) h
set_option maxHeartbeats 4000000 in
set_option maxRecDepth 100000 in
theorem s_X2_placeOf_2 {g : zG} (hg : g.2.1.map (fun q => q.2) = zty) {h0 : zH} (N : Nat) : ∀ (n : Nat) (l0 : Nat) (l1 : Int32) (l2 : Int32) (h : zH) (r : Int32), f_X2_placeOf_2 N n l0 l1 l2 h = some r → zR g jX2_placeOf h0 2 [some (zr (some l0)), some (zi l1), some (zi l2)] [] h (some (zi r)) h := by
  intro n
  induction n with
  | zero =>
    intro l0 l1 l2 h r hf
    cases hf
  | succ n ih =>
    intro l0 l1 l2 h r hf
    rw [f_X2_placeOf_2] at hf
    refine zr_iload_n (x := l2) dX2_placeOf_2 rfl rfl ?_
    refine zr_aload_n (v := .inl (some l0)) dX2_placeOf_3 rfl rfl ?_
    revert hf; refine zbi (fun x1 e_x1 hf => ?_)
    refine zq_getR kg_35 dX2_placeOf_4 e_x1 ?_
    revert hf; refine zbi (fun x2 e_x2 hf => ?_)
    refine zq_alen dX2_placeOf_7 e_x2 ?_
    by_cases hc1 : x2 ≤ l2
    · rw [if_pos hc1] at hf
      refine zr_icge_t (tgt := 29) dX2_placeOf_8 (by decide) hc1 ?_
      refine zr_iconst (v := ((-1) : Int32)) dX2_placeOf_29 (by decide) ?_
      cases hf
      exact zr_ret _ rfl dX2_placeOf_30
    · rw [if_neg hc1] at hf
      refine zr_icge_f 29 dX2_placeOf_8 (by decide) hc1 ?_
      refine zr_aload_n (v := .inl (some l0)) dX2_placeOf_11 rfl rfl ?_
      revert hf; refine zbi (fun x3 e_x3 hf => ?_)
      refine zq_getR kg_35 dX2_placeOf_12 e_x3 ?_
      refine zr_iload_n (x := l2) dX2_placeOf_15 rfl rfl ?_
      revert hf; refine zbi (fun x4 e_x4 hf => ?_)
      refine zq_iald dX2_placeOf_16 e_x4 ?_
      refine zr_iload_n (x := l1) dX2_placeOf_17 rfl rfl ?_
      by_cases hc2 : x4 = l1
      · rw [if_pos hc2] at hf
        refine zr_icne_f 23 dX2_placeOf_18 (by decide) hc2 ?_
        refine zr_iload_n (x := l2) dX2_placeOf_21 rfl rfl ?_
        cases hf
        exact zr_ret _ rfl dX2_placeOf_22
      · rw [if_neg hc2] at hf
        refine zr_icne_t (tgt := 23) dX2_placeOf_18 (by decide) hc2 ?_
        refine zq_iinc (x := l2) (y := (1 : Int32)) (L' := [some (zr (some l0)), some (zi l1), some (zi (l2 + (1 : Int32)))]) dX2_placeOf_23 rfl (by decide) (by decide) rfl ?_
        refine zr_goto (tgt := 2) dX2_placeOf_26 (by decide) ?_
        exact ih l0 l1 (l2 + (1 : Int32)) h r hf
def f_X2_placeOf (N : Nat) (l0 : Nat) (l1 : Int32) (h : zH) : Option Int32 := f_X2_placeOf_2 N N l0 l1 (0 : Int32) h
set_option maxHeartbeats 4000000 in
set_option maxRecDepth 100000 in
theorem s_X2_placeOf {g : zG} (hg : g.2.1.map (fun q => q.2) = zty) {h0 : zH} (N : Nat) (l0 : Nat) (l1 : Int32) (h : zH) (r : Int32) (hf : f_X2_placeOf N l0 l1 h = some r) : zR g jX2_placeOf h0 0 [some (zr (some l0)), some (zi l1), none] [] h (some (zi r)) h := by
  unfold f_X2_placeOf at hf
  refine zr_iconst (v := (0 : Int32)) dX2_placeOf_0 (by decide) ?_
  refine zq_istore_n (x := (0 : Int32)) (L' := [some (zr (some l0)), some (zi l1), some (zi (0 : Int32))]) dX2_placeOf_1 rfl (by decide) rfl ?_
  exact s_X2_placeOf_2 hg N N l0 l1 (0 : Int32) h r hf
theorem c_X2_placeOf {g : zG} (hg : g.2.1.map (fun q => q.2) = zty) {N : Nat} {l0 : Nat} {l1 : Int32} {h : zH} {r : Int32} (hf : f_X2_placeOf N l0 l1 h = some r) : zCa g jX2_placeOf [zr (some l0), zi l1] h (some (zi r)) h :=
  zCa.of hg (by decide +kernel) (Nat.le_of_ble_eq_true rfl) (s_X2_placeOf hg N l0 l1 h r hf)
theorem dX2_without_0 : decode cX2_without 0 = .ok (.aload_n 0, 1) := by decide +kernel
theorem dX2_without_1 : decode cX2_without 1 = .ok (.iload_n 1, 1) := by decide +kernel
theorem dX2_without_2 : decode cX2_without 2 = .ok (.invokevirtual 42, 3) := by decide +kernel
theorem dX2_without_5 : decode cX2_without 5 = .ok (.istore_n 2, 1) := by decide +kernel
theorem dX2_without_6 : decode cX2_without 6 = .ok (.iload_n 2, 1) := by decide +kernel
theorem dX2_without_7 : decode cX2_without 7 = .ok (.iconst (-1), 1) := by decide +kernel
theorem dX2_without_8 : decode cX2_without 8 = .ok (.if_icmp .ne 5, 3) := by decide +kernel
theorem dX2_without_11 : decode cX2_without 11 = .ok (.aload_n 0, 1) := by decide +kernel
theorem dX2_without_12 : decode cX2_without 12 = .ok (.areturn, 1) := by decide +kernel
theorem dX2_without_13 : decode cX2_without 13 = .ok (.aload_n 0, 1) := by decide +kernel
theorem dX2_without_14 : decode cX2_without 14 = .ok (.getfield 21, 3) := by decide +kernel
theorem dX2_without_17 : decode cX2_without 17 = .ok (.invokevirtual 46, 3) := by decide +kernel
theorem dX2_without_20 : decode cX2_without 20 = .ok (.checkcast 47, 3) := by decide +kernel
theorem dX2_without_23 : decode cX2_without 23 = .ok (.astore_n 3, 1) := by decide +kernel
theorem dX2_without_24 : decode cX2_without 24 = .ok (.aload_n 3, 1) := by decide +kernel
theorem dX2_without_25 : decode cX2_without 25 = .ok (.iload_n 2, 1) := by decide +kernel
theorem dX2_without_26 : decode cX2_without 26 = .ok (.iconst (-1), 1) := by decide +kernel
theorem dX2_without_27 : decode cX2_without 27 = .ok (.iastore, 1) := by decide +kernel
theorem dX2_without_28 : decode cX2_without 28 = .ok (.new 4, 3) := by decide +kernel
theorem dX2_without_31 : decode cX2_without 31 = .ok (.dup, 1) := by decide +kernel
theorem dX2_without_32 : decode cX2_without 32 = .ok (.aload_n 0, 1) := by decide +kernel
theorem dX2_without_33 : decode cX2_without 33 = .ok (.getfield 14, 3) := by decide +kernel
theorem dX2_without_36 : decode cX2_without 36 = .ok (.aload_n 0, 1) := by decide +kernel
theorem dX2_without_37 : decode cX2_without 37 = .ok (.getfield 18, 3) := by decide +kernel
theorem dX2_without_40 : decode cX2_without 40 = .ok (.aload_n 3, 1) := by decide +kernel
theorem dX2_without_41 : decode cX2_without 41 = .ok (.invokespecial 3, 3) := by decide +kernel
theorem dX2_without_44 : decode cX2_without 44 = .ok (.areturn, 1) := by decide +kernel
def f_X2_without (N : Nat) (l0 : Nat) (l1 : Int32) (h : zH) : Option ((Option Nat) × zH) := (zck h 2 (some l0)).bind fun q1 => (f_X2_placeOf N q1 l1 h).bind fun x1 => if x1 = ((-1) : Int32) then some ((some l0), h) else (zgR h 2 (some l0) 2).bind fun x2 => zcl h 0 x2 fun a1 h1 => (zst h1 0 (some a1) x1 ((-1) : Int32)).bind fun h2 => znw h2 (.inr (2, [zr none, zr none, zr none])) fun a2 h3 => (zgR h3 2 (some l0) 0).bind fun x3 => (zgR h3 2 (some l0) 1).bind fun x4 => (f_X2_init_ N a2 x3 x4 (some a1) h3).bind fun h4 => some ((some a2), h4)
set_option maxHeartbeats 4000000 in
set_option maxRecDepth 100000 in
theorem s_X2_without {g : zG} (hg : g.2.1.map (fun q => q.2) = zty) {h0 : zH} (N : Nat) (l0 : Nat) (l1 : Int32) (h : zH) (r : Option Nat) (h' : zH) (hf : f_X2_without N l0 l1 h = some (r, h')) : zR g jX2_without h0 0 [some (zr (some l0)), some (zi l1), none, none] [] h (some (zr r)) h' := by
  unfold f_X2_without at hf
  refine zr_aload_n (v := .inl (some l0)) dX2_without_0 rfl rfl ?_
  refine zr_iload_n (x := l1) dX2_without_1 rfl rfl ?_
  revert hf; refine zbi (fun q1 e_q1 hf => ?_)
  revert hf; refine zbi (fun x1 e_x1 hf => ?_)
  refine zq_callV (J' := jX2_placeOf) (as := [zi l1]) (rest := []) (r1 := (some (zi x1))) (q := (RX2, TX2, 3)) kw_80 km_X2_placeOf kt_49 dX2_without_2 rfl (Nat.le_of_ble_eq_true rfl) rfl rfl e_q1 rfl (c_X2_placeOf hg e_x1) ?_
  refine zq_istore_n (x := x1) (L' := [some (zr (some l0)), some (zi l1), some (zi x1), none]) dX2_without_5 rfl (by decide) rfl ?_
  refine zr_iload_n (x := x1) dX2_without_6 rfl rfl ?_
  refine zr_iconst (v := ((-1) : Int32)) dX2_without_7 (by decide) ?_
  by_cases hc1 : x1 = ((-1) : Int32)
  · rw [if_pos hc1] at hf
    refine zr_icne_f 13 dX2_without_8 (by decide) hc1 ?_
    refine zr_aload_n (v := .inl (some l0)) dX2_without_11 rfl rfl ?_
    cases hf
    exact zr_ret _ (Or.inl ⟨_, rfl⟩) dX2_without_12
  · rw [if_neg hc1] at hf
    refine zr_icne_t (tgt := 13) dX2_without_8 (by decide) hc1 ?_
    refine zr_aload_n (v := .inl (some l0)) dX2_without_13 rfl rfl ?_
    revert hf; refine zbi (fun x2 e_x2 hf => ?_)
    refine zq_getR kg_35 dX2_without_14 e_x2 ?_
    obtain ⟨a1, h1, e_a1, hf⟩ := zcl_spec hf
    refine zq_clone (t := 0) kk_50 rfl (by decide +kernel) (Or.inl ⟨rfl, rfl⟩) ⟨Nat.le_of_ble_eq_true rfl, Nat.le_of_ble_eq_true rfl⟩ dX2_without_17 e_a1 ?_
    refine zq_castA (t := 0) (ad := "[I") (x := none) kw_85 rfl (by decide +kernel) dX2_without_20 (zcl_got e_a1) ?_
    refine zq_astore_n (v := .inl (some a1)) (L' := [some (zr (some l0)), some (zi l1), some (zi x1), some (zr (some a1))]) dX2_without_23 rfl (by decide) rfl ?_
    refine zr_aload_n (v := .inl (some a1)) dX2_without_24 rfl rfl ?_
    refine zr_iload_n (x := x1) dX2_without_25 rfl rfl ?_
    refine zr_iconst (v := ((-1) : Int32)) dX2_without_26 (by decide) ?_
    revert hf; refine zbi (fun h2 e_h2 hf => ?_)
    refine zq_iast dX2_without_27 e_h2 ?_
    obtain ⟨a2, h3, e_a2, e_h3, hf⟩ := znw_spec hf
    refine zq_new kn_40 dX2_without_28 e_a2 e_h3 ?_
    refine zr_dup dX2_without_31 ?_
    refine zr_aload_n (v := .inl (some l0)) dX2_without_32 rfl rfl ?_
    revert hf; refine zbi (fun x3 e_x3 hf => ?_)
    refine zq_getR kg_42 dX2_without_33 e_x3 ?_
    refine zr_aload_n (v := .inl (some l0)) dX2_without_36 rfl rfl ?_
    revert hf; refine zbi (fun x4 e_x4 hf => ?_)
    refine zq_getR kg_34 dX2_without_37 e_x4 ?_
    refine zr_aload_n (v := .inl (some a1)) dX2_without_40 rfl rfl ?_
    revert hf; refine zbi (fun h4 e_h4 hf => ?_)
    refine zq_callI (J' := jX2_init_) (as := [zr x3, zr x4, zr (some a1)]) (rest := [zr (some a2)]) (r1 := none) (a := a2) kw_62 km_X2_init_ kt_51 dX2_without_41 rfl (Nat.le_of_ble_eq_true rfl) rfl (c_X2_init_ hg e_h4) ?_
    cases hf
    exact zr_ret _ (Or.inl ⟨_, rfl⟩) dX2_without_44
theorem c_X2_without {g : zG} (hg : g.2.1.map (fun q => q.2) = zty) {N : Nat} {l0 : Nat} {l1 : Int32} {h : zH} {r : Option Nat} {h' : zH} (hf : f_X2_without N l0 l1 h = some (r, h')) : zCa g jX2_without [zr (some l0), zi l1] h (some (zr r)) h' :=
  zCa.of hg (by decide +kernel) (Nat.le_of_ble_eq_true rfl) (s_X2_without hg N l0 l1 h r h' hf)
theorem dX2_seatedOn_0 : decode cX2_seatedOn 0 = .ok (.iload_n 1, 1) := by decide +kernel
theorem dX2_seatedOn_1 : decode cX2_seatedOn 1 = .ok (.ifCond .lt 21, 3) := by decide +kernel
theorem dX2_seatedOn_4 : decode cX2_seatedOn 4 = .ok (.iload_n 1, 1) := by decide +kernel
theorem dX2_seatedOn_5 : decode cX2_seatedOn 5 = .ok (.aload_n 0, 1) := by decide +kernel
theorem dX2_seatedOn_6 : decode cX2_seatedOn 6 = .ok (.getfield 21, 3) := by decide +kernel
theorem dX2_seatedOn_9 : decode cX2_seatedOn 9 = .ok (.arraylength, 1) := by decide +kernel
theorem dX2_seatedOn_10 : decode cX2_seatedOn 10 = .ok (.if_icmp .ge 12, 3) := by decide +kernel
theorem dX2_seatedOn_13 : decode cX2_seatedOn 13 = .ok (.aload_n 0, 1) := by decide +kernel
theorem dX2_seatedOn_14 : decode cX2_seatedOn 14 = .ok (.getfield 21, 3) := by decide +kernel
theorem dX2_seatedOn_17 : decode cX2_seatedOn 17 = .ok (.iload_n 1, 1) := by decide +kernel
theorem dX2_seatedOn_18 : decode cX2_seatedOn 18 = .ok (.iaload, 1) := by decide +kernel
theorem dX2_seatedOn_19 : decode cX2_seatedOn 19 = .ok (.goto 4, 3) := by decide +kernel
theorem dX2_seatedOn_22 : decode cX2_seatedOn 22 = .ok (.iconst (-1), 1) := by decide +kernel
theorem dX2_seatedOn_23 : decode cX2_seatedOn 23 = .ok (.ireturn, 1) := by decide +kernel
def f_X2_seatedOn (N : Nat) (l0 : Nat) (l1 : Int32) (h : zH) : Option Int32 := if l1 < 0 then some ((-1) : Int32) else (zgR h 2 (some l0) 2).bind fun x1 => (zlen h x1).bind fun x2 => if x2 ≤ l1 then some ((-1) : Int32) else (zgR h 2 (some l0) 2).bind fun x3 => (zld h 0 x3 l1).bind fun x4 => some x4
set_option maxHeartbeats 4000000 in
set_option maxRecDepth 100000 in
theorem s_X2_seatedOn {g : zG} (hg : g.2.1.map (fun q => q.2) = zty) {h0 : zH} (N : Nat) (l0 : Nat) (l1 : Int32) (h : zH) (r : Int32) (hf : f_X2_seatedOn N l0 l1 h = some r) : zR g jX2_seatedOn h0 0 [some (zr (some l0)), some (zi l1)] [] h (some (zi r)) h := by
  unfold f_X2_seatedOn at hf
  refine zr_iload_n (x := l1) dX2_seatedOn_0 rfl rfl ?_
  by_cases hc1 : l1 < 0
  · rw [if_pos hc1] at hf
    refine zr_iflt_t (tgt := 22) dX2_seatedOn_1 (by decide) hc1 ?_
    refine zr_iconst (v := ((-1) : Int32)) dX2_seatedOn_22 (by decide) ?_
    cases hf
    exact zr_ret _ rfl dX2_seatedOn_23
  · rw [if_neg hc1] at hf
    refine zr_iflt_f 22 dX2_seatedOn_1 (by decide) hc1 ?_
    refine zr_iload_n (x := l1) dX2_seatedOn_4 rfl rfl ?_
    refine zr_aload_n (v := .inl (some l0)) dX2_seatedOn_5 rfl rfl ?_
    revert hf; refine zbi (fun x1 e_x1 hf => ?_)
    refine zq_getR kg_35 dX2_seatedOn_6 e_x1 ?_
    revert hf; refine zbi (fun x2 e_x2 hf => ?_)
    refine zq_alen dX2_seatedOn_9 e_x2 ?_
    by_cases hc2 : x2 ≤ l1
    · rw [if_pos hc2] at hf
      refine zr_icge_t (tgt := 22) dX2_seatedOn_10 (by decide) hc2 ?_
      refine zr_iconst (v := ((-1) : Int32)) dX2_seatedOn_22 (by decide) ?_
      cases hf
      exact zr_ret _ rfl dX2_seatedOn_23
    · rw [if_neg hc2] at hf
      refine zr_icge_f 22 dX2_seatedOn_10 (by decide) hc2 ?_
      refine zr_aload_n (v := .inl (some l0)) dX2_seatedOn_13 rfl rfl ?_
      revert hf; refine zbi (fun x3 e_x3 hf => ?_)
      refine zq_getR kg_35 dX2_seatedOn_14 e_x3 ?_
      refine zr_iload_n (x := l1) dX2_seatedOn_17 rfl rfl ?_
      revert hf; refine zbi (fun x4 e_x4 hf => ?_)
      refine zq_iald dX2_seatedOn_18 e_x4 ?_
      refine zr_goto (tgt := 23) dX2_seatedOn_19 (by decide) ?_
      cases hf
      exact zr_ret _ rfl dX2_seatedOn_23
theorem c_X2_seatedOn {g : zG} (hg : g.2.1.map (fun q => q.2) = zty) {N : Nat} {l0 : Nat} {l1 : Int32} {h : zH} {r : Int32} (hf : f_X2_seatedOn N l0 l1 h = some r) : zCa g jX2_seatedOn [zr (some l0), zi l1] h (some (zi r)) h :=
  zCa.of hg (by decide +kernel) (Nat.le_of_ble_eq_true rfl) (s_X2_seatedOn hg N l0 l1 h r hf)
theorem dX2_stateOf_0 : decode cX2_stateOf 0 = .ok (.iload_n 1, 1) := by decide +kernel
theorem dX2_stateOf_1 : decode cX2_stateOf 1 = .ok (.ifCond .lt 21, 3) := by decide +kernel
theorem dX2_stateOf_4 : decode cX2_stateOf 4 = .ok (.iload_n 1, 1) := by decide +kernel
theorem dX2_stateOf_5 : decode cX2_stateOf 5 = .ok (.aload_n 0, 1) := by decide +kernel
theorem dX2_stateOf_6 : decode cX2_stateOf 6 = .ok (.getfield 18, 3) := by decide +kernel
theorem dX2_stateOf_9 : decode cX2_stateOf 9 = .ok (.arraylength, 1) := by decide +kernel
theorem dX2_stateOf_10 : decode cX2_stateOf 10 = .ok (.if_icmp .ge 12, 3) := by decide +kernel
theorem dX2_stateOf_13 : decode cX2_stateOf 13 = .ok (.aload_n 0, 1) := by decide +kernel
theorem dX2_stateOf_14 : decode cX2_stateOf 14 = .ok (.getfield 18, 3) := by decide +kernel
theorem dX2_stateOf_17 : decode cX2_stateOf 17 = .ok (.iload_n 1, 1) := by decide +kernel
theorem dX2_stateOf_18 : decode cX2_stateOf 18 = .ok (.iaload, 1) := by decide +kernel
theorem dX2_stateOf_19 : decode cX2_stateOf 19 = .ok (.goto 4, 3) := by decide +kernel
theorem dX2_stateOf_22 : decode cX2_stateOf 22 = .ok (.iconst (-1), 1) := by decide +kernel
theorem dX2_stateOf_23 : decode cX2_stateOf 23 = .ok (.ireturn, 1) := by decide +kernel
def f_X2_stateOf (N : Nat) (l0 : Nat) (l1 : Int32) (h : zH) : Option Int32 := if l1 < 0 then some ((-1) : Int32) else (zgR h 2 (some l0) 1).bind fun x1 => (zlen h x1).bind fun x2 => if x2 ≤ l1 then some ((-1) : Int32) else (zgR h 2 (some l0) 1).bind fun x3 => (zld h 0 x3 l1).bind fun x4 => some x4
set_option maxHeartbeats 4000000 in
set_option maxRecDepth 100000 in
theorem s_X2_stateOf {g : zG} (hg : g.2.1.map (fun q => q.2) = zty) {h0 : zH} (N : Nat) (l0 : Nat) (l1 : Int32) (h : zH) (r : Int32) (hf : f_X2_stateOf N l0 l1 h = some r) : zR g jX2_stateOf h0 0 [some (zr (some l0)), some (zi l1)] [] h (some (zi r)) h := by
  unfold f_X2_stateOf at hf
  refine zr_iload_n (x := l1) dX2_stateOf_0 rfl rfl ?_
  by_cases hc1 : l1 < 0
  · rw [if_pos hc1] at hf
    refine zr_iflt_t (tgt := 22) dX2_stateOf_1 (by decide) hc1 ?_
    refine zr_iconst (v := ((-1) : Int32)) dX2_stateOf_22 (by decide) ?_
    cases hf
    exact zr_ret _ rfl dX2_stateOf_23
  · rw [if_neg hc1] at hf
    refine zr_iflt_f 22 dX2_stateOf_1 (by decide) hc1 ?_
    refine zr_iload_n (x := l1) dX2_stateOf_4 rfl rfl ?_
    refine zr_aload_n (v := .inl (some l0)) dX2_stateOf_5 rfl rfl ?_
    revert hf; refine zbi (fun x1 e_x1 hf => ?_)
    refine zq_getR kg_34 dX2_stateOf_6 e_x1 ?_
    revert hf; refine zbi (fun x2 e_x2 hf => ?_)
    refine zq_alen dX2_stateOf_9 e_x2 ?_
    by_cases hc2 : x2 ≤ l1
    · rw [if_pos hc2] at hf
      refine zr_icge_t (tgt := 22) dX2_stateOf_10 (by decide) hc2 ?_
      refine zr_iconst (v := ((-1) : Int32)) dX2_stateOf_22 (by decide) ?_
      cases hf
      exact zr_ret _ rfl dX2_stateOf_23
    · rw [if_neg hc2] at hf
      refine zr_icge_f 22 dX2_stateOf_10 (by decide) hc2 ?_
      refine zr_aload_n (v := .inl (some l0)) dX2_stateOf_13 rfl rfl ?_
      revert hf; refine zbi (fun x3 e_x3 hf => ?_)
      refine zq_getR kg_34 dX2_stateOf_14 e_x3 ?_
      refine zr_iload_n (x := l1) dX2_stateOf_17 rfl rfl ?_
      revert hf; refine zbi (fun x4 e_x4 hf => ?_)
      refine zq_iald dX2_stateOf_18 e_x4 ?_
      refine zr_goto (tgt := 23) dX2_stateOf_19 (by decide) ?_
      cases hf
      exact zr_ret _ rfl dX2_stateOf_23
theorem c_X2_stateOf {g : zG} (hg : g.2.1.map (fun q => q.2) = zty) {N : Nat} {l0 : Nat} {l1 : Int32} {h : zH} {r : Int32} (hf : f_X2_stateOf N l0 l1 h = some r) : zCa g jX2_stateOf [zr (some l0), zi l1] h (some (zi r)) h :=
  zCa.of hg (by decide +kernel) (Nat.le_of_ble_eq_true rfl) (s_X2_stateOf hg N l0 l1 h r hf)
