theorem dX0_init_0 : decode cX0_init 0 = .ok (.aload_n 0, 1) := by decide +kernel
theorem dX0_init_1 : decode cX0_init 1 = .ok (.invokespecial 1, 3) := by decide +kernel
theorem dX0_init_4 : decode cX0_init 4 = .ok (.aload_n 0, 1) := by decide +kernel
theorem dX0_init_5 : decode cX0_init 5 = .ok (.iload_n 1, 1) := by decide +kernel
theorem dX0_init_6 : decode cX0_init 6 = .ok (.putfield 7, 3) := by decide +kernel
theorem dX0_init_9 : decode cX0_init 9 = .ok (.aload_n 0, 1) := by decide +kernel
theorem dX0_init_10 : decode cX0_init 10 = .ok (.aload_n 2, 1) := by decide +kernel
theorem dX0_init_11 : decode cX0_init 11 = .ok (.putfield 13, 3) := by decide +kernel
theorem dX0_init_14 : decode cX0_init 14 = .ok (.aload_n 0, 1) := by decide +kernel
theorem dX0_init_15 : decode cX0_init 15 = .ok (.aload_n 3, 1) := by decide +kernel
theorem dX0_init_16 : decode cX0_init 16 = .ok (.putfield 17, 3) := by decide +kernel
theorem dX0_init_19 : decode cX0_init 19 = .ok (.return_, 1) := by decide +kernel
def f_X0_init (N : Nat) (l0 : Nat) (l1 : Int32) (l2 : Option Nat) (l3 : Option Nat) (h : zH) : Option zH := (zpu h 0 (some l0) 0 (zi l1)).bind fun h1 => (zpu h1 0 (some l0) 1 (zr l2)).bind fun h2 => (zpu h2 0 (some l0) 2 (zr l3)).bind fun h3 => some h3
set_option maxHeartbeats 4000000 in
set_option maxRecDepth 100000 in
theorem s_X0_init {g : zG} (hg : g.2.1.map (fun q => q.2) = zty) {h0 : zH} (N : Nat) (l0 : Nat) (l1 : Int32) (l2 : Option Nat) (l3 : Option Nat) (h : zH) (h' : zH) (hf : f_X0_init N l0 l1 l2 l3 h = some h') : zR g jX0_init h0 0 [some (zr (some l0)), some (zi l1), some (zr l2), some (zr l3)] [] h none h' := by
  unfold f_X0_init at hf
  refine zr_aload_n (v := .inl (some l0)) dX0_init_0 rfl rfl ?_
  refine zr_objInit kw_0 kw_1 kw_2 (by decide) dX0_init_1 ?_
  refine zr_aload_n (v := .inl (some l0)) dX0_init_4 rfl rfl ?_
  refine zr_iload_n (x := l1) dX0_init_5 rfl rfl ?_
  obtain ⟨h1, e_h1, hf⟩ := zbd hf
  refine zq_put kp_0 dX0_init_6 (zn_i _) e_h1 ?_
  refine zr_aload_n (v := .inl (some l0)) dX0_init_9 rfl rfl ?_
  refine zr_aload_n (v := .inl l2) dX0_init_10 rfl rfl ?_
  obtain ⟨h2, e_h2, hf⟩ := zbd hf
  refine zq_put kp_1 dX0_init_11 (zn_o _ _) e_h2 ?_
  refine zr_aload_n (v := .inl (some l0)) dX0_init_14 rfl rfl ?_
  refine zr_aload_n (v := .inl l3) dX0_init_15 rfl rfl ?_
  obtain ⟨h3, e_h3, hf⟩ := zbd hf
  refine zq_put kp_2 dX0_init_16 (zn_o _ _) e_h3 ?_
  cases hf
  exact zr_ret none trivial dX0_init_19
theorem c_X0_init {g : zG} (hg : g.2.1.map (fun q => q.2) = zty) {N : Nat} {l0 : Nat} {l1 : Int32} {l2 : Option Nat} {l3 : Option Nat} {h : zH} {h' : zH} (hf : f_X0_init N l0 l1 l2 l3 h = some h') : zCa g jX0_init [zr (some l0), zi l1, zr l2, zr l3] h none h' :=
  zCa.of hg (by decide +kernel) (by decide) (s_X0_init hg N l0 l1 l2 l3 h h' hf)
theorem dX0_with_0 : decode cX0_with 0 = .ok (.new 8, 3) := by decide +kernel
theorem dX0_with_3 : decode cX0_with 3 = .ok (.dup, 1) := by decide +kernel
theorem dX0_with_4 : decode cX0_with 4 = .ok (.aload_n 0, 1) := by decide +kernel
theorem dX0_with_5 : decode cX0_with 5 = .ok (.getfield 7, 3) := by decide +kernel
theorem dX0_with_8 : decode cX0_with 8 = .ok (.aload_n 1, 1) := by decide +kernel
theorem dX0_with_9 : decode cX0_with 9 = .ok (.aload_n 0, 1) := by decide +kernel
theorem dX0_with_10 : decode cX0_with 10 = .ok (.getfield 17, 3) := by decide +kernel
theorem dX0_with_13 : decode cX0_with 13 = .ok (.invokespecial 21, 3) := by decide +kernel
theorem dX0_with_16 : decode cX0_with 16 = .ok (.areturn, 1) := by decide +kernel
def f_X0_with (N : Nat) (l0 : Nat) (l1 : Option Nat) (h : zH) : Option ((Option Nat) × zH) := znw h (.inr (0, [zi 0, zr none, zr none])) fun a1 h1 => (zgI h1 0 (some l0) 0).bind fun x1 => (zgR h1 0 (some l0) 2).bind fun x2 => (f_X0_init N a1 x1 l1 x2 h1).bind fun h2 => some ((some a1), h2)
set_option maxHeartbeats 4000000 in
set_option maxRecDepth 100000 in
theorem s_X0_with {g : zG} (hg : g.2.1.map (fun q => q.2) = zty) {h0 : zH} (N : Nat) (l0 : Nat) (l1 : Option Nat) (h : zH) (r : Option Nat) (h' : zH) (hf : f_X0_with N l0 l1 h = some (r, h')) : zR g jX0_with h0 0 [some (zr (some l0)), some (zr l1)] [] h (some (zr r)) h' := by
  unfold f_X0_with at hf
  obtain ⟨a1, h1, e_a1, e_h1, hf⟩ := znw_spec hf
  refine zq_new kn_3 dX0_with_0 e_a1 e_h1 ?_
  refine zr_dup dX0_with_3 ?_
  refine zr_aload_n (v := .inl (some l0)) dX0_with_4 rfl rfl ?_
  obtain ⟨x1, e_x1, hf⟩ := zbd hf
  refine zq_getI kg_4 dX0_with_5 e_x1 ?_
  refine zr_aload_n (v := .inl l1) dX0_with_8 rfl rfl ?_
  refine zr_aload_n (v := .inl (some l0)) dX0_with_9 rfl rfl ?_
  obtain ⟨x2, e_x2, hf⟩ := zbd hf
  refine zq_getR kg_5 dX0_with_10 e_x2 ?_
  obtain ⟨h2, e_h2, hf⟩ := zbd hf
  refine zq_callI (J' := jX0_init) (as := [zi x1, zr l1, zr x2]) (rest := [zr (some a1)]) (r1 := none) (a := a1) kw_9 km_X0_init kt_7 dX0_with_13 rfl (by decide) rfl (c_X0_init hg e_h2) ?_
  cases hf
  exact zr_ret (some (zr (some a1))) (Or.inl ⟨_, rfl⟩) dX0_with_16
theorem c_X0_with {g : zG} (hg : g.2.1.map (fun q => q.2) = zty) {N : Nat} {l0 : Nat} {l1 : Option Nat} {h : zH} {r : Option Nat} {h' : zH} (hf : f_X0_with N l0 l1 h = some (r, h')) : zCa g jX0_with [zr (some l0), zr l1] h (some (zr r)) h' :=
  zCa.of hg (by decide +kernel) (by decide) (s_X0_with hg N l0 l1 h r h' hf)
theorem dX0_with__0 : decode cX0_with_ 0 = .ok (.new 8, 3) := by decide +kernel
theorem dX0_with__3 : decode cX0_with_ 3 = .ok (.dup, 1) := by decide +kernel
theorem dX0_with__4 : decode cX0_with_ 4 = .ok (.aload_n 0, 1) := by decide +kernel
theorem dX0_with__5 : decode cX0_with_ 5 = .ok (.getfield 7, 3) := by decide +kernel
theorem dX0_with__8 : decode cX0_with_ 8 = .ok (.aload_n 0, 1) := by decide +kernel
theorem dX0_with__9 : decode cX0_with_ 9 = .ok (.getfield 13, 3) := by decide +kernel
theorem dX0_with__12 : decode cX0_with_ 12 = .ok (.aload_n 1, 1) := by decide +kernel
theorem dX0_with__13 : decode cX0_with_ 13 = .ok (.invokespecial 21, 3) := by decide +kernel
theorem dX0_with__16 : decode cX0_with_ 16 = .ok (.areturn, 1) := by decide +kernel
def f_X0_with_ (N : Nat) (l0 : Nat) (l1 : Option Nat) (h : zH) : Option ((Option Nat) × zH) := znw h (.inr (0, [zi 0, zr none, zr none])) fun a1 h1 => (zgI h1 0 (some l0) 0).bind fun x1 => (zgR h1 0 (some l0) 1).bind fun x2 => (f_X0_init N a1 x1 x2 l1 h1).bind fun h2 => some ((some a1), h2)
set_option maxHeartbeats 4000000 in
set_option maxRecDepth 100000 in
theorem s_X0_with_ {g : zG} (hg : g.2.1.map (fun q => q.2) = zty) {h0 : zH} (N : Nat) (l0 : Nat) (l1 : Option Nat) (h : zH) (r : Option Nat) (h' : zH) (hf : f_X0_with_ N l0 l1 h = some (r, h')) : zR g jX0_with_ h0 0 [some (zr (some l0)), some (zr l1)] [] h (some (zr r)) h' := by
  unfold f_X0_with_ at hf
  obtain ⟨a1, h1, e_a1, e_h1, hf⟩ := znw_spec hf
  refine zq_new kn_3 dX0_with__0 e_a1 e_h1 ?_
  refine zr_dup dX0_with__3 ?_
  refine zr_aload_n (v := .inl (some l0)) dX0_with__4 rfl rfl ?_
  obtain ⟨x1, e_x1, hf⟩ := zbd hf
  refine zq_getI kg_4 dX0_with__5 e_x1 ?_
  refine zr_aload_n (v := .inl (some l0)) dX0_with__8 rfl rfl ?_
  obtain ⟨x2, e_x2, hf⟩ := zbd hf
  refine zq_getR kg_8 dX0_with__9 e_x2 ?_
  refine zr_aload_n (v := .inl l1) dX0_with__12 rfl rfl ?_
  obtain ⟨h2, e_h2, hf⟩ := zbd hf
  refine zq_callI (J' := jX0_init) (as := [zi x1, zr x2, zr l1]) (rest := [zr (some a1)]) (r1 := none) (a := a1) kw_9 km_X0_init kt_9 dX0_with__13 rfl (by decide) rfl (c_X0_init hg e_h2) ?_
  cases hf
  exact zr_ret (some (zr (some a1))) (Or.inl ⟨_, rfl⟩) dX0_with__16
theorem c_X0_with_ {g : zG} (hg : g.2.1.map (fun q => q.2) = zty) {N : Nat} {l0 : Nat} {l1 : Option Nat} {h : zH} {r : Option Nat} {h' : zH} (hf : f_X0_with_ N l0 l1 h = some (r, h')) : zCa g jX0_with_ [zr (some l0), zr l1] h (some (zr r)) h' :=
  zCa.of hg (by decide +kernel) (by decide) (s_X0_with_ hg N l0 l1 h r h' hf)
theorem dX1_init__0 : decode cX1_init_ 0 = .ok (.aload_n 0, 1) := by decide +kernel
theorem dX1_init__1 : decode cX1_init_ 1 = .ok (.invokespecial 7, 3) := by decide +kernel
theorem dX1_init__4 : decode cX1_init_ 4 = .ok (.aload_n 0, 1) := by decide +kernel
theorem dX1_init__5 : decode cX1_init_ 5 = .ok (.aload_n 1, 1) := by decide +kernel
theorem dX1_init__6 : decode cX1_init_ 6 = .ok (.putfield 12, 3) := by decide +kernel
theorem dX1_init__9 : decode cX1_init_ 9 = .ok (.return_, 1) := by decide +kernel
def f_X1_init_ (N : Nat) (l0 : Nat) (l1 : Option Nat) (h : zH) : Option zH := (zpu h 1 (some l0) 0 (zr l1)).bind fun h1 => some h1
set_option maxHeartbeats 4000000 in
set_option maxRecDepth 100000 in
theorem s_X1_init_ {g : zG} (hg : g.2.1.map (fun q => q.2) = zty) {h0 : zH} (N : Nat) (l0 : Nat) (l1 : Option Nat) (h : zH) (h' : zH) (hf : f_X1_init_ N l0 l1 h = some h') : zR g jX1_init_ h0 0 [some (zr (some l0)), some (zr l1)] [] h none h' := by
  unfold f_X1_init_ at hf
  refine zr_aload_n (v := .inl (some l0)) dX1_init__0 rfl rfl ?_
  refine zr_objInit kw_12 kw_1 kw_2 (by decide) dX1_init__1 ?_
  refine zr_aload_n (v := .inl (some l0)) dX1_init__4 rfl rfl ?_
  refine zr_aload_n (v := .inl l1) dX1_init__5 rfl rfl ?_
  obtain ⟨h1, e_h1, hf⟩ := zbd hf
  refine zq_put kp_10 dX1_init__6 (zn_a _ _) e_h1 ?_
  cases hf
  exact zr_ret none trivial dX1_init__9
theorem c_X1_init_ {g : zG} (hg : g.2.1.map (fun q => q.2) = zty) {N : Nat} {l0 : Nat} {l1 : Option Nat} {h : zH} {h' : zH} (hf : f_X1_init_ N l0 l1 h = some h') : zCa g jX1_init_ [zr (some l0), zr l1] h none h' :=
  zCa.of hg (by decide +kernel) (by decide) (s_X1_init_ hg N l0 l1 h h' hf)
theorem dX1_init_0 : decode cX1_init 0 = .ok (.aload_n 0, 1) := by decide +kernel
theorem dX1_init_1 : decode cX1_init 1 = .ok (.iconst 0, 1) := by decide +kernel
theorem dX1_init_2 : decode cX1_init 2 = .ok (.newarray .int, 2) := by decide +kernel
theorem dX1_init_4 : decode cX1_init 4 = .ok (.invokespecial 1, 3) := by decide +kernel
theorem dX1_init_7 : decode cX1_init 7 = .ok (.return_, 1) := by decide +kernel
def f_X1_init (N : Nat) (l0 : Nat) (h : zH) : Option zH := zna h 0 (0 : Int32) fun a1 h1 => (f_X1_init_ N l0 (some a1) h1).bind fun h2 => some h2
set_option maxHeartbeats 4000000 in
set_option maxRecDepth 100000 in
theorem s_X1_init {g : zG} (hg : g.2.1.map (fun q => q.2) = zty) {h0 : zH} (N : Nat) (l0 : Nat) (h : zH) (h' : zH) (hf : f_X1_init N l0 h = some h') : zR g jX1_init h0 0 [some (zr (some l0))] [] h none h' := by
  unfold f_X1_init at hf
  refine zr_aload_n (v := .inl (some l0)) dX1_init_0 rfl rfl ?_
  refine zr_iconst (v := (0 : Int32)) dX1_init_1 (by decide) ?_
  obtain ⟨a1, h1, e_a1, hf⟩ := zna_spec hf
  refine zq_newa (t := 0) kw_14 rfl (fun _ _ => rfl) (by decide) dX1_init_2 e_a1 ?_
  obtain ⟨h2, e_h2, hf⟩ := zbd hf
  refine zq_callI (J' := jX1_init_) (as := [zr (some a1)]) (rest := []) (r1 := none) (a := l0) kw_15 km_X1_init_ kt_12 dX1_init_4 rfl (by decide) rfl (c_X1_init_ hg e_h2) ?_
  cases hf
  exact zr_ret none trivial dX1_init_7
theorem c_X1_init {g : zG} (hg : g.2.1.map (fun q => q.2) = zty) {N : Nat} {l0 : Nat} {h : zH} {h' : zH} (hf : f_X1_init N l0 h = some h') : zCa g jX1_init [zr (some l0)] h none h' :=
  zCa.of hg (by decide +kernel) (by decide) (s_X1_init hg N l0 h h' hf)
theorem dX1_count_0 : decode cX1_count 0 = .ok (.aload_n 0, 1) := by decide +kernel
theorem dX1_count_1 : decode cX1_count 1 = .ok (.getfield 12, 3) := by decide +kernel
theorem dX1_count_4 : decode cX1_count 4 = .ok (.arraylength, 1) := by decide +kernel
theorem dX1_count_5 : decode cX1_count 5 = .ok (.iconst 3, 1) := by decide +kernel
theorem dX1_count_6 : decode cX1_count 6 = .ok (.idiv, 1) := by decide +kernel
theorem dX1_count_7 : decode cX1_count 7 = .ok (.ireturn, 1) := by decide +kernel
def f_X1_count (N : Nat) (l0 : Nat) (h : zH) : Option Int32 := (zgR h 1 (some l0) 0).bind fun x1 => (zlen h x1).bind fun x2 => some (x2 / (3 : Int32))
set_option maxHeartbeats 4000000 in
set_option maxRecDepth 100000 in
theorem s_X1_count {g : zG} (hg : g.2.1.map (fun q => q.2) = zty) {h0 : zH} (N : Nat) (l0 : Nat) (h : zH) (r : Int32) (hf : f_X1_count N l0 h = some r) : zR g jX1_count h0 0 [some (zr (some l0))] [] h (some (zi r)) h := by
  unfold f_X1_count at hf
  refine zr_aload_n (v := .inl (some l0)) dX1_count_0 rfl rfl ?_
  obtain ⟨x1, e_x1, hf⟩ := zbd hf
  refine zq_getR kg_13 dX1_count_1 e_x1 ?_
  obtain ⟨x2, e_x2, hf⟩ := zbd hf
  refine zq_alen dX1_count_4 e_x2 ?_
  refine zr_iconst (v := (3 : Int32)) dX1_count_5 (by decide) ?_
  refine zr_idiv (by decide) dX1_count_6 ?_
  cases hf
  exact zr_ret (some (zi (x2 / (3 : Int32)))) rfl dX1_count_7
theorem c_X1_count {g : zG} (hg : g.2.1.map (fun q => q.2) = zty) {N : Nat} {l0 : Nat} {h : zH} {r : Int32} (hf : f_X1_count N l0 h = some r) : zCa g jX1_count [zr (some l0)] h (some (zi r)) h :=
  zCa.of hg (by decide +kernel) (by decide) (s_X1_count hg N l0 h r hf)
theorem dX1_canAdd_0 : decode cX1_canAdd 0 = .ok (.iload_n 1, 1) := by decide +kernel
theorem dX1_canAdd_1 : decode cX1_canAdd 1 = .ok (.iconst 1, 1) := by decide +kernel
theorem dX1_canAdd_2 : decode cX1_canAdd 2 = .ok (.if_icmp .lt 13, 3) := by decide +kernel
theorem dX1_canAdd_5 : decode cX1_canAdd 5 = .ok (.iload_n 1, 1) := by decide +kernel
theorem dX1_canAdd_6 : decode cX1_canAdd 6 = .ok (.bipush 9, 2) := by decide +kernel
theorem dX1_canAdd_8 : decode cX1_canAdd 8 = .ok (.if_icmp .gt 7, 3) := by decide +kernel
theorem dX1_canAdd_11 : decode cX1_canAdd 11 = .ok (.iconst 1, 1) := by decide +kernel
theorem dX1_canAdd_12 : decode cX1_canAdd 12 = .ok (.goto 4, 3) := by decide +kernel
theorem dX1_canAdd_15 : decode cX1_canAdd 15 = .ok (.iconst 0, 1) := by decide +kernel
theorem dX1_canAdd_16 : decode cX1_canAdd 16 = .ok (.istore_n 3, 1) := by decide +kernel
theorem dX1_canAdd_17 : decode cX1_canAdd 17 = .ok (.aload_n 0, 1) := by decide +kernel
theorem dX1_canAdd_18 : decode cX1_canAdd 18 = .ok (.invokevirtual 16, 3) := by decide +kernel
theorem dX1_canAdd_21 : decode cX1_canAdd 21 = .ok (.bipush 6, 2) := by decide +kernel
theorem dX1_canAdd_23 : decode cX1_canAdd 23 = .ok (.if_icmp .ge 21, 3) := by decide +kernel
theorem dX1_canAdd_26 : decode cX1_canAdd 26 = .ok (.iload_n 3, 1) := by decide +kernel
theorem dX1_canAdd_27 : decode cX1_canAdd 27 = .ok (.ifCond .eq 17, 3) := by decide +kernel
theorem dX1_canAdd_30 : decode cX1_canAdd 30 = .ok (.iload_n 2, 1) := by decide +kernel
theorem dX1_canAdd_31 : decode cX1_canAdd 31 = .ok (.iconst 1, 1) := by decide +kernel
theorem dX1_canAdd_32 : decode cX1_canAdd 32 = .ok (.if_icmp .lt 12, 3) := by decide +kernel
theorem dX1_canAdd_35 : decode cX1_canAdd 35 = .ok (.iload_n 2, 1) := by decide +kernel
theorem dX1_canAdd_36 : decode cX1_canAdd 36 = .ok (.iconst 5, 1) := by decide +kernel
theorem dX1_canAdd_37 : decode cX1_canAdd 37 = .ok (.if_icmp .gt 7, 3) := by decide +kernel
theorem dX1_canAdd_40 : decode cX1_canAdd 40 = .ok (.iconst 1, 1) := by decide +kernel
theorem dX1_canAdd_41 : decode cX1_canAdd 41 = .ok (.goto 4, 3) := by decide +kernel
theorem dX1_canAdd_44 : decode cX1_canAdd 44 = .ok (.iconst 0, 1) := by decide +kernel
theorem dX1_canAdd_45 : decode cX1_canAdd 45 = .ok (.ireturn, 1) := by decide +kernel
def f_X1_canAdd_16 (N : Nat) (l0 : Nat) (l2 : Int32) (s0 : Int32) (h : zH) : Option Int32 := (zck h 1 (some l0)).bind fun q1 => (f_X1_count N q1 h).bind fun x1 => if (6 : Int32) ≤ x1 then some (0 : Int32) else if s0 = 0 then some (0 : Int32) else if l2 < (1 : Int32) then some (0 : Int32) else if (5 : Int32) < l2 then some (0 : Int32) else some (1 : Int32)
set_option maxHeartbeats 4000000 in
set_option maxRecDepth 100000 in
theorem s_X1_canAdd_16 {g : zG} (hg : g.2.1.map (fun q => q.2) = zty) {h0 : zH} (N : Nat) (l0 : Nat) (l2 : Int32) (s0 : Int32) (h : zH) (r : Int32) (hf : f_X1_canAdd_16 N l0 l2 s0 h = some r) : zR g jX1_canAdd h0 16 [some (zr (some l0)), none, some (zi l2), none] [zi s0] h (some (zi r)) h := by
  unfold f_X1_canAdd_16 at hf
  refine zq_istore_n (x := s0) (L' := [some (zr (some l0)), none, some (zi l2), some (zi s0)]) dX1_canAdd_16 rfl (by decide) rfl ?_
  refine zr_aload_n (v := .inl (some l0)) dX1_canAdd_17 rfl rfl ?_
  obtain ⟨q1, e_q1, hf⟩ := zbd hf
  obtain ⟨x1, e_x1, hf⟩ := zbd hf
  refine zq_callV (J' := jX1_count) (as := []) (rest := []) (r1 := (some (zi x1))) (q := (RX1, TX1, 1)) kw_19 km_X1_count kt_15 dX1_canAdd_18 rfl (by decide) rfl rfl e_q1 rfl (c_X1_count hg e_x1) ?_
  refine zr_bipush (v := (6 : Int32)) dX1_canAdd_21 (by decide) ?_
  by_cases hc1 : (6 : Int32) ≤ x1
  · rw [if_pos hc1] at hf
    refine zr_icge_t (tgt := 44) dX1_canAdd_23 (by decide) hc1 ?_
    refine zr_iconst (v := (0 : Int32)) dX1_canAdd_44 (by decide) ?_
    cases hf
    exact zr_ret (some (zi (0 : Int32))) rfl dX1_canAdd_45
  · rw [if_neg hc1] at hf
    refine zr_icge_f 44 dX1_canAdd_23 (by decide) hc1 ?_
    refine zr_iload_n (x := s0) dX1_canAdd_26 rfl rfl ?_
    by_cases hc2 : s0 = 0
    · rw [if_pos hc2] at hf
      refine zr_ifeq_t (tgt := 44) dX1_canAdd_27 (by decide) hc2 ?_
      refine zr_iconst (v := (0 : Int32)) dX1_canAdd_44 (by decide) ?_
      cases hf
      exact zr_ret (some (zi (0 : Int32))) rfl dX1_canAdd_45
    · rw [if_neg hc2] at hf
      refine zr_ifeq_f 44 dX1_canAdd_27 (by decide) hc2 ?_
      refine zr_iload_n (x := l2) dX1_canAdd_30 rfl rfl ?_
      refine zr_iconst (v := (1 : Int32)) dX1_canAdd_31 (by decide) ?_
      by_cases hc3 : l2 < (1 : Int32)
      · rw [if_pos hc3] at hf
        refine zr_iclt_t (tgt := 44) dX1_canAdd_32 (by decide) hc3 ?_
        refine zr_iconst (v := (0 : Int32)) dX1_canAdd_44 (by decide) ?_
        cases hf
        exact zr_ret (some (zi (0 : Int32))) rfl dX1_canAdd_45
      · rw [if_neg hc3] at hf
        refine zr_iclt_f 44 dX1_canAdd_32 (by decide) hc3 ?_
        refine zr_iload_n (x := l2) dX1_canAdd_35 rfl rfl ?_
        refine zr_iconst (v := (5 : Int32)) dX1_canAdd_36 (by decide) ?_
        by_cases hc4 : (5 : Int32) < l2
        · rw [if_pos hc4] at hf
          refine zr_icgt_t (tgt := 44) dX1_canAdd_37 (by decide) hc4 ?_
          refine zr_iconst (v := (0 : Int32)) dX1_canAdd_44 (by decide) ?_
          cases hf
          exact zr_ret (some (zi (0 : Int32))) rfl dX1_canAdd_45
        · rw [if_neg hc4] at hf
          refine zr_icgt_f 44 dX1_canAdd_37 (by decide) hc4 ?_
          refine zr_iconst (v := (1 : Int32)) dX1_canAdd_40 (by decide) ?_
          refine zr_goto (tgt := 45) dX1_canAdd_41 (by decide) ?_
          cases hf
          exact zr_ret (some (zi (1 : Int32))) rfl dX1_canAdd_45
def f_X1_canAdd_15 (N : Nat) (l0 : Nat) (l2 : Int32) (h : zH) : Option Int32 := f_X1_canAdd_16 N l0 l2 (0 : Int32) h
set_option maxHeartbeats 4000000 in
set_option maxRecDepth 100000 in
theorem s_X1_canAdd_15 {g : zG} (hg : g.2.1.map (fun q => q.2) = zty) {h0 : zH} (N : Nat) (l0 : Nat) (l2 : Int32) (h : zH) (r : Int32) (hf : f_X1_canAdd_15 N l0 l2 h = some r) : zR g jX1_canAdd h0 15 [some (zr (some l0)), none, some (zi l2), none] [] h (some (zi r)) h := by
  unfold f_X1_canAdd_15 at hf
  refine zr_iconst (v := (0 : Int32)) dX1_canAdd_15 (by decide) ?_
  exact s_X1_canAdd_16 hg N l0 l2 (0 : Int32) h r hf
def f_X1_canAdd (N : Nat) (l0 : Nat) (l1 : Int32) (l2 : Int32) (h : zH) : Option Int32 := if l1 < (1 : Int32) then f_X1_canAdd_15 N l0 l2 h else if (9 : Int32) < l1 then f_X1_canAdd_15 N l0 l2 h else f_X1_canAdd_16 N l0 l2 (1 : Int32) h
set_option maxHeartbeats 4000000 in
set_option maxRecDepth 100000 in
theorem s_X1_canAdd {g : zG} (hg : g.2.1.map (fun q => q.2) = zty) {h0 : zH} (N : Nat) (l0 : Nat) (l1 : Int32) (l2 : Int32) (h : zH) (r : Int32) (hf : f_X1_canAdd N l0 l1 l2 h = some r) : zR g jX1_canAdd h0 0 [some (zr (some l0)), some (zi l1), some (zi l2), none] [] h (some (zi r)) h := by
  unfold f_X1_canAdd at hf
  refine zr_iload_n (x := l1) dX1_canAdd_0 rfl rfl ?_
  refine zr_iconst (v := (1 : Int32)) dX1_canAdd_1 (by decide) ?_
  by_cases hc1 : l1 < (1 : Int32)
  · rw [if_pos hc1] at hf
    refine zr_iclt_t (tgt := 15) dX1_canAdd_2 (by decide) hc1 ?_
    refine zr_forget 1 (L' := [some (zr (some l0)), none, some (zi l2), none]) rfl ?_
    exact s_X1_canAdd_15 hg N l0 l2 h r hf
  · rw [if_neg hc1] at hf
    refine zr_iclt_f 15 dX1_canAdd_2 (by decide) hc1 ?_
    refine zr_iload_n (x := l1) dX1_canAdd_5 rfl rfl ?_
    refine zr_bipush (v := (9 : Int32)) dX1_canAdd_6 (by decide) ?_
    by_cases hc2 : (9 : Int32) < l1
    · rw [if_pos hc2] at hf
      refine zr_icgt_t (tgt := 15) dX1_canAdd_8 (by decide) hc2 ?_
      refine zr_forget 1 (L' := [some (zr (some l0)), none, some (zi l2), none]) rfl ?_
      exact s_X1_canAdd_15 hg N l0 l2 h r hf
    · rw [if_neg hc2] at hf
      refine zr_icgt_f 15 dX1_canAdd_8 (by decide) hc2 ?_
      refine zr_iconst (v := (1 : Int32)) dX1_canAdd_11 (by decide) ?_
      refine zr_goto (tgt := 16) dX1_canAdd_12 (by decide) ?_
      refine zr_forget 1 (L' := [some (zr (some l0)), none, some (zi l2), none]) rfl ?_
      exact s_X1_canAdd_16 hg N l0 l2 (1 : Int32) h r hf
theorem c_X1_canAdd {g : zG} (hg : g.2.1.map (fun q => q.2) = zty) {N : Nat} {l0 : Nat} {l1 : Int32} {l2 : Int32} {h : zH} {r : Int32} (hf : f_X1_canAdd N l0 l1 l2 h = some r) : zCa g jX1_canAdd [zr (some l0), zi l1, zi l2] h (some (zi r)) h :=
  zCa.of hg (by decide +kernel) (by decide) (s_X1_canAdd hg N l0 l1 l2 h r hf)
theorem dJ7_copyOf_59c91_0 : decode cJ7_copyOf_59c91 0 = .ok (.iload_n 1, 1) := by decide +kernel
theorem dJ7_copyOf_59c91_1 : decode cJ7_copyOf_59c91 1 = .ok (.aload_n 0, 1) := by decide +kernel
theorem dJ7_copyOf_59c91_2 : decode cJ7_copyOf_59c91 2 = .ok (.arraylength, 1) := by decide +kernel
theorem dJ7_copyOf_59c91_3 : decode cJ7_copyOf_59c91 3 = .ok (.if_icmp .ne 11, 3) := by decide +kernel
theorem dJ7_copyOf_59c91_6 : decode cJ7_copyOf_59c91 6 = .ok (.aload_n 0, 1) := by decide +kernel
theorem dJ7_copyOf_59c91_7 : decode cJ7_copyOf_59c91 7 = .ok (.invokevirtual 316, 3) := by decide +kernel
theorem dJ7_copyOf_59c91_10 : decode cJ7_copyOf_59c91 10 = .ok (.checkcast 317, 3) := by decide +kernel
theorem dJ7_copyOf_59c91_13 : decode cJ7_copyOf_59c91 13 = .ok (.areturn, 1) := by decide +kernel
theorem dJ7_copyOf_59c91_14 : decode cJ7_copyOf_59c91 14 = .ok (.iload_n 1, 1) := by decide +kernel
theorem dJ7_copyOf_59c91_15 : decode cJ7_copyOf_59c91 15 = .ok (.newarray .int, 2) := by decide +kernel
theorem dJ7_copyOf_59c91_17 : decode cJ7_copyOf_59c91 17 = .ok (.astore_n 2, 1) := by decide +kernel
theorem dJ7_copyOf_59c91_18 : decode cJ7_copyOf_59c91 18 = .ok (.aload_n 0, 1) := by decide +kernel
theorem dJ7_copyOf_59c91_19 : decode cJ7_copyOf_59c91 19 = .ok (.iconst 0, 1) := by decide +kernel
theorem dJ7_copyOf_59c91_20 : decode cJ7_copyOf_59c91 20 = .ok (.aload_n 2, 1) := by decide +kernel
theorem dJ7_copyOf_59c91_21 : decode cJ7_copyOf_59c91 21 = .ok (.iconst 0, 1) := by decide +kernel
theorem dJ7_copyOf_59c91_22 : decode cJ7_copyOf_59c91 22 = .ok (.aload_n 0, 1) := by decide +kernel
theorem dJ7_copyOf_59c91_23 : decode cJ7_copyOf_59c91 23 = .ok (.arraylength, 1) := by decide +kernel
theorem dJ7_copyOf_59c91_24 : decode cJ7_copyOf_59c91 24 = .ok (.iload_n 1, 1) := by decide +kernel
theorem dJ7_copyOf_59c91_25 : decode cJ7_copyOf_59c91 25 = .ok (.invokestatic 304, 3) := by decide +kernel
theorem dJ7_copyOf_59c91_28 : decode cJ7_copyOf_59c91 28 = .ok (.invokestatic 150, 3) := by decide +kernel
theorem dJ7_copyOf_59c91_31 : decode cJ7_copyOf_59c91 31 = .ok (.aload_n 2, 1) := by decide +kernel
theorem dJ7_copyOf_59c91_32 : decode cJ7_copyOf_59c91 32 = .ok (.areturn, 1) := by decide +kernel
def f_J7_copyOf_59c91 (N : Nat) (l0 : Option Nat) (l1 : Int32) (h : zH) : Option ((Option Nat) × zH) := (zlen h l0).bind fun x1 => if l1 = x1 then zcl h 0 l0 fun a2 h3 => some ((some a2), h3) else zna h 0 l1 fun a1 h1 => (zlen h1 l0).bind fun x2 => (zcp h1 l0 (0 : Int32) (some a1) (0 : Int32) (if l1 < x2 then l1 else x2)).bind fun h2 => some ((some a1), h2)
set_option maxHeartbeats 4000000 in
set_option maxRecDepth 100000 in
theorem s_J7_copyOf_59c91 {g : zG} (hg : g.2.1.map (fun q => q.2) = zty) {h0 : zH} (N : Nat) (l0 : Option Nat) (l1 : Int32) (h : zH) (r : Option Nat) (h' : zH) (hf : f_J7_copyOf_59c91 N l0 l1 h = some (r, h')) : zR g jJ7_copyOf_59c91 h0 0 [some (zr l0), some (zi l1), none] [] h (some (zr r)) h' := by
  unfold f_J7_copyOf_59c91 at hf
  refine zr_iload_n (x := l1) dJ7_copyOf_59c91_0 rfl rfl ?_
  refine zr_aload_n (v := .inl l0) dJ7_copyOf_59c91_1 rfl rfl ?_
  obtain ⟨x1, e_x1, hf⟩ := zbd hf
  refine zq_alen dJ7_copyOf_59c91_2 e_x1 ?_
  by_cases hc1 : l1 = x1
  · rw [if_pos hc1] at hf
    refine zr_icne_f 14 dJ7_copyOf_59c91_3 (by decide) hc1 ?_
    refine zr_aload_n (v := .inl l0) dJ7_copyOf_59c91_6 rfl rfl ?_
    obtain ⟨a2, h3, e_a2, hf⟩ := zcl_spec hf
    refine zq_clone (t := 0) kk_16 rfl (by decide +kernel) (Or.inl ⟨rfl, rfl⟩) (by decide) dJ7_copyOf_59c91_7 e_a2 ?_
    refine zq_castA (t := 0) (ad := "[I") (x := none) kw_37 rfl (by decide +kernel) dJ7_copyOf_59c91_10 (zcl_got e_a2) ?_
    cases hf
    exact zr_ret (some (zr (some a2))) (Or.inr ⟨_, rfl⟩) dJ7_copyOf_59c91_13
  · rw [if_neg hc1] at hf
    refine zr_icne_t (tgt := 14) dJ7_copyOf_59c91_3 (by decide) hc1 ?_
    refine zr_iload_n (x := l1) dJ7_copyOf_59c91_14 rfl rfl ?_
    obtain ⟨a1, h1, e_a1, hf⟩ := zna_spec hf
    refine zq_newa (t := 0) kw_14 rfl (fun _ _ => rfl) (by decide) dJ7_copyOf_59c91_15 e_a1 ?_
    refine zq_astore_n (v := .inl (some a1)) (L' := [some (zr l0), some (zi l1), some (zr (some a1))]) dJ7_copyOf_59c91_17 rfl (by decide) rfl ?_
    refine zr_aload_n (v := .inl l0) dJ7_copyOf_59c91_18 rfl rfl ?_
    refine zr_iconst (v := (0 : Int32)) dJ7_copyOf_59c91_19 (by decide) ?_
    refine zr_aload_n (v := .inl (some a1)) dJ7_copyOf_59c91_20 rfl rfl ?_
    refine zr_iconst (v := (0 : Int32)) dJ7_copyOf_59c91_21 (by decide) ?_
    refine zr_aload_n (v := .inl l0) dJ7_copyOf_59c91_22 rfl rfl ?_
    obtain ⟨x2, e_x2, hf⟩ := zbd hf
    refine zq_alen dJ7_copyOf_59c91_23 e_x2 ?_
    refine zr_iload_n (x := l1) dJ7_copyOf_59c91_24 rfl rfl ?_
    refine zr_mmin kw_23 kw_24 kw_25 kw_26 (by decide) dJ7_copyOf_59c91_25 ?_
    obtain ⟨h2, e_h2, hf⟩ := zbd hf
    refine zq_copyi kw_27 kw_28 kw_29 kw_30 (by decide +kernel) dJ7_copyOf_59c91_28 e_h2 ?_
    refine zr_aload_n (v := .inl (some a1)) dJ7_copyOf_59c91_31 rfl rfl ?_
    cases hf
    exact zr_ret (some (zr (some a1))) (Or.inr ⟨_, rfl⟩) dJ7_copyOf_59c91_32
theorem c_J7_copyOf_59c91 {g : zG} (hg : g.2.1.map (fun q => q.2) = zty) {N : Nat} {l0 : Option Nat} {l1 : Int32} {h : zH} {r : Option Nat} {h' : zH} (hf : f_J7_copyOf_59c91 N l0 l1 h = some (r, h')) : zCa g jJ7_copyOf_59c91 [zr l0, zi l1] h (some (zr r)) h' :=
  zCa.of hg (by decide +kernel) (by decide) (s_J7_copyOf_59c91 hg N l0 l1 h r h' hf)
theorem dX1_with_0 : decode cX1_with 0 = .ok (.aload_n 0, 1) := by decide +kernel
theorem dX1_with_1 : decode cX1_with 1 = .ok (.getfield 12, 3) := by decide +kernel
theorem dX1_with_4 : decode cX1_with 4 = .ok (.aload_n 0, 1) := by decide +kernel
theorem dX1_with_5 : decode cX1_with 5 = .ok (.getfield 12, 3) := by decide +kernel
theorem dX1_with_8 : decode cX1_with 8 = .ok (.arraylength, 1) := by decide +kernel
theorem dX1_with_9 : decode cX1_with 9 = .ok (.iconst 3, 1) := by decide +kernel
theorem dX1_with_10 : decode cX1_with 10 = .ok (.iadd, 1) := by decide +kernel
theorem dX1_with_11 : decode cX1_with 11 = .ok (.invokestatic 20, 3) := by decide +kernel
theorem dX1_with_14 : decode cX1_with 14 = .ok (.astore 4, 2) := by decide +kernel
theorem dX1_with_16 : decode cX1_with 16 = .ok (.aload 4, 2) := by decide +kernel
theorem dX1_with_18 : decode cX1_with 18 = .ok (.aload_n 0, 1) := by decide +kernel
theorem dX1_with_19 : decode cX1_with 19 = .ok (.getfield 12, 3) := by decide +kernel
theorem dX1_with_22 : decode cX1_with 22 = .ok (.arraylength, 1) := by decide +kernel
theorem dX1_with_23 : decode cX1_with 23 = .ok (.iconst 0, 1) := by decide +kernel
theorem dX1_with_24 : decode cX1_with 24 = .ok (.iadd, 1) := by decide +kernel
theorem dX1_with_25 : decode cX1_with 25 = .ok (.iload_n 1, 1) := by decide +kernel
theorem dX1_with_26 : decode cX1_with 26 = .ok (.iastore, 1) := by decide +kernel
theorem dX1_with_27 : decode cX1_with 27 = .ok (.aload 4, 2) := by decide +kernel
theorem dX1_with_29 : decode cX1_with 29 = .ok (.aload_n 0, 1) := by decide +kernel
theorem dX1_with_30 : decode cX1_with 30 = .ok (.getfield 12, 3) := by decide +kernel
theorem dX1_with_33 : decode cX1_with 33 = .ok (.arraylength, 1) := by decide +kernel
theorem dX1_with_34 : decode cX1_with 34 = .ok (.iconst 1, 1) := by decide +kernel
theorem dX1_with_35 : decode cX1_with 35 = .ok (.iadd, 1) := by decide +kernel
theorem dX1_with_36 : decode cX1_with 36 = .ok (.iload_n 2, 1) := by decide +kernel
theorem dX1_with_37 : decode cX1_with 37 = .ok (.iastore, 1) := by decide +kernel
theorem dX1_with_38 : decode cX1_with 38 = .ok (.aload 4, 2) := by decide +kernel
theorem dX1_with_40 : decode cX1_with 40 = .ok (.aload_n 0, 1) := by decide +kernel
theorem dX1_with_41 : decode cX1_with 41 = .ok (.getfield 12, 3) := by decide +kernel
theorem dX1_with_44 : decode cX1_with 44 = .ok (.arraylength, 1) := by decide +kernel
theorem dX1_with_45 : decode cX1_with 45 = .ok (.iconst 2, 1) := by decide +kernel
theorem dX1_with_46 : decode cX1_with 46 = .ok (.iadd, 1) := by decide +kernel
theorem dX1_with_47 : decode cX1_with 47 = .ok (.iload_n 3, 1) := by decide +kernel
theorem dX1_with_48 : decode cX1_with 48 = .ok (.iastore, 1) := by decide +kernel
theorem dX1_with_49 : decode cX1_with 49 = .ok (.new 2, 3) := by decide +kernel
theorem dX1_with_52 : decode cX1_with 52 = .ok (.dup, 1) := by decide +kernel
theorem dX1_with_53 : decode cX1_with 53 = .ok (.aload 4, 2) := by decide +kernel
theorem dX1_with_55 : decode cX1_with 55 = .ok (.invokespecial 1, 3) := by decide +kernel
theorem dX1_with_58 : decode cX1_with 58 = .ok (.areturn, 1) := by decide +kernel
def f_X1_with (N : Nat) (l0 : Nat) (l1 : Int32) (l2 : Int32) (l3 : Int32) (h : zH) : Option ((Option Nat) × zH) := (zgR h 1 (some l0) 0).bind fun x1 => (zgR h 1 (some l0) 0).bind fun x2 => (zlen h x2).bind fun x3 => (f_J7_copyOf_59c91 N x1 (x3 + (3 : Int32)) h).bind fun (x4, h1) => (zgR h1 1 (some l0) 0).bind fun x5 => (zlen h1 x5).bind fun x6 => (zst h1 0 x4 (x6 + (0 : Int32)) l1).bind fun h2 => (zgR h2 1 (some l0) 0).bind fun x7 => (zlen h2 x7).bind fun x8 => (zst h2 0 x4 (x8 + (1 : Int32)) l2).bind fun h3 => (zgR h3 1 (some l0) 0).bind fun x9 => (zlen h3 x9).bind fun x10 => (zst h3 0 x4 (x10 + (2 : Int32)) l3).bind fun h4 => znw h4 (.inr (1, [zr none])) fun a1 h5 => (f_X1_init_ N a1 x4 h5).bind fun h6 => some ((some a1), h6)
set_option maxHeartbeats 4000000 in
set_option maxRecDepth 100000 in
theorem s_X1_with {g : zG} (hg : g.2.1.map (fun q => q.2) = zty) {h0 : zH} (N : Nat) (l0 : Nat) (l1 : Int32) (l2 : Int32) (l3 : Int32) (h : zH) (r : Option Nat) (h' : zH) (hf : f_X1_with N l0 l1 l2 l3 h = some (r, h')) : zR g jX1_with h0 0 [some (zr (some l0)), some (zi l1), some (zi l2), some (zi l3), none] [] h (some (zr r)) h' := by
  unfold f_X1_with at hf
  refine zr_aload_n (v := .inl (some l0)) dX1_with_0 rfl rfl ?_
  obtain ⟨x1, e_x1, hf⟩ := zbd hf
  refine zq_getR kg_13 dX1_with_1 e_x1 ?_
  refine zr_aload_n (v := .inl (some l0)) dX1_with_4 rfl rfl ?_
  obtain ⟨x2, e_x2, hf⟩ := zbd hf
  refine zq_getR kg_13 dX1_with_5 e_x2 ?_
  obtain ⟨x3, e_x3, hf⟩ := zbd hf
  refine zq_alen dX1_with_8 e_x3 ?_
  refine zr_iconst (v := (3 : Int32)) dX1_with_9 (by decide) ?_
  refine zr_iadd dX1_with_10 ?_
  obtain ⟨⟨x4, h1⟩, e_x4, hf⟩ := zbd hf
  refine zq_callS (J' := jJ7_copyOf_59c91) (as := [zr x1, zi (x3 + (3 : Int32))]) (rest := []) (r1 := (some (zr x4))) kw_38 km_J7_copyOf_59c91 kt_18 dX1_with_11 rfl (by decide) rfl (c_J7_copyOf_59c91 hg e_x4) ?_
  refine zq_astore (v := .inl x4) (L' := [some (zr (some l0)), some (zi l1), some (zi l2), some (zi l3), some (zr x4)]) dX1_with_14 (by decide) rfl ?_
  refine zr_aload (v := .inl x4) dX1_with_16 rfl ?_
  refine zr_aload_n (v := .inl (some l0)) dX1_with_18 rfl rfl ?_
  obtain ⟨x5, e_x5, hf⟩ := zbd hf
  refine zq_getR kg_13 dX1_with_19 e_x5 ?_
  obtain ⟨x6, e_x6, hf⟩ := zbd hf
  refine zq_alen dX1_with_22 e_x6 ?_
  refine zr_iconst (v := (0 : Int32)) dX1_with_23 (by decide) ?_
  refine zr_iadd dX1_with_24 ?_
  refine zr_iload_n (x := l1) dX1_with_25 rfl rfl ?_
  obtain ⟨h2, e_h2, hf⟩ := zbd hf
  refine zq_iast dX1_with_26 e_h2 ?_
  refine zr_aload (v := .inl x4) dX1_with_27 rfl ?_
  refine zr_aload_n (v := .inl (some l0)) dX1_with_29 rfl rfl ?_
  obtain ⟨x7, e_x7, hf⟩ := zbd hf
  refine zq_getR kg_13 dX1_with_30 e_x7 ?_
  obtain ⟨x8, e_x8, hf⟩ := zbd hf
  refine zq_alen dX1_with_33 e_x8 ?_
  refine zr_iconst (v := (1 : Int32)) dX1_with_34 (by decide) ?_
  refine zr_iadd dX1_with_35 ?_
  refine zr_iload_n (x := l2) dX1_with_36 rfl rfl ?_
  obtain ⟨h3, e_h3, hf⟩ := zbd hf
  refine zq_iast dX1_with_37 e_h3 ?_
  refine zr_aload (v := .inl x4) dX1_with_38 rfl ?_
  refine zr_aload_n (v := .inl (some l0)) dX1_with_40 rfl rfl ?_
  obtain ⟨x9, e_x9, hf⟩ := zbd hf
  refine zq_getR kg_13 dX1_with_41 e_x9 ?_
  obtain ⟨x10, e_x10, hf⟩ := zbd hf
  refine zq_alen dX1_with_44 e_x10 ?_
  refine zr_iconst (v := (2 : Int32)) dX1_with_45 (by decide) ?_
  refine zr_iadd dX1_with_46 ?_
  refine zr_iload_n (x := l3) dX1_with_47 rfl rfl ?_
  obtain ⟨h4, e_h4, hf⟩ := zbd hf
  refine zq_iast dX1_with_48 e_h4 ?_
  obtain ⟨a1, h5, e_a1, e_h5, hf⟩ := znw_spec hf
  refine zq_new kn_19 dX1_with_49 e_a1 e_h5 ?_
  refine zr_dup dX1_with_52 ?_
  refine zr_aload (v := .inl x4) dX1_with_53 rfl ?_
  obtain ⟨h6, e_h6, hf⟩ := zbd hf
  refine zq_callI (J' := jX1_init_) (as := [zr x4]) (rest := [zr (some a1)]) (r1 := none) (a := a1) kw_15 km_X1_init_ kt_20 dX1_with_55 rfl (by decide) rfl (c_X1_init_ hg e_h6) ?_
  cases hf
  exact zr_ret (some (zr (some a1))) (Or.inl ⟨_, rfl⟩) dX1_with_58
theorem c_X1_with {g : zG} (hg : g.2.1.map (fun q => q.2) = zty) {N : Nat} {l0 : Nat} {l1 : Int32} {l2 : Int32} {l3 : Int32} {h : zH} {r : Option Nat} {h' : zH} (hf : f_X1_with N l0 l1 l2 l3 h = some (r, h')) : zCa g jX1_with [zr (some l0), zi l1, zi l2, zi l3] h (some (zr r)) h' :=
  zCa.of hg (by decide +kernel) (by decide) (s_X1_with hg N l0 l1 l2 l3 h r h' hf)
theorem dX7_count_0 : decode cX7_count 0 = .ok (.aload_n 0, 1) := by decide +kernel
theorem dX7_count_1 : decode cX7_count 1 = .ok (.getfield 14, 3) := by decide +kernel
theorem dX7_count_4 : decode cX7_count 4 = .ok (.arraylength, 1) := by decide +kernel
theorem dX7_count_5 : decode cX7_count 5 = .ok (.iconst 4, 1) := by decide +kernel
theorem dX7_count_6 : decode cX7_count 6 = .ok (.idiv, 1) := by decide +kernel
theorem dX7_count_7 : decode cX7_count 7 = .ok (.ireturn, 1) := by decide +kernel
def f_X7_count (N : Nat) (l0 : Nat) (h : zH) : Option Int32 := (zgR h 7 (some l0) 0).bind fun x1 => (zlen h x1).bind fun x2 => some (x2 / (4 : Int32))
set_option maxHeartbeats 4000000 in
set_option maxRecDepth 100000 in
theorem s_X7_count {g : zG} (hg : g.2.1.map (fun q => q.2) = zty) {h0 : zH} (N : Nat) (l0 : Nat) (h : zH) (r : Int32) (hf : f_X7_count N l0 h = some r) : zR g jX7_count h0 0 [some (zr (some l0))] [] h (some (zi r)) h := by
  unfold f_X7_count at hf
  refine zr_aload_n (v := .inl (some l0)) dX7_count_0 rfl rfl ?_
  obtain ⟨x1, e_x1, hf⟩ := zbd hf
  refine zq_getR kg_21 dX7_count_1 e_x1 ?_
  obtain ⟨x2, e_x2, hf⟩ := zbd hf
  refine zq_alen dX7_count_4 e_x2 ?_
  refine zr_iconst (v := (4 : Int32)) dX7_count_5 (by decide) ?_
  refine zr_idiv (by decide) dX7_count_6 ?_
  cases hf
  exact zr_ret (some (zi (x2 / (4 : Int32)))) rfl dX7_count_7
theorem c_X7_count {g : zG} (hg : g.2.1.map (fun q => q.2) = zty) {N : Nat} {l0 : Nat} {h : zH} {r : Int32} (hf : f_X7_count N l0 h = some r) : zCa g jX7_count [zr (some l0)] h (some (zi r)) h :=
  zCa.of hg (by decide +kernel) (by decide) (s_X7_count hg N l0 h r hf)
theorem dX7_standsFor_0 : decode cX7_standsFor 0 = .ok (.aload_n 0, 1) := by decide +kernel
theorem dX7_standsFor_1 : decode cX7_standsFor 1 = .ok (.getfield 14, 3) := by decide +kernel
theorem dX7_standsFor_4 : decode cX7_standsFor 4 = .ok (.iload_n 1, 1) := by decide +kernel
theorem dX7_standsFor_5 : decode cX7_standsFor 5 = .ok (.iconst 0, 1) := by decide +kernel
theorem dX7_standsFor_6 : decode cX7_standsFor 6 = .ok (.iadd, 1) := by decide +kernel
theorem dX7_standsFor_7 : decode cX7_standsFor 7 = .ok (.iaload, 1) := by decide +kernel
theorem dX7_standsFor_8 : decode cX7_standsFor 8 = .ok (.iload_n 2, 1) := by decide +kernel
theorem dX7_standsFor_9 : decode cX7_standsFor 9 = .ok (.if_icmp .gt 23, 3) := by decide +kernel
theorem dX7_standsFor_12 : decode cX7_standsFor 12 = .ok (.aload_n 0, 1) := by decide +kernel
theorem dX7_standsFor_13 : decode cX7_standsFor 13 = .ok (.getfield 14, 3) := by decide +kernel
theorem dX7_standsFor_16 : decode cX7_standsFor 16 = .ok (.iload_n 1, 1) := by decide +kernel
theorem dX7_standsFor_17 : decode cX7_standsFor 17 = .ok (.iconst 0, 1) := by decide +kernel
theorem dX7_standsFor_18 : decode cX7_standsFor 18 = .ok (.iadd, 1) := by decide +kernel
theorem dX7_standsFor_19 : decode cX7_standsFor 19 = .ok (.iaload, 1) := by decide +kernel
theorem dX7_standsFor_20 : decode cX7_standsFor 20 = .ok (.iload_n 2, 1) := by decide +kernel
theorem dX7_standsFor_21 : decode cX7_standsFor 21 = .ok (.sipush 365, 3) := by decide +kernel
theorem dX7_standsFor_24 : decode cX7_standsFor 24 = .ok (.isub, 1) := by decide +kernel
theorem dX7_standsFor_25 : decode cX7_standsFor 25 = .ok (.if_icmp .le 7, 3) := by decide +kernel
theorem dX7_standsFor_28 : decode cX7_standsFor 28 = .ok (.iconst 1, 1) := by decide +kernel
theorem dX7_standsFor_29 : decode cX7_standsFor 29 = .ok (.goto 4, 3) := by decide +kernel
theorem dX7_standsFor_32 : decode cX7_standsFor 32 = .ok (.iconst 0, 1) := by decide +kernel
theorem dX7_standsFor_33 : decode cX7_standsFor 33 = .ok (.istore 4, 2) := by decide +kernel
theorem dX7_standsFor_35 : decode cX7_standsFor 35 = .ok (.aload_n 0, 1) := by decide +kernel
theorem dX7_standsFor_36 : decode cX7_standsFor 36 = .ok (.getfield 14, 3) := by decide +kernel
theorem dX7_standsFor_39 : decode cX7_standsFor 39 = .ok (.iload_n 1, 1) := by decide +kernel
theorem dX7_standsFor_40 : decode cX7_standsFor 40 = .ok (.iconst 3, 1) := by decide +kernel
theorem dX7_standsFor_41 : decode cX7_standsFor 41 = .ok (.iadd, 1) := by decide +kernel
theorem dX7_standsFor_42 : decode cX7_standsFor 42 = .ok (.iaload, 1) := by decide +kernel
theorem dX7_standsFor_43 : decode cX7_standsFor 43 = .ok (.iconst (-1), 1) := by decide +kernel
theorem dX7_standsFor_44 : decode cX7_standsFor 44 = .ok (.if_icmp .eq 19, 3) := by decide +kernel
theorem dX7_standsFor_47 : decode cX7_standsFor 47 = .ok (.aload_n 0, 1) := by decide +kernel
theorem dX7_standsFor_48 : decode cX7_standsFor 48 = .ok (.getfield 14, 3) := by decide +kernel
theorem dX7_standsFor_51 : decode cX7_standsFor 51 = .ok (.iload_n 1, 1) := by decide +kernel
theorem dX7_standsFor_52 : decode cX7_standsFor 52 = .ok (.iconst 3, 1) := by decide +kernel
theorem dX7_standsFor_53 : decode cX7_standsFor 53 = .ok (.iadd, 1) := by decide +kernel
theorem dX7_standsFor_54 : decode cX7_standsFor 54 = .ok (.iaload, 1) := by decide +kernel
theorem dX7_standsFor_55 : decode cX7_standsFor 55 = .ok (.iload_n 3, 1) := by decide +kernel
theorem dX7_standsFor_56 : decode cX7_standsFor 56 = .ok (.if_icmp .gt 7, 3) := by decide +kernel
theorem dX7_standsFor_59 : decode cX7_standsFor 59 = .ok (.iconst 1, 1) := by decide +kernel
theorem dX7_standsFor_60 : decode cX7_standsFor 60 = .ok (.goto 4, 3) := by decide +kernel
theorem dX7_standsFor_63 : decode cX7_standsFor 63 = .ok (.iconst 0, 1) := by decide +kernel
theorem dX7_standsFor_64 : decode cX7_standsFor 64 = .ok (.istore 5, 2) := by decide +kernel
theorem dX7_standsFor_66 : decode cX7_standsFor 66 = .ok (.iload 4, 2) := by decide +kernel
theorem dX7_standsFor_68 : decode cX7_standsFor 68 = .ok (.ifCond .eq 24, 3) := by decide +kernel
theorem dX7_standsFor_71 : decode cX7_standsFor 71 = .ok (.aload_n 0, 1) := by decide +kernel
theorem dX7_standsFor_72 : decode cX7_standsFor 72 = .ok (.getfield 14, 3) := by decide +kernel
theorem dX7_standsFor_75 : decode cX7_standsFor 75 = .ok (.iload_n 1, 1) := by decide +kernel
theorem dX7_standsFor_76 : decode cX7_standsFor 76 = .ok (.iconst 2, 1) := by decide +kernel
theorem dX7_standsFor_77 : decode cX7_standsFor 77 = .ok (.iadd, 1) := by decide +kernel
theorem dX7_standsFor_78 : decode cX7_standsFor 78 = .ok (.iaload, 1) := by decide +kernel
theorem dX7_standsFor_79 : decode cX7_standsFor 79 = .ok (.iload_n 3, 1) := by decide +kernel
theorem dX7_standsFor_80 : decode cX7_standsFor 80 = .ok (.if_icmp .gt 12, 3) := by decide +kernel
theorem dX7_standsFor_83 : decode cX7_standsFor 83 = .ok (.iload 5, 2) := by decide +kernel
theorem dX7_standsFor_85 : decode cX7_standsFor 85 = .ok (.ifCond .ne 7, 3) := by decide +kernel
theorem dX7_standsFor_88 : decode cX7_standsFor 88 = .ok (.iconst 1, 1) := by decide +kernel
theorem dX7_standsFor_89 : decode cX7_standsFor 89 = .ok (.goto 4, 3) := by decide +kernel
theorem dX7_standsFor_92 : decode cX7_standsFor 92 = .ok (.iconst 0, 1) := by decide +kernel
theorem dX7_standsFor_93 : decode cX7_standsFor 93 = .ok (.ireturn, 1) := by decide +kernel
def f_X7_standsFor_64 (N : Nat) (l0 : Nat) (l1 : Int32) (l3 : Int32) (l4 : Int32) (s0 : Int32) (h : zH) : Option Int32 := if l4 = 0 then some (0 : Int32) else (zgR h 7 (some l0) 0).bind fun x1 => (zld h 0 x1 (l1 + (2 : Int32))).bind fun x2 => if l3 < x2 then some (0 : Int32) else if s0 = 0 then some (1 : Int32) else some (0 : Int32)
set_option maxHeartbeats 4000000 in
set_option maxRecDepth 100000 in
theorem s_X7_standsFor_64 {g : zG} (hg : g.2.1.map (fun q => q.2) = zty) {h0 : zH} (N : Nat) (l0 : Nat) (l1 : Int32) (l3 : Int32) (l4 : Int32) (s0 : Int32) (h : zH) (r : Int32) (hf : f_X7_standsFor_64 N l0 l1 l3 l4 s0 h = some r) : zR g jX7_standsFor h0 64 [some (zr (some l0)), some (zi l1), none, some (zi l3), some (zi l4), none] [zi s0] h (some (zi r)) h := by
  unfold f_X7_standsFor_64 at hf
  refine zq_istore (x := s0) (L' := [some (zr (some l0)), some (zi l1), none, some (zi l3), some (zi l4), some (zi s0)]) dX7_standsFor_64 (by decide) rfl ?_
  refine zr_iload (x := l4) dX7_standsFor_66 rfl ?_
  by_cases hc1 : l4 = 0
  · rw [if_pos hc1] at hf
    refine zr_ifeq_t (tgt := 92) dX7_standsFor_68 (by decide) hc1 ?_
    refine zr_iconst (v := (0 : Int32)) dX7_standsFor_92 (by decide) ?_
    cases hf
    exact zr_ret (some (zi (0 : Int32))) rfl dX7_standsFor_93
  · rw [if_neg hc1] at hf
    refine zr_ifeq_f 92 dX7_standsFor_68 (by decide) hc1 ?_
    refine zr_aload_n (v := .inl (some l0)) dX7_standsFor_71 rfl rfl ?_
    obtain ⟨x1, e_x1, hf⟩ := zbd hf
    refine zq_getR kg_21 dX7_standsFor_72 e_x1 ?_
    refine zr_iload_n (x := l1) dX7_standsFor_75 rfl rfl ?_
    refine zr_iconst (v := (2 : Int32)) dX7_standsFor_76 (by decide) ?_
    refine zr_iadd dX7_standsFor_77 ?_
    obtain ⟨x2, e_x2, hf⟩ := zbd hf
    refine zq_iald dX7_standsFor_78 e_x2 ?_
    refine zr_iload_n (x := l3) dX7_standsFor_79 rfl rfl ?_
    by_cases hc2 : l3 < x2
    · rw [if_pos hc2] at hf
      refine zr_icgt_t (tgt := 92) dX7_standsFor_80 (by decide) hc2 ?_
      refine zr_iconst (v := (0 : Int32)) dX7_standsFor_92 (by decide) ?_
      cases hf
      exact zr_ret (some (zi (0 : Int32))) rfl dX7_standsFor_93
    · rw [if_neg hc2] at hf
      refine zr_icgt_f 92 dX7_standsFor_80 (by decide) hc2 ?_
      refine zr_iload (x := s0) dX7_standsFor_83 rfl ?_
      by_cases hc3 : s0 = 0
      · rw [if_pos hc3] at hf
        refine zr_ifne_f 92 dX7_standsFor_85 (by decide) hc3 ?_
        refine zr_iconst (v := (1 : Int32)) dX7_standsFor_88 (by decide) ?_
        refine zr_goto (tgt := 93) dX7_standsFor_89 (by decide) ?_
        cases hf
        exact zr_ret (some (zi (1 : Int32))) rfl dX7_standsFor_93
      · rw [if_neg hc3] at hf
        refine zr_ifne_t (tgt := 92) dX7_standsFor_85 (by decide) hc3 ?_
        refine zr_iconst (v := (0 : Int32)) dX7_standsFor_92 (by decide) ?_
        cases hf
        exact zr_ret (some (zi (0 : Int32))) rfl dX7_standsFor_93
def f_X7_standsFor_63 (N : Nat) (l0 : Nat) (l1 : Int32) (l3 : Int32) (l4 : Int32) (h : zH) : Option Int32 := f_X7_standsFor_64 N l0 l1 l3 l4 (0 : Int32) h
set_option maxHeartbeats 4000000 in
set_option maxRecDepth 100000 in
theorem s_X7_standsFor_63 {g : zG} (hg : g.2.1.map (fun q => q.2) = zty) {h0 : zH} (N : Nat) (l0 : Nat) (l1 : Int32) (l3 : Int32) (l4 : Int32) (h : zH) (r : Int32) (hf : f_X7_standsFor_63 N l0 l1 l3 l4 h = some r) : zR g jX7_standsFor h0 63 [some (zr (some l0)), some (zi l1), none, some (zi l3), some (zi l4), none] [] h (some (zi r)) h := by
  unfold f_X7_standsFor_63 at hf
  refine zr_iconst (v := (0 : Int32)) dX7_standsFor_63 (by decide) ?_
  exact s_X7_standsFor_64 hg N l0 l1 l3 l4 (0 : Int32) h r hf
def f_X7_standsFor_33 (N : Nat) (l0 : Nat) (l1 : Int32) (l3 : Int32) (s0 : Int32) (h : zH) : Option Int32 := (zgR h 7 (some l0) 0).bind fun x1 => (zld h 0 x1 (l1 + (3 : Int32))).bind fun x2 => if x2 = ((-1) : Int32) then f_X7_standsFor_63 N l0 l1 l3 s0 h else (zgR h 7 (some l0) 0).bind fun x3 => (zld h 0 x3 (l1 + (3 : Int32))).bind fun x4 => if l3 < x4 then f_X7_standsFor_63 N l0 l1 l3 s0 h else f_X7_standsFor_64 N l0 l1 l3 s0 (1 : Int32) h
set_option maxHeartbeats 4000000 in
set_option maxRecDepth 100000 in
theorem s_X7_standsFor_33 {g : zG} (hg : g.2.1.map (fun q => q.2) = zty) {h0 : zH} (N : Nat) (l0 : Nat) (l1 : Int32) (l3 : Int32) (s0 : Int32) (h : zH) (r : Int32) (hf : f_X7_standsFor_33 N l0 l1 l3 s0 h = some r) : zR g jX7_standsFor h0 33 [some (zr (some l0)), some (zi l1), none, some (zi l3), none, none] [zi s0] h (some (zi r)) h := by
  unfold f_X7_standsFor_33 at hf
  refine zq_istore (x := s0) (L' := [some (zr (some l0)), some (zi l1), none, some (zi l3), some (zi s0), none]) dX7_standsFor_33 (by decide) rfl ?_
  refine zr_aload_n (v := .inl (some l0)) dX7_standsFor_35 rfl rfl ?_
  obtain ⟨x1, e_x1, hf⟩ := zbd hf
  refine zq_getR kg_21 dX7_standsFor_36 e_x1 ?_
  refine zr_iload_n (x := l1) dX7_standsFor_39 rfl rfl ?_
  refine zr_iconst (v := (3 : Int32)) dX7_standsFor_40 (by decide) ?_
  refine zr_iadd dX7_standsFor_41 ?_
  obtain ⟨x2, e_x2, hf⟩ := zbd hf
  refine zq_iald dX7_standsFor_42 e_x2 ?_
  refine zr_iconst (v := ((-1) : Int32)) dX7_standsFor_43 (by decide) ?_
  by_cases hc1 : x2 = ((-1) : Int32)
  · rw [if_pos hc1] at hf
    refine zr_iceq_t (tgt := 63) dX7_standsFor_44 (by decide) hc1 ?_
    exact s_X7_standsFor_63 hg N l0 l1 l3 s0 h r hf
  · rw [if_neg hc1] at hf
    refine zr_iceq_f 63 dX7_standsFor_44 (by decide) hc1 ?_
    refine zr_aload_n (v := .inl (some l0)) dX7_standsFor_47 rfl rfl ?_
    obtain ⟨x3, e_x3, hf⟩ := zbd hf
    refine zq_getR kg_21 dX7_standsFor_48 e_x3 ?_
    refine zr_iload_n (x := l1) dX7_standsFor_51 rfl rfl ?_
    refine zr_iconst (v := (3 : Int32)) dX7_standsFor_52 (by decide) ?_
    refine zr_iadd dX7_standsFor_53 ?_
    obtain ⟨x4, e_x4, hf⟩ := zbd hf
    refine zq_iald dX7_standsFor_54 e_x4 ?_
    refine zr_iload_n (x := l3) dX7_standsFor_55 rfl rfl ?_
    by_cases hc2 : l3 < x4
    · rw [if_pos hc2] at hf
      refine zr_icgt_t (tgt := 63) dX7_standsFor_56 (by decide) hc2 ?_
      exact s_X7_standsFor_63 hg N l0 l1 l3 s0 h r hf
    · rw [if_neg hc2] at hf
      refine zr_icgt_f 63 dX7_standsFor_56 (by decide) hc2 ?_
      refine zr_iconst (v := (1 : Int32)) dX7_standsFor_59 (by decide) ?_
      refine zr_goto (tgt := 64) dX7_standsFor_60 (by decide) ?_
      exact s_X7_standsFor_64 hg N l0 l1 l3 s0 (1 : Int32) h r hf
def f_X7_standsFor_32 (N : Nat) (l0 : Nat) (l1 : Int32) (l3 : Int32) (h : zH) : Option Int32 := f_X7_standsFor_33 N l0 l1 l3 (0 : Int32) h
set_option maxHeartbeats 4000000 in
set_option maxRecDepth 100000 in
theorem s_X7_standsFor_32 {g : zG} (hg : g.2.1.map (fun q => q.2) = zty) {h0 : zH} (N : Nat) (l0 : Nat) (l1 : Int32) (l3 : Int32) (h : zH) (r : Int32) (hf : f_X7_standsFor_32 N l0 l1 l3 h = some r) : zR g jX7_standsFor h0 32 [some (zr (some l0)), some (zi l1), none, some (zi l3), none, none] [] h (some (zi r)) h := by
  unfold f_X7_standsFor_32 at hf
  refine zr_iconst (v := (0 : Int32)) dX7_standsFor_32 (by decide) ?_
  exact s_X7_standsFor_33 hg N l0 l1 l3 (0 : Int32) h r hf
def f_X7_standsFor (N : Nat) (l0 : Nat) (l1 : Int32) (l2 : Int32) (l3 : Int32) (h : zH) : Option Int32 := (zgR h 7 (some l0) 0).bind fun x1 => (zld h 0 x1 (l1 + (0 : Int32))).bind fun x2 => if l2 < x2 then f_X7_standsFor_32 N l0 l1 l3 h else (zgR h 7 (some l0) 0).bind fun x3 => (zld h 0 x3 (l1 + (0 : Int32))).bind fun x4 => if x4 ≤ (l2 - (365 : Int32)) then f_X7_standsFor_32 N l0 l1 l3 h else f_X7_standsFor_33 N l0 l1 l3 (1 : Int32) h
set_option maxHeartbeats 4000000 in
set_option maxRecDepth 100000 in
theorem s_X7_standsFor {g : zG} (hg : g.2.1.map (fun q => q.2) = zty) {h0 : zH} (N : Nat) (l0 : Nat) (l1 : Int32) (l2 : Int32) (l3 : Int32) (h : zH) (r : Int32) (hf : f_X7_standsFor N l0 l1 l2 l3 h = some r) : zR g jX7_standsFor h0 0 [some (zr (some l0)), some (zi l1), some (zi l2), some (zi l3), none, none] [] h (some (zi r)) h := by
  unfold f_X7_standsFor at hf
  refine zr_aload_n (v := .inl (some l0)) dX7_standsFor_0 rfl rfl ?_
  obtain ⟨x1, e_x1, hf⟩ := zbd hf
  refine zq_getR kg_21 dX7_standsFor_1 e_x1 ?_
  refine zr_iload_n (x := l1) dX7_standsFor_4 rfl rfl ?_
  refine zr_iconst (v := (0 : Int32)) dX7_standsFor_5 (by decide) ?_
  refine zr_iadd dX7_standsFor_6 ?_
  obtain ⟨x2, e_x2, hf⟩ := zbd hf
  refine zq_iald dX7_standsFor_7 e_x2 ?_
  refine zr_iload_n (x := l2) dX7_standsFor_8 rfl rfl ?_
  by_cases hc1 : l2 < x2
  · rw [if_pos hc1] at hf
    refine zr_icgt_t (tgt := 32) dX7_standsFor_9 (by decide) hc1 ?_
    refine zr_forget 2 (L' := [some (zr (some l0)), some (zi l1), none, some (zi l3), none, none]) rfl ?_
    exact s_X7_standsFor_32 hg N l0 l1 l3 h r hf
  · rw [if_neg hc1] at hf
    refine zr_icgt_f 32 dX7_standsFor_9 (by decide) hc1 ?_
    refine zr_aload_n (v := .inl (some l0)) dX7_standsFor_12 rfl rfl ?_
    obtain ⟨x3, e_x3, hf⟩ := zbd hf
    refine zq_getR kg_21 dX7_standsFor_13 e_x3 ?_
    refine zr_iload_n (x := l1) dX7_standsFor_16 rfl rfl ?_
    refine zr_iconst (v := (0 : Int32)) dX7_standsFor_17 (by decide) ?_
    refine zr_iadd dX7_standsFor_18 ?_
    obtain ⟨x4, e_x4, hf⟩ := zbd hf
    refine zq_iald dX7_standsFor_19 e_x4 ?_
    refine zr_iload_n (x := l2) dX7_standsFor_20 rfl rfl ?_
    refine zr_sipush (v := (365 : Int32)) dX7_standsFor_21 (by decide) ?_
    refine zr_isub dX7_standsFor_24 ?_
    by_cases hc2 : x4 ≤ (l2 - (365 : Int32))
    · rw [if_pos hc2] at hf
      refine zr_icle_t (tgt := 32) dX7_standsFor_25 (by decide) hc2 ?_
      refine zr_forget 2 (L' := [some (zr (some l0)), some (zi l1), none, some (zi l3), none, none]) rfl ?_
      exact s_X7_standsFor_32 hg N l0 l1 l3 h r hf
    · rw [if_neg hc2] at hf
      refine zr_icle_f 32 dX7_standsFor_25 (by decide) hc2 ?_
      refine zr_iconst (v := (1 : Int32)) dX7_standsFor_28 (by decide) ?_
      refine zr_goto (tgt := 33) dX7_standsFor_29 (by decide) ?_
      refine zr_forget 2 (L' := [some (zr (some l0)), some (zi l1), none, some (zi l3), none, none]) rfl ?_
      exact s_X7_standsFor_33 hg N l0 l1 l3 (1 : Int32) h r hf
theorem c_X7_standsFor {g : zG} (hg : g.2.1.map (fun q => q.2) = zty) {N : Nat} {l0 : Nat} {l1 : Int32} {l2 : Int32} {l3 : Int32} {h : zH} {r : Int32} (hf : f_X7_standsFor N l0 l1 l2 l3 h = some r) : zCa g jX7_standsFor [zr (some l0), zi l1, zi l2, zi l3] h (some (zi r)) h :=
  zCa.of hg (by decide +kernel) (by decide) (s_X7_standsFor hg N l0 l1 l2 l3 h r hf)
theorem dX7_countFor_0 : decode cX7_countFor 0 = .ok (.iconst 0, 1) := by decide +kernel
theorem dX7_countFor_1 : decode cX7_countFor 1 = .ok (.istore 4, 2) := by decide +kernel
theorem dX7_countFor_3 : decode cX7_countFor 3 = .ok (.iconst 0, 1) := by decide +kernel
theorem dX7_countFor_4 : decode cX7_countFor 4 = .ok (.istore 5, 2) := by decide +kernel
theorem dX7_countFor_6 : decode cX7_countFor 6 = .ok (.iload 5, 2) := by decide +kernel
theorem dX7_countFor_8 : decode cX7_countFor 8 = .ok (.aload_n 0, 1) := by decide +kernel
theorem dX7_countFor_9 : decode cX7_countFor 9 = .ok (.invokevirtual 24, 3) := by decide +kernel
theorem dX7_countFor_12 : decode cX7_countFor 12 = .ok (.if_icmp .ge 40, 3) := by decide +kernel
theorem dX7_countFor_15 : decode cX7_countFor 15 = .ok (.aload_n 0, 1) := by decide +kernel
theorem dX7_countFor_16 : decode cX7_countFor 16 = .ok (.iload 5, 2) := by decide +kernel
theorem dX7_countFor_18 : decode cX7_countFor 18 = .ok (.iconst 4, 1) := by decide +kernel
theorem dX7_countFor_19 : decode cX7_countFor 19 = .ok (.imul, 1) := by decide +kernel
theorem dX7_countFor_20 : decode cX7_countFor 20 = .ok (.iload_n 1, 1) := by decide +kernel
theorem dX7_countFor_21 : decode cX7_countFor 21 = .ok (.iload_n 2, 1) := by decide +kernel
theorem dX7_countFor_22 : decode cX7_countFor 22 = .ok (.invokevirtual 33, 3) := by decide +kernel
theorem dX7_countFor_25 : decode cX7_countFor 25 = .ok (.ifCond .eq 21, 3) := by decide +kernel
theorem dX7_countFor_28 : decode cX7_countFor 28 = .ok (.aload_n 0, 1) := by decide +kernel
theorem dX7_countFor_29 : decode cX7_countFor 29 = .ok (.getfield 14, 3) := by decide +kernel
theorem dX7_countFor_32 : decode cX7_countFor 32 = .ok (.iload 5, 2) := by decide +kernel
theorem dX7_countFor_34 : decode cX7_countFor 34 = .ok (.iconst 4, 1) := by decide +kernel
theorem dX7_countFor_35 : decode cX7_countFor 35 = .ok (.imul, 1) := by decide +kernel
theorem dX7_countFor_36 : decode cX7_countFor 36 = .ok (.iconst 1, 1) := by decide +kernel
theorem dX7_countFor_37 : decode cX7_countFor 37 = .ok (.iadd, 1) := by decide +kernel
theorem dX7_countFor_38 : decode cX7_countFor 38 = .ok (.iaload, 1) := by decide +kernel
theorem dX7_countFor_39 : decode cX7_countFor 39 = .ok (.iload_n 3, 1) := by decide +kernel
theorem dX7_countFor_40 : decode cX7_countFor 40 = .ok (.if_icmp .lt 6, 3) := by decide +kernel
theorem dX7_countFor_43 : decode cX7_countFor 43 = .ok (.iinc 4 1, 3) := by decide +kernel
theorem dX7_countFor_46 : decode cX7_countFor 46 = .ok (.iinc 5 1, 3) := by decide +kernel
theorem dX7_countFor_49 : decode cX7_countFor 49 = .ok (.goto (-43), 3) := by decide +kernel
theorem dX7_countFor_52 : decode cX7_countFor 52 = .ok (.iload 4, 2) := by decide +kernel
theorem dX7_countFor_54 : decode cX7_countFor 54 = .ok (.ireturn, 1) := by decide +kernel
def f_X7_countFor_6 (N : Nat) : Nat → Nat → Int32 → Int32 → Int32 → Int32 → Int32 → zH → Option Int32
  | 0, _, _, _, _, _, _, _ => none
  | n + 1, l0, l1, l2, l3, l4, l5, h => (zck h 7 (some l0)).bind fun q1 => (f_X7_count N q1 h).bind fun x1 => if x1 ≤ l5 then some l4 else (zck h 7 (some l0)).bind fun q2 => (f_X7_standsFor N q2 (l5 * (4 : Int32)) l1 l2 h).bind fun x2 => if x2 = 0 then f_X7_countFor_6 N n l0 l1 l2 l3 l4 (l5 + (1 : Int32)) h else (zgR h 7 (some l0) 0).bind fun x3 => (zld h 0 x3 ((l5 * (4 : Int32)) + (1 : Int32))).bind fun x4 => if x4 < l3 then f_X7_countFor_6 N n l0 l1 l2 l3 l4 (l5 + (1 : Int32)) h else f_X7_countFor_6 N n l0 l1 l2 l3 (l4 + (1 : Int32)) (l5 + (1 : Int32)) h
set_option maxHeartbeats 4000000 in
set_option maxRecDepth 100000 in
theorem s_X7_countFor_6 {g : zG} (hg : g.2.1.map (fun q => q.2) = zty) {h0 : zH} (N : Nat) : ∀ (n : Nat) (l0 : Nat) (l1 : Int32) (l2 : Int32) (l3 : Int32) (l4 : Int32) (l5 : Int32) (h : zH) (r : Int32), f_X7_countFor_6 N n l0 l1 l2 l3 l4 l5 h = some r → zR g jX7_countFor h0 6 [some (zr (some l0)), some (zi l1), some (zi l2), some (zi l3), some (zi l4), some (zi l5)] [] h (some (zi r)) h := by
  intro n
  induction n with
  | zero =>
    intro l0 l1 l2 l3 l4 l5 h r hf
    cases hf
  | succ n ih =>
    intro l0 l1 l2 l3 l4 l5 h r hf
    rw [f_X7_countFor_6] at hf
    refine zr_iload (x := l5) dX7_countFor_6 rfl ?_
    refine zr_aload_n (v := .inl (some l0)) dX7_countFor_8 rfl rfl ?_
    obtain ⟨q1, e_q1, hf⟩ := zbd hf
    obtain ⟨x1, e_x1, hf⟩ := zbd hf
    refine zq_callV (J' := jX7_count) (as := []) (rest := [zi l5]) (r1 := (some (zi x1))) (q := (RX7, TX7, 1)) kw_45 km_X7_count kt_23 dX7_countFor_9 rfl (by decide) rfl rfl e_q1 rfl (c_X7_count hg e_x1) ?_
    by_cases hc1 : x1 ≤ l5
    · rw [if_pos hc1] at hf
      refine zr_icge_t (tgt := 52) dX7_countFor_12 (by decide) hc1 ?_
      refine zr_iload (x := l4) dX7_countFor_52 rfl ?_
      cases hf
      exact zr_ret (some (zi l4)) rfl dX7_countFor_54
    · rw [if_neg hc1] at hf
      refine zr_icge_f 52 dX7_countFor_12 (by decide) hc1 ?_
      refine zr_aload_n (v := .inl (some l0)) dX7_countFor_15 rfl rfl ?_
      refine zr_iload (x := l5) dX7_countFor_16 rfl ?_
      refine zr_iconst (v := (4 : Int32)) dX7_countFor_18 (by decide) ?_
      refine zr_imul dX7_countFor_19 ?_
      refine zr_iload_n (x := l1) dX7_countFor_20 rfl rfl ?_
      refine zr_iload_n (x := l2) dX7_countFor_21 rfl rfl ?_
      obtain ⟨q2, e_q2, hf⟩ := zbd hf
      obtain ⟨x2, e_x2, hf⟩ := zbd hf
      refine zq_callV (J' := jX7_standsFor) (as := [zi (l5 * (4 : Int32)), zi l1, zi l2]) (rest := []) (r1 := (some (zi x2))) (q := (RX7, TX7, 1)) kw_50 km_X7_standsFor kt_25 dX7_countFor_22 rfl (by decide) rfl rfl e_q2 rfl (c_X7_standsFor hg e_x2) ?_
      by_cases hc2 : x2 = 0
      · rw [if_pos hc2] at hf
        refine zr_ifeq_t (tgt := 46) dX7_countFor_25 (by decide) hc2 ?_
        refine zq_iinc (x := l5) (y := (1 : Int32)) (L' := [some (zr (some l0)), some (zi l1), some (zi l2), some (zi l3), some (zi l4), some (zi (l5 + (1 : Int32)))]) dX7_countFor_46 rfl (by decide) (by decide) rfl ?_
        refine zr_goto (tgt := 6) dX7_countFor_49 (by decide) ?_
        exact ih l0 l1 l2 l3 l4 (l5 + (1 : Int32)) h r hf
      · rw [if_neg hc2] at hf
        refine zr_ifeq_f 46 dX7_countFor_25 (by decide) hc2 ?_
        refine zr_aload_n (v := .inl (some l0)) dX7_countFor_28 rfl rfl ?_
        obtain ⟨x3, e_x3, hf⟩ := zbd hf
        refine zq_getR kg_21 dX7_countFor_29 e_x3 ?_
        refine zr_iload (x := l5) dX7_countFor_32 rfl ?_
        refine zr_iconst (v := (4 : Int32)) dX7_countFor_34 (by decide) ?_
        refine zr_imul dX7_countFor_35 ?_
        refine zr_iconst (v := (1 : Int32)) dX7_countFor_36 (by decide) ?_
        refine zr_iadd dX7_countFor_37 ?_
        obtain ⟨x4, e_x4, hf⟩ := zbd hf
        refine zq_iald dX7_countFor_38 e_x4 ?_
        refine zr_iload_n (x := l3) dX7_countFor_39 rfl rfl ?_
        by_cases hc3 : x4 < l3
        · rw [if_pos hc3] at hf
          refine zr_iclt_t (tgt := 46) dX7_countFor_40 (by decide) hc3 ?_
          refine zq_iinc (x := l5) (y := (1 : Int32)) (L' := [some (zr (some l0)), some (zi l1), some (zi l2), some (zi l3), some (zi l4), some (zi (l5 + (1 : Int32)))]) dX7_countFor_46 rfl (by decide) (by decide) rfl ?_
          refine zr_goto (tgt := 6) dX7_countFor_49 (by decide) ?_
          exact ih l0 l1 l2 l3 l4 (l5 + (1 : Int32)) h r hf
        · rw [if_neg hc3] at hf
          refine zr_iclt_f 46 dX7_countFor_40 (by decide) hc3 ?_
          refine zq_iinc (x := l4) (y := (1 : Int32)) (L' := [some (zr (some l0)), some (zi l1), some (zi l2), some (zi l3), some (zi (l4 + (1 : Int32))), some (zi l5)]) dX7_countFor_43 rfl (by decide) (by decide) rfl ?_
          refine zq_iinc (x := l5) (y := (1 : Int32)) (L' := [some (zr (some l0)), some (zi l1), some (zi l2), some (zi l3), some (zi (l4 + (1 : Int32))), some (zi (l5 + (1 : Int32)))]) dX7_countFor_46 rfl (by decide) (by decide) rfl ?_
          refine zr_goto (tgt := 6) dX7_countFor_49 (by decide) ?_
          exact ih l0 l1 l2 l3 (l4 + (1 : Int32)) (l5 + (1 : Int32)) h r hf
def f_X7_countFor (N : Nat) (l0 : Nat) (l1 : Int32) (l2 : Int32) (l3 : Int32) (h : zH) : Option Int32 := f_X7_countFor_6 N N l0 l1 l2 l3 (0 : Int32) (0 : Int32) h
set_option maxHeartbeats 4000000 in
set_option maxRecDepth 100000 in
theorem s_X7_countFor {g : zG} (hg : g.2.1.map (fun q => q.2) = zty) {h0 : zH} (N : Nat) (l0 : Nat) (l1 : Int32) (l2 : Int32) (l3 : Int32) (h : zH) (r : Int32) (hf : f_X7_countFor N l0 l1 l2 l3 h = some r) : zR g jX7_countFor h0 0 [some (zr (some l0)), some (zi l1), some (zi l2), some (zi l3), none, none] [] h (some (zi r)) h := by
  unfold f_X7_countFor at hf
  refine zr_iconst (v := (0 : Int32)) dX7_countFor_0 (by decide) ?_
  refine zq_istore (x := (0 : Int32)) (L' := [some (zr (some l0)), some (zi l1), some (zi l2), some (zi l3), some (zi (0 : Int32)), none]) dX7_countFor_1 (by decide) rfl ?_
  refine zr_iconst (v := (0 : Int32)) dX7_countFor_3 (by decide) ?_
  refine zq_istore (x := (0 : Int32)) (L' := [some (zr (some l0)), some (zi l1), some (zi l2), some (zi l3), some (zi (0 : Int32)), some (zi (0 : Int32))]) dX7_countFor_4 (by decide) rfl ?_
  exact s_X7_countFor_6 hg N N l0 l1 l2 l3 (0 : Int32) (0 : Int32) h r hf
theorem c_X7_countFor {g : zG} (hg : g.2.1.map (fun q => q.2) = zty) {N : Nat} {l0 : Nat} {l1 : Int32} {l2 : Int32} {l3 : Int32} {h : zH} {r : Int32} (hf : f_X7_countFor N l0 l1 l2 l3 h = some r) : zCa g jX7_countFor [zr (some l0), zi l1, zi l2, zi l3] h (some (zi r)) h :=
  zCa.of hg (by decide +kernel) (by decide) (s_X7_countFor hg N l0 l1 l2 l3 h r hf)
theorem dX1_classOf_0 : decode cX1_classOf 0 = .ok (.iconst 0, 1) := by decide +kernel
theorem dX1_classOf_1 : decode cX1_classOf 1 = .ok (.istore 4, 2) := by decide +kernel
theorem dX1_classOf_3 : decode cX1_classOf 3 = .ok (.iload 4, 2) := by decide +kernel
theorem dX1_classOf_5 : decode cX1_classOf 5 = .ok (.aload_n 0, 1) := by decide +kernel
theorem dX1_classOf_6 : decode cX1_classOf 6 = .ok (.invokevirtual 16, 3) := by decide +kernel
theorem dX1_classOf_9 : decode cX1_classOf 9 = .ok (.if_icmp .ge 52, 3) := by decide +kernel
theorem dX1_classOf_12 : decode cX1_classOf 12 = .ok (.iload 4, 2) := by decide +kernel
theorem dX1_classOf_14 : decode cX1_classOf 14 = .ok (.iconst 3, 1) := by decide +kernel
theorem dX1_classOf_15 : decode cX1_classOf 15 = .ok (.imul, 1) := by decide +kernel
theorem dX1_classOf_16 : decode cX1_classOf 16 = .ok (.istore 5, 2) := by decide +kernel
theorem dX1_classOf_18 : decode cX1_classOf 18 = .ok (.aload_n 1, 1) := by decide +kernel
theorem dX1_classOf_19 : decode cX1_classOf 19 = .ok (.iload_n 2, 1) := by decide +kernel
theorem dX1_classOf_20 : decode cX1_classOf 20 = .ok (.iload_n 3, 1) := by decide +kernel
theorem dX1_classOf_21 : decode cX1_classOf 21 = .ok (.aload_n 0, 1) := by decide +kernel
theorem dX1_classOf_22 : decode cX1_classOf 22 = .ok (.getfield 12, 3) := by decide +kernel
theorem dX1_classOf_25 : decode cX1_classOf 25 = .ok (.iload 5, 2) := by decide +kernel
theorem dX1_classOf_27 : decode cX1_classOf 27 = .ok (.iconst 2, 1) := by decide +kernel
theorem dX1_classOf_28 : decode cX1_classOf 28 = .ok (.iadd, 1) := by decide +kernel
theorem dX1_classOf_29 : decode cX1_classOf 29 = .ok (.iaload, 1) := by decide +kernel
theorem dX1_classOf_30 : decode cX1_classOf 30 = .ok (.invokevirtual 26, 3) := by decide +kernel
theorem dX1_classOf_33 : decode cX1_classOf 33 = .ok (.aload_n 0, 1) := by decide +kernel
theorem dX1_classOf_34 : decode cX1_classOf 34 = .ok (.getfield 12, 3) := by decide +kernel
theorem dX1_classOf_37 : decode cX1_classOf 37 = .ok (.iload 5, 2) := by decide +kernel
theorem dX1_classOf_39 : decode cX1_classOf 39 = .ok (.iconst 1, 1) := by decide +kernel
theorem dX1_classOf_40 : decode cX1_classOf 40 = .ok (.iadd, 1) := by decide +kernel
theorem dX1_classOf_41 : decode cX1_classOf 41 = .ok (.iaload, 1) := by decide +kernel
theorem dX1_classOf_42 : decode cX1_classOf 42 = .ok (.if_icmp .lt 13, 3) := by decide +kernel
theorem dX1_classOf_45 : decode cX1_classOf 45 = .ok (.aload_n 0, 1) := by decide +kernel
theorem dX1_classOf_46 : decode cX1_classOf 46 = .ok (.getfield 12, 3) := by decide +kernel
theorem dX1_classOf_49 : decode cX1_classOf 49 = .ok (.iload 5, 2) := by decide +kernel
theorem dX1_classOf_51 : decode cX1_classOf 51 = .ok (.iconst 0, 1) := by decide +kernel
theorem dX1_classOf_52 : decode cX1_classOf 52 = .ok (.iadd, 1) := by decide +kernel
theorem dX1_classOf_53 : decode cX1_classOf 53 = .ok (.iaload, 1) := by decide +kernel
theorem dX1_classOf_54 : decode cX1_classOf 54 = .ok (.ireturn, 1) := by decide +kernel
theorem dX1_classOf_55 : decode cX1_classOf 55 = .ok (.iinc 4 1, 3) := by decide +kernel
theorem dX1_classOf_58 : decode cX1_classOf 58 = .ok (.goto (-55), 3) := by decide +kernel
theorem dX1_classOf_61 : decode cX1_classOf 61 = .ok (.iconst 0, 1) := by decide +kernel
theorem dX1_classOf_62 : decode cX1_classOf 62 = .ok (.ireturn, 1) := by decide +kernel
def f_X1_classOf_3 (N : Nat) : Nat → Nat → Option Nat → Int32 → Int32 → Int32 → zH → Option Int32
  | 0, _, _, _, _, _, _ => none
  | n + 1, l0, l1, l2, l3, l4, h => (zck h 1 (some l0)).bind fun q1 => (f_X1_count N q1 h).bind fun x1 => if x1 ≤ l4 then some (0 : Int32) else (zgR h 1 (some l0) 0).bind fun x2 => (zld h 0 x2 ((l4 * (3 : Int32)) + (2 : Int32))).bind fun x3 => (zck h 7 l1).bind fun q2 => (f_X7_countFor N q2 l2 l3 x3 h).bind fun x4 => (zgR h 1 (some l0) 0).bind fun x5 => (zld h 0 x5 ((l4 * (3 : Int32)) + (1 : Int32))).bind fun x6 => if x4 < x6 then f_X1_classOf_3 N n l0 l1 l2 l3 (l4 + (1 : Int32)) h else (zgR h 1 (some l0) 0).bind fun x7 => (zld h 0 x7 ((l4 * (3 : Int32)) + (0 : Int32))).bind fun x8 => some x8
set_option maxHeartbeats 4000000 in
set_option maxRecDepth 100000 in
theorem s_X1_classOf_3 {g : zG} (hg : g.2.1.map (fun q => q.2) = zty) {h0 : zH} (N : Nat) : ∀ (n : Nat) (l0 : Nat) (l1 : Option Nat) (l2 : Int32) (l3 : Int32) (l4 : Int32) (h : zH) (r : Int32), f_X1_classOf_3 N n l0 l1 l2 l3 l4 h = some r → zR g jX1_classOf h0 3 [some (zr (some l0)), some (zr l1), some (zi l2), some (zi l3), some (zi l4), none] [] h (some (zi r)) h := by
  intro n
  induction n with
  | zero =>
    intro l0 l1 l2 l3 l4 h r hf
    cases hf
  | succ n ih =>
    intro l0 l1 l2 l3 l4 h r hf
    rw [f_X1_classOf_3] at hf
    refine zr_iload (x := l4) dX1_classOf_3 rfl ?_
    refine zr_aload_n (v := .inl (some l0)) dX1_classOf_5 rfl rfl ?_
    obtain ⟨q1, e_q1, hf⟩ := zbd hf
    obtain ⟨x1, e_x1, hf⟩ := zbd hf
    refine zq_callV (J' := jX1_count) (as := []) (rest := [zi l4]) (r1 := (some (zi x1))) (q := (RX1, TX1, 1)) kw_19 km_X1_count kt_26 dX1_classOf_6 rfl (by decide) rfl rfl e_q1 rfl (c_X1_count hg e_x1) ?_
    by_cases hc1 : x1 ≤ l4
    · rw [if_pos hc1] at hf
      refine zr_icge_t (tgt := 61) dX1_classOf_9 (by decide) hc1 ?_
      refine zr_iconst (v := (0 : Int32)) dX1_classOf_61 (by decide) ?_
      cases hf
      exact zr_ret (some (zi (0 : Int32))) rfl dX1_classOf_62
    · rw [if_neg hc1] at hf
      refine zr_icge_f 61 dX1_classOf_9 (by decide) hc1 ?_
      refine zr_iload (x := l4) dX1_classOf_12 rfl ?_
      refine zr_iconst (v := (3 : Int32)) dX1_classOf_14 (by decide) ?_
      refine zr_imul dX1_classOf_15 ?_
      refine zq_istore (x := (l4 * (3 : Int32))) (L' := [some (zr (some l0)), some (zr l1), some (zi l2), some (zi l3), some (zi l4), some (zi (l4 * (3 : Int32)))]) dX1_classOf_16 (by decide) rfl ?_
      refine zr_aload_n (v := .inl l1) dX1_classOf_18 rfl rfl ?_
      refine zr_iload_n (x := l2) dX1_classOf_19 rfl rfl ?_
      refine zr_iload_n (x := l3) dX1_classOf_20 rfl rfl ?_
      refine zr_aload_n (v := .inl (some l0)) dX1_classOf_21 rfl rfl ?_
      obtain ⟨x2, e_x2, hf⟩ := zbd hf
      refine zq_getR kg_13 dX1_classOf_22 e_x2 ?_
      refine zr_iload (x := (l4 * (3 : Int32))) dX1_classOf_25 rfl ?_
      refine zr_iconst (v := (2 : Int32)) dX1_classOf_27 (by decide) ?_
      refine zr_iadd dX1_classOf_28 ?_
      obtain ⟨x3, e_x3, hf⟩ := zbd hf
      refine zq_iald dX1_classOf_29 e_x3 ?_
      obtain ⟨q2, e_q2, hf⟩ := zbd hf
      obtain ⟨x4, e_x4, hf⟩ := zbd hf
      refine zq_callV (J' := jX7_countFor) (as := [zi l2, zi l3, zi x3]) (rest := []) (r1 := (some (zi x4))) (q := (RX7, TX7, 1)) kw_54 km_X7_countFor kt_28 dX1_classOf_30 rfl (by decide) rfl rfl e_q2 rfl (c_X7_countFor hg e_x4) ?_
      refine zr_aload_n (v := .inl (some l0)) dX1_classOf_33 rfl rfl ?_
      obtain ⟨x5, e_x5, hf⟩ := zbd hf
      refine zq_getR kg_13 dX1_classOf_34 e_x5 ?_
      refine zr_iload (x := (l4 * (3 : Int32))) dX1_classOf_37 rfl ?_
      refine zr_iconst (v := (1 : Int32)) dX1_classOf_39 (by decide) ?_
      refine zr_iadd dX1_classOf_40 ?_
      obtain ⟨x6, e_x6, hf⟩ := zbd hf
      refine zq_iald dX1_classOf_41 e_x6 ?_
      by_cases hc2 : x4 < x6
      · rw [if_pos hc2] at hf
        refine zr_iclt_t (tgt := 55) dX1_classOf_42 (by decide) hc2 ?_
        refine zq_iinc (x := l4) (y := (1 : Int32)) (L' := [some (zr (some l0)), some (zr l1), some (zi l2), some (zi l3), some (zi (l4 + (1 : Int32))), some (zi (l4 * (3 : Int32)))]) dX1_classOf_55 rfl (by decide) (by decide) rfl ?_
        refine zr_goto (tgt := 3) dX1_classOf_58 (by decide) ?_
        refine zr_forget 5 (L' := [some (zr (some l0)), some (zr l1), some (zi l2), some (zi l3), some (zi (l4 + (1 : Int32))), none]) rfl ?_
        exact ih l0 l1 l2 l3 (l4 + (1 : Int32)) h r hf
      · rw [if_neg hc2] at hf
        refine zr_iclt_f 55 dX1_classOf_42 (by decide) hc2 ?_
        refine zr_aload_n (v := .inl (some l0)) dX1_classOf_45 rfl rfl ?_
        obtain ⟨x7, e_x7, hf⟩ := zbd hf
        refine zq_getR kg_13 dX1_classOf_46 e_x7 ?_
        refine zr_iload (x := (l4 * (3 : Int32))) dX1_classOf_49 rfl ?_
        refine zr_iconst (v := (0 : Int32)) dX1_classOf_51 (by decide) ?_
        refine zr_iadd dX1_classOf_52 ?_
        obtain ⟨x8, e_x8, hf⟩ := zbd hf
        refine zq_iald dX1_classOf_53 e_x8 ?_
        cases hf
        exact zr_ret (some (zi x8)) rfl dX1_classOf_54
def f_X1_classOf (N : Nat) (l0 : Nat) (l1 : Option Nat) (l2 : Int32) (l3 : Int32) (h : zH) : Option Int32 := f_X1_classOf_3 N N l0 l1 l2 l3 (0 : Int32) h
set_option maxHeartbeats 4000000 in
set_option maxRecDepth 100000 in
theorem s_X1_classOf {g : zG} (hg : g.2.1.map (fun q => q.2) = zty) {h0 : zH} (N : Nat) (l0 : Nat) (l1 : Option Nat) (l2 : Int32) (l3 : Int32) (h : zH) (r : Int32) (hf : f_X1_classOf N l0 l1 l2 l3 h = some r) : zR g jX1_classOf h0 0 [some (zr (some l0)), some (zr l1), some (zi l2), some (zi l3), none, none] [] h (some (zi r)) h := by
  unfold f_X1_classOf at hf
  refine zr_iconst (v := (0 : Int32)) dX1_classOf_0 (by decide) ?_
  refine zq_istore (x := (0 : Int32)) (L' := [some (zr (some l0)), some (zr l1), some (zi l2), some (zi l3), some (zi (0 : Int32)), none]) dX1_classOf_1 (by decide) rfl ?_
  exact s_X1_classOf_3 hg N N l0 l1 l2 l3 (0 : Int32) h r hf
theorem c_X1_classOf {g : zG} (hg : g.2.1.map (fun q => q.2) = zty) {N : Nat} {l0 : Nat} {l1 : Option Nat} {l2 : Int32} {l3 : Int32} {h : zH} {r : Int32} (hf : f_X1_classOf N l0 l1 l2 l3 h = some r) : zCa g jX1_classOf [zr (some l0), zr l1, zi l2, zi l3] h (some (zi r)) h :=
  zCa.of hg (by decide +kernel) (by decide) (s_X1_classOf hg N l0 l1 l2 l3 h r hf)
theorem dX2_init__0 : decode cX2_init_ 0 = .ok (.aload_n 0, 1) := by decide +kernel
theorem dX2_init__1 : decode cX2_init_ 1 = .ok (.invokespecial 9, 3) := by decide +kernel
theorem dX2_init__4 : decode cX2_init_ 4 = .ok (.aload_n 0, 1) := by decide +kernel
theorem dX2_init__5 : decode cX2_init_ 5 = .ok (.aload_n 1, 1) := by decide +kernel
theorem dX2_init__6 : decode cX2_init_ 6 = .ok (.putfield 14, 3) := by decide +kernel
theorem dX2_init__9 : decode cX2_init_ 9 = .ok (.aload_n 0, 1) := by decide +kernel
theorem dX2_init__10 : decode cX2_init_ 10 = .ok (.aload_n 2, 1) := by decide +kernel
theorem dX2_init__11 : decode cX2_init_ 11 = .ok (.putfield 18, 3) := by decide +kernel
theorem dX2_init__14 : decode cX2_init_ 14 = .ok (.aload_n 0, 1) := by decide +kernel
theorem dX2_init__15 : decode cX2_init_ 15 = .ok (.aload_n 3, 1) := by decide +kernel
theorem dX2_init__16 : decode cX2_init_ 16 = .ok (.putfield 21, 3) := by decide +kernel
theorem dX2_init__19 : decode cX2_init_ 19 = .ok (.return_, 1) := by decide +kernel
def f_X2_init_ (N : Nat) (l0 : Nat) (l1 : Option Nat) (l2 : Option Nat) (l3 : Option Nat) (h : zH) : Option zH := (zpu h 2 (some l0) 0 (zr l1)).bind fun h1 => (zpu h1 2 (some l0) 1 (zr l2)).bind fun h2 => (zpu h2 2 (some l0) 2 (zr l3)).bind fun h3 => some h3
set_option maxHeartbeats 4000000 in
set_option maxRecDepth 100000 in
theorem s_X2_init_ {g : zG} (hg : g.2.1.map (fun q => q.2) = zty) {h0 : zH} (N : Nat) (l0 : Nat) (l1 : Option Nat) (l2 : Option Nat) (l3 : Option Nat) (h : zH) (h' : zH) (hf : f_X2_init_ N l0 l1 l2 l3 h = some h') : zR g jX2_init_ h0 0 [some (zr (some l0)), some (zr l1), some (zr l2), some (zr l3)] [] h none h' := by
  unfold f_X2_init_ at hf
  refine zr_aload_n (v := .inl (some l0)) dX2_init__0 rfl rfl ?_
  refine zr_objInit kw_58 kw_1 kw_2 (by decide) dX2_init__1 ?_
  refine zr_aload_n (v := .inl (some l0)) dX2_init__4 rfl rfl ?_
  refine zr_aload_n (v := .inl l1) dX2_init__5 rfl rfl ?_
  obtain ⟨h1, e_h1, hf⟩ := zbd hf
  refine zq_put kp_29 dX2_init__6 (zn_a _ _) e_h1 ?_
  refine zr_aload_n (v := .inl (some l0)) dX2_init__9 rfl rfl ?_
  refine zr_aload_n (v := .inl l2) dX2_init__10 rfl rfl ?_
  obtain ⟨h2, e_h2, hf⟩ := zbd hf
  refine zq_put kp_30 dX2_init__11 (zn_a _ _) e_h2 ?_
  refine zr_aload_n (v := .inl (some l0)) dX2_init__14 rfl rfl ?_
  refine zr_aload_n (v := .inl l3) dX2_init__15 rfl rfl ?_
  obtain ⟨h3, e_h3, hf⟩ := zbd hf
  refine zq_put kp_31 dX2_init__16 (zn_a _ _) e_h3 ?_
  cases hf
  exact zr_ret none trivial dX2_init__19
theorem c_X2_init_ {g : zG} (hg : g.2.1.map (fun q => q.2) = zty) {N : Nat} {l0 : Nat} {l1 : Option Nat} {l2 : Option Nat} {l3 : Option Nat} {h : zH} {h' : zH} (hf : f_X2_init_ N l0 l1 l2 l3 h = some h') : zCa g jX2_init_ [zr (some l0), zr l1, zr l2, zr l3] h none h' :=
  zCa.of hg (by decide +kernel) (by decide) (s_X2_init_ hg N l0 l1 l2 l3 h h' hf)
theorem dX2_init_0 : decode cX2_init 0 = .ok (.aload_n 0, 1) := by decide +kernel
theorem dX2_init_1 : decode cX2_init 1 = .ok (.iconst 0, 1) := by decide +kernel
theorem dX2_init_2 : decode cX2_init 2 = .ok (.newarray .int, 2) := by decide +kernel
theorem dX2_init_4 : decode cX2_init 4 = .ok (.iconst 0, 1) := by decide +kernel
theorem dX2_init_5 : decode cX2_init 5 = .ok (.newarray .int, 2) := by decide +kernel
theorem dX2_init_7 : decode cX2_init 7 = .ok (.iconst 0, 1) := by decide +kernel
theorem dX2_init_8 : decode cX2_init 8 = .ok (.newarray .int, 2) := by decide +kernel
theorem dX2_init_10 : decode cX2_init 10 = .ok (.invokespecial 3, 3) := by decide +kernel
theorem dX2_init_13 : decode cX2_init 13 = .ok (.return_, 1) := by decide +kernel
def f_X2_init (N : Nat) (l0 : Nat) (h : zH) : Option zH := zna h 0 (0 : Int32) fun a1 h1 => zna h1 0 (0 : Int32) fun a2 h2 => zna h2 0 (0 : Int32) fun a3 h3 => (f_X2_init_ N l0 (some a1) (some a2) (some a3) h3).bind fun h4 => some h4
set_option maxHeartbeats 4000000 in
set_option maxRecDepth 100000 in
theorem s_X2_init {g : zG} (hg : g.2.1.map (fun q => q.2) = zty) {h0 : zH} (N : Nat) (l0 : Nat) (h : zH) (h' : zH) (hf : f_X2_init N l0 h = some h') : zR g jX2_init h0 0 [some (zr (some l0))] [] h none h' := by
  unfold f_X2_init at hf
  refine zr_aload_n (v := .inl (some l0)) dX2_init_0 rfl rfl ?_
  refine zr_iconst (v := (0 : Int32)) dX2_init_1 (by decide) ?_
  obtain ⟨a1, h1, e_a1, hf⟩ := zna_spec hf
  refine zq_newa (t := 0) kw_14 rfl (fun _ _ => rfl) (by decide) dX2_init_2 e_a1 ?_
  refine zr_iconst (v := (0 : Int32)) dX2_init_4 (by decide) ?_
  obtain ⟨a2, h2, e_a2, hf⟩ := zna_spec hf
  refine zq_newa (t := 0) kw_14 rfl (fun _ _ => rfl) (by decide) dX2_init_5 e_a2 ?_
  refine zr_iconst (v := (0 : Int32)) dX2_init_7 (by decide) ?_
  obtain ⟨a3, h3, e_a3, hf⟩ := zna_spec hf
  refine zq_newa (t := 0) kw_14 rfl (fun _ _ => rfl) (by decide) dX2_init_8 e_a3 ?_
  obtain ⟨h4, e_h4, hf⟩ := zbd hf
  refine zq_callI (J' := jX2_init_) (as := [zr (some a1), zr (some a2), zr (some a3)]) (rest := []) (r1 := none) (a := l0) kw_62 km_X2_init_ kt_33 dX2_init_10 rfl (by decide) rfl (c_X2_init_ hg e_h4) ?_
  cases hf
  exact zr_ret none trivial dX2_init_13
theorem c_X2_init {g : zG} (hg : g.2.1.map (fun q => q.2) = zty) {N : Nat} {l0 : Nat} {h : zH} {h' : zH} (hf : f_X2_init N l0 h = some h') : zCa g jX2_init [zr (some l0)] h none h' :=
  zCa.of hg (by decide +kernel) (by decide) (s_X2_init hg N l0 h h' hf)
theorem dX2_countLanes_0 : decode cX2_countLanes 0 = .ok (.aload_n 0, 1) := by decide +kernel
theorem dX2_countLanes_1 : decode cX2_countLanes 1 = .ok (.getfield 18, 3) := by decide +kernel
theorem dX2_countLanes_4 : decode cX2_countLanes 4 = .ok (.arraylength, 1) := by decide +kernel
theorem dX2_countLanes_5 : decode cX2_countLanes 5 = .ok (.ireturn, 1) := by decide +kernel
def f_X2_countLanes (N : Nat) (l0 : Nat) (h : zH) : Option Int32 := (zgR h 2 (some l0) 1).bind fun x1 => (zlen h x1).bind fun x2 => some x2
set_option maxHeartbeats 4000000 in
set_option maxRecDepth 100000 in
theorem s_X2_countLanes {g : zG} (hg : g.2.1.map (fun q => q.2) = zty) {h0 : zH} (N : Nat) (l0 : Nat) (h : zH) (r : Int32) (hf : f_X2_countLanes N l0 h = some r) : zR g jX2_countLanes h0 0 [some (zr (some l0))] [] h (some (zi r)) h := by
  unfold f_X2_countLanes at hf
  refine zr_aload_n (v := .inl (some l0)) dX2_countLanes_0 rfl rfl ?_
  obtain ⟨x1, e_x1, hf⟩ := zbd hf
  refine zq_getR kg_34 dX2_countLanes_1 e_x1 ?_
  obtain ⟨x2, e_x2, hf⟩ := zbd hf
  refine zq_alen dX2_countLanes_4 e_x2 ?_
  cases hf
  exact zr_ret (some (zi x2)) rfl dX2_countLanes_5
theorem c_X2_countLanes {g : zG} (hg : g.2.1.map (fun q => q.2) = zty) {N : Nat} {l0 : Nat} {h : zH} {r : Int32} (hf : f_X2_countLanes N l0 h = some r) : zCa g jX2_countLanes [zr (some l0)] h (some (zi r)) h :=
  zCa.of hg (by decide +kernel) (by decide) (s_X2_countLanes hg N l0 h r hf)
theorem dX2_countPlaces_0 : decode cX2_countPlaces 0 = .ok (.aload_n 0, 1) := by decide +kernel
theorem dX2_countPlaces_1 : decode cX2_countPlaces 1 = .ok (.getfield 21, 3) := by decide +kernel
theorem dX2_countPlaces_4 : decode cX2_countPlaces 4 = .ok (.arraylength, 1) := by decide +kernel
theorem dX2_countPlaces_5 : decode cX2_countPlaces 5 = .ok (.ireturn, 1) := by decide +kernel
def f_X2_countPlaces (N : Nat) (l0 : Nat) (h : zH) : Option Int32 := (zgR h 2 (some l0) 2).bind fun x1 => (zlen h x1).bind fun x2 => some x2
set_option maxHeartbeats 4000000 in
set_option maxRecDepth 100000 in
theorem s_X2_countPlaces {g : zG} (hg : g.2.1.map (fun q => q.2) = zty) {h0 : zH} (N : Nat) (l0 : Nat) (h : zH) (r : Int32) (hf : f_X2_countPlaces N l0 h = some r) : zR g jX2_countPlaces h0 0 [some (zr (some l0))] [] h (some (zi r)) h := by
  unfold f_X2_countPlaces at hf
  refine zr_aload_n (v := .inl (some l0)) dX2_countPlaces_0 rfl rfl ?_
  obtain ⟨x1, e_x1, hf⟩ := zbd hf
  refine zq_getR kg_35 dX2_countPlaces_1 e_x1 ?_
  obtain ⟨x2, e_x2, hf⟩ := zbd hf
  refine zq_alen dX2_countPlaces_4 e_x2 ?_
  cases hf
  exact zr_ret (some (zi x2)) rfl dX2_countPlaces_5
theorem c_X2_countPlaces {g : zG} (hg : g.2.1.map (fun q => q.2) = zty) {N : Nat} {l0 : Nat} {h : zH} {r : Int32} (hf : f_X2_countPlaces N l0 h = some r) : zCa g jX2_countPlaces [zr (some l0)] h (some (zi r)) h :=
  zCa.of hg (by decide +kernel) (by decide) (s_X2_countPlaces hg N l0 h r hf)
theorem dX2_canAdd_0 : decode cX2_canAdd 0 = .ok (.iload_n 1, 1) := by decide +kernel
theorem dX2_canAdd_1 : decode cX2_canAdd 1 = .ok (.iconst 1, 1) := by decide +kernel
theorem dX2_canAdd_2 : decode cX2_canAdd 2 = .ok (.if_icmp .lt 23, 3) := by decide +kernel
theorem dX2_canAdd_5 : decode cX2_canAdd 5 = .ok (.iload_n 1, 1) := by decide +kernel
theorem dX2_canAdd_6 : decode cX2_canAdd 6 = .ok (.iconst 4, 1) := by decide +kernel
theorem dX2_canAdd_7 : decode cX2_canAdd 7 = .ok (.if_icmp .gt 18, 3) := by decide +kernel
theorem dX2_canAdd_10 : decode cX2_canAdd 10 = .ok (.aload_n 0, 1) := by decide +kernel
theorem dX2_canAdd_11 : decode cX2_canAdd 11 = .ok (.invokevirtual 24, 3) := by decide +kernel
theorem dX2_canAdd_14 : decode cX2_canAdd 14 = .ok (.iload_n 1, 1) := by decide +kernel
theorem dX2_canAdd_15 : decode cX2_canAdd 15 = .ok (.iadd, 1) := by decide +kernel
theorem dX2_canAdd_16 : decode cX2_canAdd 16 = .ok (.bipush 8, 2) := by decide +kernel
theorem dX2_canAdd_18 : decode cX2_canAdd 18 = .ok (.if_icmp .gt 7, 3) := by decide +kernel
theorem dX2_canAdd_21 : decode cX2_canAdd 21 = .ok (.iconst 1, 1) := by decide +kernel
theorem dX2_canAdd_22 : decode cX2_canAdd 22 = .ok (.goto 4, 3) := by decide +kernel
theorem dX2_canAdd_25 : decode cX2_canAdd 25 = .ok (.iconst 0, 1) := by decide +kernel
theorem dX2_canAdd_26 : decode cX2_canAdd 26 = .ok (.ireturn, 1) := by decide +kernel
def f_X2_canAdd (N : Nat) (l0 : Nat) (l1 : Int32) (h : zH) : Option Int32 := if l1 < (1 : Int32) then some (0 : Int32) else if (4 : Int32) < l1 then some (0 : Int32) else (zck h 2 (some l0)).bind fun q1 => (f_X2_countLanes N q1 h).bind fun x1 => if (8 : Int32) < (x1 + l1) then some (0 : Int32) else some (1 : Int32)
set_option maxHeartbeats 4000000 in
set_option maxRecDepth 100000 in
theorem s_X2_canAdd {g : zG} (hg : g.2.1.map (fun q => q.2) = zty) {h0 : zH} (N : Nat) (l0 : Nat) (l1 : Int32) (h : zH) (r : Int32) (hf : f_X2_canAdd N l0 l1 h = some r) : zR g jX2_canAdd h0 0 [some (zr (some l0)), some (zi l1)] [] h (some (zi r)) h := by
  unfold f_X2_canAdd at hf
  refine zr_iload_n (x := l1) dX2_canAdd_0 rfl rfl ?_
  refine zr_iconst (v := (1 : Int32)) dX2_canAdd_1 (by decide) ?_
  by_cases hc1 : l1 < (1 : Int32)
  · rw [if_pos hc1] at hf
    refine zr_iclt_t (tgt := 25) dX2_canAdd_2 (by decide) hc1 ?_
    refine zr_iconst (v := (0 : Int32)) dX2_canAdd_25 (by decide) ?_
    cases hf
    exact zr_ret (some (zi (0 : Int32))) rfl dX2_canAdd_26
  · rw [if_neg hc1] at hf
    refine zr_iclt_f 25 dX2_canAdd_2 (by decide) hc1 ?_
    refine zr_iload_n (x := l1) dX2_canAdd_5 rfl rfl ?_
    refine zr_iconst (v := (4 : Int32)) dX2_canAdd_6 (by decide) ?_
    by_cases hc2 : (4 : Int32) < l1
    · rw [if_pos hc2] at hf
      refine zr_icgt_t (tgt := 25) dX2_canAdd_7 (by decide) hc2 ?_
      refine zr_iconst (v := (0 : Int32)) dX2_canAdd_25 (by decide) ?_
      cases hf
      exact zr_ret (some (zi (0 : Int32))) rfl dX2_canAdd_26
    · rw [if_neg hc2] at hf
      refine zr_icgt_f 25 dX2_canAdd_7 (by decide) hc2 ?_
      refine zr_aload_n (v := .inl (some l0)) dX2_canAdd_10 rfl rfl ?_
      obtain ⟨q1, e_q1, hf⟩ := zbd hf
      obtain ⟨x1, e_x1, hf⟩ := zbd hf
      refine zq_callV (J' := jX2_countLanes) (as := []) (rest := []) (r1 := (some (zi x1))) (q := (RX2, TX2, 3)) kw_66 km_X2_countLanes kt_37 dX2_canAdd_11 rfl (by decide) rfl rfl e_q1 rfl (c_X2_countLanes hg e_x1) ?_
      refine zr_iload_n (x := l1) dX2_canAdd_14 rfl rfl ?_
      refine zr_iadd dX2_canAdd_15 ?_
      refine zr_bipush (v := (8 : Int32)) dX2_canAdd_16 (by decide) ?_
      by_cases hc3 : (8 : Int32) < (x1 + l1)
      · rw [if_pos hc3] at hf
        refine zr_icgt_t (tgt := 25) dX2_canAdd_18 (by decide) hc3 ?_
        refine zr_iconst (v := (0 : Int32)) dX2_canAdd_25 (by decide) ?_
        cases hf
        exact zr_ret (some (zi (0 : Int32))) rfl dX2_canAdd_26
      · rw [if_neg hc3] at hf
        refine zr_icgt_f 25 dX2_canAdd_18 (by decide) hc3 ?_
        refine zr_iconst (v := (1 : Int32)) dX2_canAdd_21 (by decide) ?_
        refine zr_goto (tgt := 26) dX2_canAdd_22 (by decide) ?_
        cases hf
        exact zr_ret (some (zi (1 : Int32))) rfl dX2_canAdd_26
theorem c_X2_canAdd {g : zG} (hg : g.2.1.map (fun q => q.2) = zty) {N : Nat} {l0 : Nat} {l1 : Int32} {h : zH} {r : Int32} (hf : f_X2_canAdd N l0 l1 h = some r) : zCa g jX2_canAdd [zr (some l0), zi l1] h (some (zi r)) h :=
  zCa.of hg (by decide +kernel) (by decide) (s_X2_canAdd hg N l0 l1 h r hf)
theorem dJ7_fill_53178_0 : decode cJ7_fill_53178 0 = .ok (.iconst 0, 1) := by decide +kernel
theorem dJ7_fill_53178_1 : decode cJ7_fill_53178 1 = .ok (.istore_n 2, 1) := by decide +kernel
theorem dJ7_fill_53178_2 : decode cJ7_fill_53178 2 = .ok (.aload_n 0, 1) := by decide +kernel
theorem dJ7_fill_53178_3 : decode cJ7_fill_53178 3 = .ok (.arraylength, 1) := by decide +kernel
theorem dJ7_fill_53178_4 : decode cJ7_fill_53178 4 = .ok (.istore_n 3, 1) := by decide +kernel
theorem dJ7_fill_53178_5 : decode cJ7_fill_53178 5 = .ok (.iload_n 2, 1) := by decide +kernel
theorem dJ7_fill_53178_6 : decode cJ7_fill_53178 6 = .ok (.iload_n 3, 1) := by decide +kernel
theorem dJ7_fill_53178_7 : decode cJ7_fill_53178 7 = .ok (.if_icmp .ge 13, 3) := by decide +kernel
theorem dJ7_fill_53178_10 : decode cJ7_fill_53178 10 = .ok (.aload_n 0, 1) := by decide +kernel
theorem dJ7_fill_53178_11 : decode cJ7_fill_53178 11 = .ok (.iload_n 2, 1) := by decide +kernel
theorem dJ7_fill_53178_12 : decode cJ7_fill_53178 12 = .ok (.iload_n 1, 1) := by decide +kernel
theorem dJ7_fill_53178_13 : decode cJ7_fill_53178 13 = .ok (.iastore, 1) := by decide +kernel
theorem dJ7_fill_53178_14 : decode cJ7_fill_53178 14 = .ok (.iinc 2 1, 3) := by decide +kernel
theorem dJ7_fill_53178_17 : decode cJ7_fill_53178 17 = .ok (.goto (-12), 3) := by decide +kernel
theorem dJ7_fill_53178_20 : decode cJ7_fill_53178 20 = .ok (.return_, 1) := by decide +kernel
def f_J7_fill_53178_5 (N : Nat) : Nat → Option Nat → Int32 → Int32 → Int32 → zH → Option zH
  | 0, _, _, _, _, _ => none
  | n + 1, l0, l1, l2, l3, h => if l3 ≤ l2 then some h else (zst h 0 l0 l2 l1).bind fun h1 => f_J7_fill_53178_5 N n l0 l1 (l2 + (1 : Int32)) l3 h1
set_option maxHeartbeats 4000000 in
set_option maxRecDepth 100000 in
theorem s_J7_fill_53178_5 {g : zG} (hg : g.2.1.map (fun q => q.2) = zty) {h0 : zH} (N : Nat) : ∀ (n : Nat) (l0 : Option Nat) (l1 : Int32) (l2 : Int32) (l3 : Int32) (h : zH) (h' : zH), f_J7_fill_53178_5 N n l0 l1 l2 l3 h = some h' → zR g jJ7_fill_53178 h0 5 [some (zr l0), some (zi l1), some (zi l2), some (zi l3)] [] h none h' := by
  intro n
  induction n with
  | zero =>
    intro l0 l1 l2 l3 h h' hf
    cases hf
  | succ n ih =>
    intro l0 l1 l2 l3 h h' hf
    rw [f_J7_fill_53178_5] at hf
    refine zr_iload_n (x := l2) dJ7_fill_53178_5 rfl rfl ?_
    refine zr_iload_n (x := l3) dJ7_fill_53178_6 rfl rfl ?_
    by_cases hc1 : l3 ≤ l2
    · rw [if_pos hc1] at hf
      refine zr_icge_t (tgt := 20) dJ7_fill_53178_7 (by decide) hc1 ?_
      cases hf
      exact zr_ret none trivial dJ7_fill_53178_20
    · rw [if_neg hc1] at hf
      refine zr_icge_f 20 dJ7_fill_53178_7 (by decide) hc1 ?_
      refine zr_aload_n (v := .inl l0) dJ7_fill_53178_10 rfl rfl ?_
      refine zr_iload_n (x := l2) dJ7_fill_53178_11 rfl rfl ?_
      refine zr_iload_n (x := l1) dJ7_fill_53178_12 rfl rfl ?_
      obtain ⟨h1, e_h1, hf⟩ := zbd hf
      refine zq_iast dJ7_fill_53178_13 e_h1 ?_
      refine zq_iinc (x := l2) (y := (1 : Int32)) (L' := [some (zr l0), some (zi l1), some (zi (l2 + (1 : Int32))), some (zi l3)]) dJ7_fill_53178_14 rfl (by decide) (by decide) rfl ?_
      refine zr_goto (tgt := 5) dJ7_fill_53178_17 (by decide) ?_
      exact ih l0 l1 (l2 + (1 : Int32)) l3 h1 h' hf
def f_J7_fill_53178 (N : Nat) (l0 : Option Nat) (l1 : Int32) (h : zH) : Option zH := (zlen h l0).bind fun x1 => f_J7_fill_53178_5 N N l0 l1 (0 : Int32) x1 h
set_option maxHeartbeats 4000000 in
set_option maxRecDepth 100000 in
theorem s_J7_fill_53178 {g : zG} (hg : g.2.1.map (fun q => q.2) = zty) {h0 : zH} (N : Nat) (l0 : Option Nat) (l1 : Int32) (h : zH) (h' : zH) (hf : f_J7_fill_53178 N l0 l1 h = some h') : zR g jJ7_fill_53178 h0 0 [some (zr l0), some (zi l1), none, none] [] h none h' := by
  unfold f_J7_fill_53178 at hf
  refine zr_iconst (v := (0 : Int32)) dJ7_fill_53178_0 (by decide) ?_
  refine zq_istore_n (x := (0 : Int32)) (L' := [some (zr l0), some (zi l1), some (zi (0 : Int32)), none]) dJ7_fill_53178_1 rfl (by decide) rfl ?_
  refine zr_aload_n (v := .inl l0) dJ7_fill_53178_2 rfl rfl ?_
  obtain ⟨x1, e_x1, hf⟩ := zbd hf
  refine zq_alen dJ7_fill_53178_3 e_x1 ?_
  refine zq_istore_n (x := x1) (L' := [some (zr l0), some (zi l1), some (zi (0 : Int32)), some (zi x1)]) dJ7_fill_53178_4 rfl (by decide) rfl ?_
  exact s_J7_fill_53178_5 hg N N l0 l1 (0 : Int32) x1 h h' hf
theorem c_J7_fill_53178 {g : zG} (hg : g.2.1.map (fun q => q.2) = zty) {N : Nat} {l0 : Option Nat} {l1 : Int32} {h : zH} {h' : zH} (hf : f_J7_fill_53178 N l0 l1 h = some h') : zCa g jJ7_fill_53178 [zr l0, zi l1] h none h' :=
  zCa.of hg (by decide +kernel) (by decide) (s_J7_fill_53178 hg N l0 l1 h h' hf)
theorem dX2_withBay_0 : decode cX2_withBay 0 = .ok (.aload_n 0, 1) := by decide +kernel
theorem dX2_withBay_1 : decode cX2_withBay 1 = .ok (.iload_n 1, 1) := by decide +kernel
theorem dX2_withBay_2 : decode cX2_withBay 2 = .ok (.invokevirtual 28, 3) := by decide +kernel
theorem dX2_withBay_5 : decode cX2_withBay 5 = .ok (.ifCond .ne 5, 3) := by decide +kernel
theorem dX2_withBay_8 : decode cX2_withBay 8 = .ok (.aload_n 0, 1) := by decide +kernel
theorem dX2_withBay_9 : decode cX2_withBay 9 = .ok (.areturn, 1) := by decide +kernel
theorem dX2_withBay_10 : decode cX2_withBay 10 = .ok (.aload_n 0, 1) := by decide +kernel
theorem dX2_withBay_11 : decode cX2_withBay 11 = .ok (.invokevirtual 24, 3) := by decide +kernel
theorem dX2_withBay_14 : decode cX2_withBay 14 = .ok (.istore_n 2, 1) := by decide +kernel
theorem dX2_withBay_15 : decode cX2_withBay 15 = .ok (.iload_n 2, 1) := by decide +kernel
theorem dX2_withBay_16 : decode cX2_withBay 16 = .ok (.ifCond .ne 7, 3) := by decide +kernel
theorem dX2_withBay_19 : decode cX2_withBay 19 = .ok (.iconst 0, 1) := by decide +kernel
theorem dX2_withBay_20 : decode cX2_withBay 20 = .ok (.goto 13, 3) := by decide +kernel
theorem dX2_withBay_23 : decode cX2_withBay 23 = .ok (.aload_n 0, 1) := by decide +kernel
theorem dX2_withBay_24 : decode cX2_withBay 24 = .ok (.getfield 14, 3) := by decide +kernel
theorem dX2_withBay_27 : decode cX2_withBay 27 = .ok (.iload_n 2, 1) := by decide +kernel
theorem dX2_withBay_28 : decode cX2_withBay 28 = .ok (.iconst 1, 1) := by decide +kernel
theorem dX2_withBay_29 : decode cX2_withBay 29 = .ok (.isub, 1) := by decide +kernel
theorem dX2_withBay_30 : decode cX2_withBay 30 = .ok (.iaload, 1) := by decide +kernel
theorem dX2_withBay_31 : decode cX2_withBay 31 = .ok (.iconst 1, 1) := by decide +kernel
theorem dX2_withBay_32 : decode cX2_withBay 32 = .ok (.iadd, 1) := by decide +kernel
theorem dX2_withBay_33 : decode cX2_withBay 33 = .ok (.istore_n 3, 1) := by decide +kernel
theorem dX2_withBay_34 : decode cX2_withBay 34 = .ok (.aload_n 0, 1) := by decide +kernel
theorem dX2_withBay_35 : decode cX2_withBay 35 = .ok (.getfield 14, 3) := by decide +kernel
theorem dX2_withBay_38 : decode cX2_withBay 38 = .ok (.iload_n 2, 1) := by decide +kernel
theorem dX2_withBay_39 : decode cX2_withBay 39 = .ok (.iload_n 1, 1) := by decide +kernel
theorem dX2_withBay_40 : decode cX2_withBay 40 = .ok (.iadd, 1) := by decide +kernel
theorem dX2_withBay_41 : decode cX2_withBay 41 = .ok (.invokestatic 32, 3) := by decide +kernel
theorem dX2_withBay_44 : decode cX2_withBay 44 = .ok (.astore 4, 2) := by decide +kernel
theorem dX2_withBay_46 : decode cX2_withBay 46 = .ok (.aload_n 0, 1) := by decide +kernel
theorem dX2_withBay_47 : decode cX2_withBay 47 = .ok (.getfield 18, 3) := by decide +kernel
theorem dX2_withBay_50 : decode cX2_withBay 50 = .ok (.iload_n 2, 1) := by decide +kernel
theorem dX2_withBay_51 : decode cX2_withBay 51 = .ok (.iload_n 1, 1) := by decide +kernel
theorem dX2_withBay_52 : decode cX2_withBay 52 = .ok (.iadd, 1) := by decide +kernel
theorem dX2_withBay_53 : decode cX2_withBay 53 = .ok (.invokestatic 32, 3) := by decide +kernel
theorem dX2_withBay_56 : decode cX2_withBay 56 = .ok (.astore 5, 2) := by decide +kernel
theorem dX2_withBay_58 : decode cX2_withBay 58 = .ok (.iload_n 2, 1) := by decide +kernel
theorem dX2_withBay_59 : decode cX2_withBay 59 = .ok (.istore 6, 2) := by decide +kernel
theorem dX2_withBay_61 : decode cX2_withBay 61 = .ok (.iload 6, 2) := by decide +kernel
theorem dX2_withBay_63 : decode cX2_withBay 63 = .ok (.iload_n 2, 1) := by decide +kernel
theorem dX2_withBay_64 : decode cX2_withBay 64 = .ok (.iload_n 1, 1) := by decide +kernel
theorem dX2_withBay_65 : decode cX2_withBay 65 = .ok (.iadd, 1) := by decide +kernel
theorem dX2_withBay_66 : decode cX2_withBay 66 = .ok (.if_icmp .ge 21, 3) := by decide +kernel
theorem dX2_withBay_69 : decode cX2_withBay 69 = .ok (.aload 4, 2) := by decide +kernel
theorem dX2_withBay_71 : decode cX2_withBay 71 = .ok (.iload 6, 2) := by decide +kernel
theorem dX2_withBay_73 : decode cX2_withBay 73 = .ok (.iload_n 3, 1) := by decide +kernel
theorem dX2_withBay_74 : decode cX2_withBay 74 = .ok (.iastore, 1) := by decide +kernel
theorem dX2_withBay_75 : decode cX2_withBay 75 = .ok (.aload 5, 2) := by decide +kernel
theorem dX2_withBay_77 : decode cX2_withBay 77 = .ok (.iload 6, 2) := by decide +kernel
theorem dX2_withBay_79 : decode cX2_withBay 79 = .ok (.iconst 0, 1) := by decide +kernel
theorem dX2_withBay_80 : decode cX2_withBay 80 = .ok (.iastore, 1) := by decide +kernel
theorem dX2_withBay_81 : decode cX2_withBay 81 = .ok (.iinc 6 1, 3) := by decide +kernel
theorem dX2_withBay_84 : decode cX2_withBay 84 = .ok (.goto (-23), 3) := by decide +kernel
theorem dX2_withBay_87 : decode cX2_withBay 87 = .ok (.iload_n 2, 1) := by decide +kernel
theorem dX2_withBay_88 : decode cX2_withBay 88 = .ok (.iload_n 1, 1) := by decide +kernel
theorem dX2_withBay_89 : decode cX2_withBay 89 = .ok (.iadd, 1) := by decide +kernel
theorem dX2_withBay_90 : decode cX2_withBay 90 = .ok (.iconst 2, 1) := by decide +kernel
theorem dX2_withBay_91 : decode cX2_withBay 91 = .ok (.imul, 1) := by decide +kernel
theorem dX2_withBay_92 : decode cX2_withBay 92 = .ok (.newarray .int, 2) := by decide +kernel
theorem dX2_withBay_94 : decode cX2_withBay 94 = .ok (.astore 6, 2) := by decide +kernel
theorem dX2_withBay_96 : decode cX2_withBay 96 = .ok (.aload 6, 2) := by decide +kernel
theorem dX2_withBay_98 : decode cX2_withBay 98 = .ok (.iconst (-1), 1) := by decide +kernel
theorem dX2_withBay_99 : decode cX2_withBay 99 = .ok (.invokestatic 38, 3) := by decide +kernel
theorem dX2_withBay_102 : decode cX2_withBay 102 = .ok (.new 4, 3) := by decide +kernel
theorem dX2_withBay_105 : decode cX2_withBay 105 = .ok (.dup, 1) := by decide +kernel
theorem dX2_withBay_106 : decode cX2_withBay 106 = .ok (.aload 4, 2) := by decide +kernel
theorem dX2_withBay_108 : decode cX2_withBay 108 = .ok (.aload 5, 2) := by decide +kernel
theorem dX2_withBay_110 : decode cX2_withBay 110 = .ok (.aload 6, 2) := by decide +kernel
theorem dX2_withBay_112 : decode cX2_withBay 112 = .ok (.invokespecial 3, 3) := by decide +kernel
theorem dX2_withBay_115 : decode cX2_withBay 115 = .ok (.areturn, 1) := by decide +kernel
def f_X2_withBay_61 (N : Nat) : Nat → Int32 → Int32 → Int32 → Option Nat → Option Nat → Int32 → zH → Option ((Option Nat) × zH)
  | 0, _, _, _, _, _, _, _ => none
  | n + 1, l1, l2, l3, l4, l5, l6, h => if (l2 + l1) ≤ l6 then zna h 0 ((l2 + l1) * (2 : Int32)) fun a1 h1 => (f_J7_fill_53178 N (some a1) ((-1) : Int32) h1).bind fun h2 => znw h2 (.inr (2, [zr none, zr none, zr none])) fun a2 h3 => (f_X2_init_ N a2 l4 l5 (some a1) h3).bind fun h4 => some ((some a2), h4) else (zst h 0 l4 l6 l3).bind fun h5 => (zst h5 0 l5 l6 (0 : Int32)).bind fun h6 => f_X2_withBay_61 N n l1 l2 l3 l4 l5 (l6 + (1 : Int32)) h6
set_option maxHeartbeats 4000000 in
set_option maxRecDepth 100000 in
theorem s_X2_withBay_61 {g : zG} (hg : g.2.1.map (fun q => q.2) = zty) {h0 : zH} (N : Nat) : ∀ (n : Nat) (l1 : Int32) (l2 : Int32) (l3 : Int32) (l4 : Option Nat) (l5 : Option Nat) (l6 : Int32) (h : zH) (r : Option Nat) (h' : zH), f_X2_withBay_61 N n l1 l2 l3 l4 l5 l6 h = some (r, h') → zR g jX2_withBay h0 61 [none, some (zi l1), some (zi l2), some (zi l3), some (zr l4), some (zr l5), some (zi l6)] [] h (some (zr r)) h' := by
  intro n
  induction n with
  | zero =>
    intro l1 l2 l3 l4 l5 l6 h r h' hf
    cases hf
  | succ n ih =>
    intro l1 l2 l3 l4 l5 l6 h r h' hf
    rw [f_X2_withBay_61] at hf
    refine zr_iload (x := l6) dX2_withBay_61 rfl ?_
    refine zr_iload_n (x := l2) dX2_withBay_63 rfl rfl ?_
    refine zr_iload_n (x := l1) dX2_withBay_64 rfl rfl ?_
    refine zr_iadd dX2_withBay_65 ?_
    by_cases hc1 : (l2 + l1) ≤ l6
    · rw [if_pos hc1] at hf
      refine zr_icge_t (tgt := 87) dX2_withBay_66 (by decide) hc1 ?_
      refine zr_iload_n (x := l2) dX2_withBay_87 rfl rfl ?_
      refine zr_iload_n (x := l1) dX2_withBay_88 rfl rfl ?_
      refine zr_iadd dX2_withBay_89 ?_
      refine zr_iconst (v := (2 : Int32)) dX2_withBay_90 (by decide) ?_
      refine zr_imul dX2_withBay_91 ?_
      obtain ⟨a1, h1, e_a1, hf⟩ := zna_spec hf
      refine zq_newa (t := 0) kw_14 rfl (fun _ _ => rfl) (by decide) dX2_withBay_92 e_a1 ?_
      refine zq_astore (v := .inl (some a1)) (L' := [none, some (zi l1), some (zi l2), some (zi l3), some (zr l4), some (zr l5), some (zr (some a1))]) dX2_withBay_94 (by decide) rfl ?_
      refine zr_aload (v := .inl (some a1)) dX2_withBay_96 rfl ?_
      refine zr_iconst (v := ((-1) : Int32)) dX2_withBay_98 (by decide) ?_
      obtain ⟨h2, e_h2, hf⟩ := zbd hf
      refine zq_callS (J' := jJ7_fill_53178) (as := [zr (some a1), zi ((-1) : Int32)]) (rest := []) (r1 := none) kw_70 km_J7_fill_53178 kt_39 dX2_withBay_99 rfl (by decide) rfl (c_J7_fill_53178 hg e_h2) ?_
      obtain ⟨a2, h3, e_a2, e_h3, hf⟩ := znw_spec hf
      refine zq_new kn_40 dX2_withBay_102 e_a2 e_h3 ?_
      refine zr_dup dX2_withBay_105 ?_
      refine zr_aload (v := .inl l4) dX2_withBay_106 rfl ?_
      refine zr_aload (v := .inl l5) dX2_withBay_108 rfl ?_
      refine zr_aload (v := .inl (some a1)) dX2_withBay_110 rfl ?_
      obtain ⟨h4, e_h4, hf⟩ := zbd hf
      refine zq_callI (J' := jX2_init_) (as := [zr l4, zr l5, zr (some a1)]) (rest := [zr (some a2)]) (r1 := none) (a := a2) kw_62 km_X2_init_ kt_41 dX2_withBay_112 rfl (by decide) rfl (c_X2_init_ hg e_h4) ?_
      cases hf
      exact zr_ret (some (zr (some a2))) (Or.inl ⟨_, rfl⟩) dX2_withBay_115
    · rw [if_neg hc1] at hf
      refine zr_icge_f 87 dX2_withBay_66 (by decide) hc1 ?_
      refine zr_aload (v := .inl l4) dX2_withBay_69 rfl ?_
      refine zr_iload (x := l6) dX2_withBay_71 rfl ?_
      refine zr_iload_n (x := l3) dX2_withBay_73 rfl rfl ?_
      obtain ⟨h5, e_h5, hf⟩ := zbd hf
      refine zq_iast dX2_withBay_74 e_h5 ?_
      refine zr_aload (v := .inl l5) dX2_withBay_75 rfl ?_
      refine zr_iload (x := l6) dX2_withBay_77 rfl ?_
      refine zr_iconst (v := (0 : Int32)) dX2_withBay_79 (by decide) ?_
      obtain ⟨h6, e_h6, hf⟩ := zbd hf
      refine zq_iast dX2_withBay_80 e_h6 ?_
      refine zq_iinc (x := l6) (y := (1 : Int32)) (L' := [none, some (zi l1), some (zi l2), some (zi l3), some (zr l4), some (zr l5), some (zi (l6 + (1 : Int32)))]) dX2_withBay_81 rfl (by decide) (by decide) rfl ?_
      refine zr_goto (tgt := 61) dX2_withBay_84 (by decide) ?_
      exact ih l1 l2 l3 l4 l5 (l6 + (1 : Int32)) h6 r h' hf
def f_X2_withBay_33 (N : Nat) (l0 : Nat) (l1 : Int32) (l2 : Int32) (s0 : Int32) (h : zH) : Option ((Option Nat) × zH) := (zgR h 2 (some l0) 0).bind fun x1 => (f_J7_copyOf_59c91 N x1 (l2 + l1) h).bind fun (x2, h1) => (zgR h1 2 (some l0) 1).bind fun x3 => (f_J7_copyOf_59c91 N x3 (l2 + l1) h1).bind fun (x4, h2) => f_X2_withBay_61 N N l1 l2 s0 x2 x4 l2 h2
set_option maxHeartbeats 4000000 in
set_option maxRecDepth 100000 in
theorem s_X2_withBay_33 {g : zG} (hg : g.2.1.map (fun q => q.2) = zty) {h0 : zH} (N : Nat) (l0 : Nat) (l1 : Int32) (l2 : Int32) (s0 : Int32) (h : zH) (r : Option Nat) (h' : zH) (hf : f_X2_withBay_33 N l0 l1 l2 s0 h = some (r, h')) : zR g jX2_withBay h0 33 [some (zr (some l0)), some (zi l1), some (zi l2), none, none, none, none] [zi s0] h (some (zr r)) h' := by
  unfold f_X2_withBay_33 at hf
  refine zq_istore_n (x := s0) (L' := [some (zr (some l0)), some (zi l1), some (zi l2), some (zi s0), none, none, none]) dX2_withBay_33 rfl (by decide) rfl ?_
  refine zr_aload_n (v := .inl (some l0)) dX2_withBay_34 rfl rfl ?_
  obtain ⟨x1, e_x1, hf⟩ := zbd hf
  refine zq_getR kg_42 dX2_withBay_35 e_x1 ?_
  refine zr_iload_n (x := l2) dX2_withBay_38 rfl rfl ?_
  refine zr_iload_n (x := l1) dX2_withBay_39 rfl rfl ?_
  refine zr_iadd dX2_withBay_40 ?_
  obtain ⟨⟨x2, h1⟩, e_x2, hf⟩ := zbd hf
  refine zq_callS (J' := jJ7_copyOf_59c91) (as := [zr x1, zi (l2 + l1)]) (rest := []) (r1 := (some (zr x2))) kw_75 km_J7_copyOf_59c91 kt_43 dX2_withBay_41 rfl (by decide) rfl (c_J7_copyOf_59c91 hg e_x2) ?_
  refine zq_astore (v := .inl x2) (L' := [some (zr (some l0)), some (zi l1), some (zi l2), some (zi s0), some (zr x2), none, none]) dX2_withBay_44 (by decide) rfl ?_
  refine zr_aload_n (v := .inl (some l0)) dX2_withBay_46 rfl rfl ?_
  obtain ⟨x3, e_x3, hf⟩ := zbd hf
  refine zq_getR kg_34 dX2_withBay_47 e_x3 ?_
  refine zr_iload_n (x := l2) dX2_withBay_50 rfl rfl ?_
  refine zr_iload_n (x := l1) dX2_withBay_51 rfl rfl ?_
  refine zr_iadd dX2_withBay_52 ?_
  obtain ⟨⟨x4, h2⟩, e_x4, hf⟩ := zbd hf
  refine zq_callS (J' := jJ7_copyOf_59c91) (as := [zr x3, zi (l2 + l1)]) (rest := []) (r1 := (some (zr x4))) kw_75 km_J7_copyOf_59c91 kt_43 dX2_withBay_53 rfl (by decide) rfl (c_J7_copyOf_59c91 hg e_x4) ?_
  refine zq_astore (v := .inl x4) (L' := [some (zr (some l0)), some (zi l1), some (zi l2), some (zi s0), some (zr x2), some (zr x4), none]) dX2_withBay_56 (by decide) rfl ?_
  refine zr_iload_n (x := l2) dX2_withBay_58 rfl rfl ?_
  refine zq_istore (x := l2) (L' := [some (zr (some l0)), some (zi l1), some (zi l2), some (zi s0), some (zr x2), some (zr x4), some (zi l2)]) dX2_withBay_59 (by decide) rfl ?_
  refine zr_forget 0 (L' := [none, some (zi l1), some (zi l2), some (zi s0), some (zr x2), some (zr x4), some (zi l2)]) rfl ?_
  exact s_X2_withBay_61 hg N N l1 l2 s0 x2 x4 l2 h2 r h' hf
def f_X2_withBay (N : Nat) (l0 : Nat) (l1 : Int32) (h : zH) : Option ((Option Nat) × zH) := (zck h 2 (some l0)).bind fun q1 => (f_X2_canAdd N q1 l1 h).bind fun x1 => if x1 = 0 then some ((some l0), h) else (zck h 2 (some l0)).bind fun q2 => (f_X2_countLanes N q2 h).bind fun x2 => if x2 = 0 then f_X2_withBay_33 N l0 l1 x2 (0 : Int32) h else (zgR h 2 (some l0) 0).bind fun x3 => (zld h 0 x3 (x2 - (1 : Int32))).bind fun x4 => f_X2_withBay_33 N l0 l1 x2 (x4 + (1 : Int32)) h
set_option maxHeartbeats 4000000 in
set_option maxRecDepth 100000 in
theorem s_X2_withBay {g : zG} (hg : g.2.1.map (fun q => q.2) = zty) {h0 : zH} (N : Nat) (l0 : Nat) (l1 : Int32) (h : zH) (r : Option Nat) (h' : zH) (hf : f_X2_withBay N l0 l1 h = some (r, h')) : zR g jX2_withBay h0 0 [some (zr (some l0)), some (zi l1), none, none, none, none, none] [] h (some (zr r)) h' := by
  unfold f_X2_withBay at hf
  refine zr_aload_n (v := .inl (some l0)) dX2_withBay_0 rfl rfl ?_
  refine zr_iload_n (x := l1) dX2_withBay_1 rfl rfl ?_
  obtain ⟨q1, e_q1, hf⟩ := zbd hf
  obtain ⟨x1, e_x1, hf⟩ := zbd hf
  refine zq_callV (J' := jX2_canAdd) (as := [zi l1]) (rest := []) (r1 := (some (zi x1))) (q := (RX2, TX2, 3)) kw_76 km_X2_canAdd kt_45 dX2_withBay_2 rfl (by decide) rfl rfl e_q1 rfl (c_X2_canAdd hg e_x1) ?_
  by_cases hc1 : x1 = 0
  · rw [if_pos hc1] at hf
    refine zr_ifne_f 10 dX2_withBay_5 (by decide) hc1 ?_
    refine zr_aload_n (v := .inl (some l0)) dX2_withBay_8 rfl rfl ?_
    cases hf
    exact zr_ret (some (zr (some l0))) (Or.inl ⟨_, rfl⟩) dX2_withBay_9
  · rw [if_neg hc1] at hf
    refine zr_ifne_t (tgt := 10) dX2_withBay_5 (by decide) hc1 ?_
    refine zr_aload_n (v := .inl (some l0)) dX2_withBay_10 rfl rfl ?_
    obtain ⟨q2, e_q2, hf⟩ := zbd hf
    obtain ⟨x2, e_x2, hf⟩ := zbd hf
    refine zq_callV (J' := jX2_countLanes) (as := []) (rest := []) (r1 := (some (zi x2))) (q := (RX2, TX2, 3)) kw_66 km_X2_countLanes kt_46 dX2_withBay_11 rfl (by decide) rfl rfl e_q2 rfl (c_X2_countLanes hg e_x2) ?_
    refine zq_istore_n (x := x2) (L' := [some (zr (some l0)), some (zi l1), some (zi x2), none, none, none, none]) dX2_withBay_14 rfl (by decide) rfl ?_
    refine zr_iload_n (x := x2) dX2_withBay_15 rfl rfl ?_
    by_cases hc2 : x2 = 0
    · rw [if_pos hc2] at hf
      refine zr_ifne_f 23 dX2_withBay_16 (by decide) hc2 ?_
      refine zr_iconst (v := (0 : Int32)) dX2_withBay_19 (by decide) ?_
      refine zr_goto (tgt := 33) dX2_withBay_20 (by decide) ?_
      exact s_X2_withBay_33 hg N l0 l1 x2 (0 : Int32) h r h' hf
    · rw [if_neg hc2] at hf
      refine zr_ifne_t (tgt := 23) dX2_withBay_16 (by decide) hc2 ?_
      refine zr_aload_n (v := .inl (some l0)) dX2_withBay_23 rfl rfl ?_
      obtain ⟨x3, e_x3, hf⟩ := zbd hf
      refine zq_getR kg_42 dX2_withBay_24 e_x3 ?_
      refine zr_iload_n (x := x2) dX2_withBay_27 rfl rfl ?_
      refine zr_iconst (v := (1 : Int32)) dX2_withBay_28 (by decide) ?_
      refine zr_isub dX2_withBay_29 ?_
      obtain ⟨x4, e_x4, hf⟩ := zbd hf
      refine zq_iald dX2_withBay_30 e_x4 ?_
      refine zr_iconst (v := (1 : Int32)) dX2_withBay_31 (by decide) ?_
      refine zr_iadd dX2_withBay_32 ?_
      exact s_X2_withBay_33 hg N l0 l1 x2 (x4 + (1 : Int32)) h r h' hf
theorem c_X2_withBay {g : zG} (hg : g.2.1.map (fun q => q.2) = zty) {N : Nat} {l0 : Nat} {l1 : Int32} {h : zH} {r : Option Nat} {h' : zH} (hf : f_X2_withBay N l0 l1 h = some (r, h')) : zCa g jX2_withBay [zr (some l0), zi l1] h (some (zr r)) h' :=
  zCa.of hg (by decide +kernel) (by decide) (s_X2_withBay hg N l0 l1 h r h' hf)
theorem dX2_withSeats_0 : decode cX2_withSeats 0 = .ok (.new 4, 3) := by decide +kernel
theorem dX2_withSeats_3 : decode cX2_withSeats 3 = .ok (.dup, 1) := by decide +kernel
theorem dX2_withSeats_4 : decode cX2_withSeats 4 = .ok (.aload_n 0, 1) := by decide +kernel
theorem dX2_withSeats_5 : decode cX2_withSeats 5 = .ok (.getfield 14, 3) := by decide +kernel
theorem dX2_withSeats_8 : decode cX2_withSeats 8 = .ok (.aload_n 0, 1) := by decide +kernel
theorem dX2_withSeats_9 : decode cX2_withSeats 9 = .ok (.getfield 18, 3) := by decide +kernel
theorem dX2_withSeats_12 : decode cX2_withSeats 12 = .ok (.aload_n 1, 1) := by decide +kernel
theorem dX2_withSeats_13 : decode cX2_withSeats 13 = .ok (.invokespecial 3, 3) := by decide +kernel
theorem dX2_withSeats_16 : decode cX2_withSeats 16 = .ok (.areturn, 1) := by decide +kernel
def f_X2_withSeats (N : Nat) (l0 : Nat) (l1 : Option Nat) (h : zH) : Option ((Option Nat) × zH) := znw h (.inr (2, [zr none, zr none, zr none])) fun a1 h1 => (zgR h1 2 (some l0) 0).bind fun x1 => (zgR h1 2 (some l0) 1).bind fun x2 => (f_X2_init_ N a1 x1 x2 l1 h1).bind fun h2 => some ((some a1), h2)
set_option maxHeartbeats 4000000 in
set_option maxRecDepth 100000 in
theorem s_X2_withSeats {g : zG} (hg : g.2.1.map (fun q => q.2) = zty) {h0 : zH} (N : Nat) (l0 : Nat) (l1 : Option Nat) (h : zH) (r : Option Nat) (h' : zH) (hf : f_X2_withSeats N l0 l1 h = some (r, h')) : zR g jX2_withSeats h0 0 [some (zr (some l0)), some (zr l1)] [] h (some (zr r)) h' := by
  unfold f_X2_withSeats at hf
  obtain ⟨a1, h1, e_a1, e_h1, hf⟩ := znw_spec hf
  refine zq_new kn_40 dX2_withSeats_0 e_a1 e_h1 ?_
  refine zr_dup dX2_withSeats_3 ?_
  refine zr_aload_n (v := .inl (some l0)) dX2_withSeats_4 rfl rfl ?_
  obtain ⟨x1, e_x1, hf⟩ := zbd hf
  refine zq_getR kg_42 dX2_withSeats_5 e_x1 ?_
  refine zr_aload_n (v := .inl (some l0)) dX2_withSeats_8 rfl rfl ?_
  obtain ⟨x2, e_x2, hf⟩ := zbd hf
  refine zq_getR kg_34 dX2_withSeats_9 e_x2 ?_
  refine zr_aload_n (v := .inl l1) dX2_withSeats_12 rfl rfl ?_
  obtain ⟨h2, e_h2, hf⟩ := zbd hf
  refine zq_callI (J' := jX2_init_) (as := [zr x1, zr x2, zr l1]) (rest := [zr (some a1)]) (r1 := none) (a := a1) kw_62 km_X2_init_ kt_47 dX2_withSeats_13 rfl (by decide) rfl (c_X2_init_ hg e_h2) ?_
  cases hf
  exact zr_ret (some (zr (some a1))) (Or.inl ⟨_, rfl⟩) dX2_withSeats_16
theorem c_X2_withSeats {g : zG} (hg : g.2.1.map (fun q => q.2) = zty) {N : Nat} {l0 : Nat} {l1 : Option Nat} {h : zH} {r : Option Nat} {h' : zH} (hf : f_X2_withSeats N l0 l1 h = some (r, h')) : zCa g jX2_withSeats [zr (some l0), zr l1] h (some (zr r)) h' :=
  zCa.of hg (by decide +kernel) (by decide) (s_X2_withSeats hg N l0 l1 h r h' hf)
theorem dX2_placeOf_0 : decode cX2_placeOf 0 = .ok (.iconst 0, 1) := by decide +kernel
theorem dX2_placeOf_1 : decode cX2_placeOf 1 = .ok (.istore_n 2, 1) := by decide +kernel
theorem dX2_placeOf_2 : decode cX2_placeOf 2 = .ok (.iload_n 2, 1) := by decide +kernel
theorem dX2_placeOf_3 : decode cX2_placeOf 3 = .ok (.aload_n 0, 1) := by decide +kernel
theorem dX2_placeOf_4 : decode cX2_placeOf 4 = .ok (.getfield 21, 3) := by decide +kernel
theorem dX2_placeOf_7 : decode cX2_placeOf 7 = .ok (.arraylength, 1) := by decide +kernel
theorem dX2_placeOf_8 : decode cX2_placeOf 8 = .ok (.if_icmp .ge 21, 3) := by decide +kernel
theorem dX2_placeOf_11 : decode cX2_placeOf 11 = .ok (.aload_n 0, 1) := by decide +kernel
theorem dX2_placeOf_12 : decode cX2_placeOf 12 = .ok (.getfield 21, 3) := by decide +kernel
theorem dX2_placeOf_15 : decode cX2_placeOf 15 = .ok (.iload_n 2, 1) := by decide +kernel
theorem dX2_placeOf_16 : decode cX2_placeOf 16 = .ok (.iaload, 1) := by decide +kernel
theorem dX2_placeOf_17 : decode cX2_placeOf 17 = .ok (.iload_n 1, 1) := by decide +kernel
theorem dX2_placeOf_18 : decode cX2_placeOf 18 = .ok (.if_icmp .ne 5, 3) := by decide +kernel
theorem dX2_placeOf_21 : decode cX2_placeOf 21 = .ok (.iload_n 2, 1) := by decide +kernel
theorem dX2_placeOf_22 : decode cX2_placeOf 22 = .ok (.ireturn, 1) := by decide +kernel
theorem dX2_placeOf_23 : decode cX2_placeOf 23 = .ok (.iinc 2 1, 3) := by decide +kernel
theorem dX2_placeOf_26 : decode cX2_placeOf 26 = .ok (.goto (-24), 3) := by decide +kernel
theorem dX2_placeOf_29 : decode cX2_placeOf 29 = .ok (.iconst (-1), 1) := by decide +kernel
theorem dX2_placeOf_30 : decode cX2_placeOf 30 = .ok (.ireturn, 1) := by decide +kernel
def f_X2_placeOf_2 (N : Nat) : Nat → Nat → Int32 → Int32 → zH → Option Int32
  | 0, _, _, _, _ => none
  | n + 1, l0, l1, l2, h => (zgR h 2 (some l0) 2).bind fun x1 => (zlen h x1).bind fun x2 => if x2 ≤ l2 then some ((-1) : Int32) else (zgR h 2 (some l0) 2).bind fun x3 => (zld h 0 x3 l2).bind fun x4 => if x4 = l1 then some l2 else f_X2_placeOf_2 N n l0 l1 (l2 + (1 : Int32)) h
set_option maxHeartbeats 4000000 in
set_option maxRecDepth 100000 in
theorem s_X2_placeOf_2 {g : zG} (hg : g.2.1.map (fun q => q.2) = zty) {h0 : zH} (N : Nat) : ∀ (n : Nat) (l0 : Nat) (l1 : Int32) (l2 : Int32) (h : zH) (r : Int32), f_X2_placeOf_2 N n l0 l1 l2 h = some r → zR g jX2_placeOf h0 2 [some (zr (some l0)), some (zi l1), some (zi l2)] [] h (some (zi r)) h := by
  intro n
  induction n with
  | zero =>
    intro l0 l1 l2 h r hf
    cases hf
  | succ n ih =>
    intro l0 l1 l2 h r hf
    rw [f_X2_placeOf_2] at hf
    refine zr_iload_n (x := l2) dX2_placeOf_2 rfl rfl ?_
    refine zr_aload_n (v := .inl (some l0)) dX2_placeOf_3 rfl rfl ?_
    obtain ⟨x1, e_x1, hf⟩ := zbd hf
    refine zq_getR kg_35 dX2_placeOf_4 e_x1 ?_
    obtain ⟨x2, e_x2, hf⟩ := zbd hf
    refine zq_alen dX2_placeOf_7 e_x2 ?_
    by_cases hc1 : x2 ≤ l2
    · rw [if_pos hc1] at hf
      refine zr_icge_t (tgt := 29) dX2_placeOf_8 (by decide) hc1 ?_
      refine zr_iconst (v := ((-1) : Int32)) dX2_placeOf_29 (by decide) ?_
      cases hf
      exact zr_ret (some (zi ((-1) : Int32))) rfl dX2_placeOf_30
    · rw [if_neg hc1] at hf
      refine zr_icge_f 29 dX2_placeOf_8 (by decide) hc1 ?_
      refine zr_aload_n (v := .inl (some l0)) dX2_placeOf_11 rfl rfl ?_
      obtain ⟨x3, e_x3, hf⟩ := zbd hf
      refine zq_getR kg_35 dX2_placeOf_12 e_x3 ?_
      refine zr_iload_n (x := l2) dX2_placeOf_15 rfl rfl ?_
      obtain ⟨x4, e_x4, hf⟩ := zbd hf
      refine zq_iald dX2_placeOf_16 e_x4 ?_
      refine zr_iload_n (x := l1) dX2_placeOf_17 rfl rfl ?_
      by_cases hc2 : x4 = l1
      · rw [if_pos hc2] at hf
        refine zr_icne_f 23 dX2_placeOf_18 (by decide) hc2 ?_
        refine zr_iload_n (x := l2) dX2_placeOf_21 rfl rfl ?_
        cases hf
        exact zr_ret (some (zi l2)) rfl dX2_placeOf_22
      · rw [if_neg hc2] at hf
        refine zr_icne_t (tgt := 23) dX2_placeOf_18 (by decide) hc2 ?_
        refine zq_iinc (x := l2) (y := (1 : Int32)) (L' := [some (zr (some l0)), some (zi l1), some (zi (l2 + (1 : Int32)))]) dX2_placeOf_23 rfl (by decide) (by decide) rfl ?_
        refine zr_goto (tgt := 2) dX2_placeOf_26 (by decide) ?_
        exact ih l0 l1 (l2 + (1 : Int32)) h r hf
def f_X2_placeOf (N : Nat) (l0 : Nat) (l1 : Int32) (h : zH) : Option Int32 := f_X2_placeOf_2 N N l0 l1 (0 : Int32) h
set_option maxHeartbeats 4000000 in
set_option maxRecDepth 100000 in
theorem s_X2_placeOf {g : zG} (hg : g.2.1.map (fun q => q.2) = zty) {h0 : zH} (N : Nat) (l0 : Nat) (l1 : Int32) (h : zH) (r : Int32) (hf : f_X2_placeOf N l0 l1 h = some r) : zR g jX2_placeOf h0 0 [some (zr (some l0)), some (zi l1), none] [] h (some (zi r)) h := by
  unfold f_X2_placeOf at hf
  refine zr_iconst (v := (0 : Int32)) dX2_placeOf_0 (by decide) ?_
  refine zq_istore_n (x := (0 : Int32)) (L' := [some (zr (some l0)), some (zi l1), some (zi (0 : Int32))]) dX2_placeOf_1 rfl (by decide) rfl ?_
  exact s_X2_placeOf_2 hg N N l0 l1 (0 : Int32) h r hf
theorem c_X2_placeOf {g : zG} (hg : g.2.1.map (fun q => q.2) = zty) {N : Nat} {l0 : Nat} {l1 : Int32} {h : zH} {r : Int32} (hf : f_X2_placeOf N l0 l1 h = some r) : zCa g jX2_placeOf [zr (some l0), zi l1] h (some (zi r)) h :=
  zCa.of hg (by decide +kernel) (by decide) (s_X2_placeOf hg N l0 l1 h r hf)
theorem dX2_without_0 : decode cX2_without 0 = .ok (.aload_n 0, 1) := by decide +kernel
theorem dX2_without_1 : decode cX2_without 1 = .ok (.iload_n 1, 1) := by decide +kernel
theorem dX2_without_2 : decode cX2_without 2 = .ok (.invokevirtual 42, 3) := by decide +kernel
theorem dX2_without_5 : decode cX2_without 5 = .ok (.istore_n 2, 1) := by decide +kernel
theorem dX2_without_6 : decode cX2_without 6 = .ok (.iload_n 2, 1) := by decide +kernel
theorem dX2_without_7 : decode cX2_without 7 = .ok (.iconst (-1), 1) := by decide +kernel
theorem dX2_without_8 : decode cX2_without 8 = .ok (.if_icmp .ne 5, 3) := by decide +kernel
theorem dX2_without_11 : decode cX2_without 11 = .ok (.aload_n 0, 1) := by decide +kernel
theorem dX2_without_12 : decode cX2_without 12 = .ok (.areturn, 1) := by decide +kernel
theorem dX2_without_13 : decode cX2_without 13 = .ok (.aload_n 0, 1) := by decide +kernel
theorem dX2_without_14 : decode cX2_without 14 = .ok (.getfield 21, 3) := by decide +kernel
theorem dX2_without_17 : decode cX2_without 17 = .ok (.invokevirtual 46, 3) := by decide +kernel
theorem dX2_without_20 : decode cX2_without 20 = .ok (.checkcast 47, 3) := by decide +kernel
theorem dX2_without_23 : decode cX2_without 23 = .ok (.astore_n 3, 1) := by decide +kernel
theorem dX2_without_24 : decode cX2_without 24 = .ok (.aload_n 3, 1) := by decide +kernel
theorem dX2_without_25 : decode cX2_without 25 = .ok (.iload_n 2, 1) := by decide +kernel
theorem dX2_without_26 : decode cX2_without 26 = .ok (.iconst (-1), 1) := by decide +kernel
theorem dX2_without_27 : decode cX2_without 27 = .ok (.iastore, 1) := by decide +kernel
theorem dX2_without_28 : decode cX2_without 28 = .ok (.new 4, 3) := by decide +kernel
theorem dX2_without_31 : decode cX2_without 31 = .ok (.dup, 1) := by decide +kernel
theorem dX2_without_32 : decode cX2_without 32 = .ok (.aload_n 0, 1) := by decide +kernel
theorem dX2_without_33 : decode cX2_without 33 = .ok (.getfield 14, 3) := by decide +kernel
theorem dX2_without_36 : decode cX2_without 36 = .ok (.aload_n 0, 1) := by decide +kernel
theorem dX2_without_37 : decode cX2_without 37 = .ok (.getfield 18, 3) := by decide +kernel
theorem dX2_without_40 : decode cX2_without 40 = .ok (.aload_n 3, 1) := by decide +kernel
theorem dX2_without_41 : decode cX2_without 41 = .ok (.invokespecial 3, 3) := by decide +kernel
theorem dX2_without_44 : decode cX2_without 44 = .ok (.areturn, 1) := by decide +kernel
def f_X2_without (N : Nat) (l0 : Nat) (l1 : Int32) (h : zH) : Option ((Option Nat) × zH) := (zck h 2 (some l0)).bind fun q1 => (f_X2_placeOf N q1 l1 h).bind fun x1 => if x1 = ((-1) : Int32) then some ((some l0), h) else (zgR h 2 (some l0) 2).bind fun x2 => zcl h 0 x2 fun a1 h1 => (zst h1 0 (some a1) x1 ((-1) : Int32)).bind fun h2 => znw h2 (.inr (2, [zr none, zr none, zr none])) fun a2 h3 => (zgR h3 2 (some l0) 0).bind fun x3 => (zgR h3 2 (some l0) 1).bind fun x4 => (f_X2_init_ N a2 x3 x4 (some a1) h3).bind fun h4 => some ((some a2), h4)
set_option maxHeartbeats 4000000 in
set_option maxRecDepth 100000 in
theorem s_X2_without {g : zG} (hg : g.2.1.map (fun q => q.2) = zty) {h0 : zH} (N : Nat) (l0 : Nat) (l1 : Int32) (h : zH) (r : Option Nat) (h' : zH) (hf : f_X2_without N l0 l1 h = some (r, h')) : zR g jX2_without h0 0 [some (zr (some l0)), some (zi l1), none, none] [] h (some (zr r)) h' := by
  unfold f_X2_without at hf
  refine zr_aload_n (v := .inl (some l0)) dX2_without_0 rfl rfl ?_
  refine zr_iload_n (x := l1) dX2_without_1 rfl rfl ?_
  obtain ⟨q1, e_q1, hf⟩ := zbd hf
  obtain ⟨x1, e_x1, hf⟩ := zbd hf
  refine zq_callV (J' := jX2_placeOf) (as := [zi l1]) (rest := []) (r1 := (some (zi x1))) (q := (RX2, TX2, 3)) kw_80 km_X2_placeOf kt_49 dX2_without_2 rfl (by decide) rfl rfl e_q1 rfl (c_X2_placeOf hg e_x1) ?_
  refine zq_istore_n (x := x1) (L' := [some (zr (some l0)), some (zi l1), some (zi x1), none]) dX2_without_5 rfl (by decide) rfl ?_
  refine zr_iload_n (x := x1) dX2_without_6 rfl rfl ?_
  refine zr_iconst (v := ((-1) : Int32)) dX2_without_7 (by decide) ?_
  by_cases hc1 : x1 = ((-1) : Int32)
  · rw [if_pos hc1] at hf
    refine zr_icne_f 13 dX2_without_8 (by decide) hc1 ?_
    refine zr_aload_n (v := .inl (some l0)) dX2_without_11 rfl rfl ?_
    cases hf
    exact zr_ret (some (zr (some l0))) (Or.inl ⟨_, rfl⟩) dX2_without_12
  · rw [if_neg hc1] at hf
    refine zr_icne_t (tgt := 13) dX2_without_8 (by decide) hc1 ?_
    refine zr_aload_n (v := .inl (some l0)) dX2_without_13 rfl rfl ?_
    obtain ⟨x2, e_x2, hf⟩ := zbd hf
    refine zq_getR kg_35 dX2_without_14 e_x2 ?_
    obtain ⟨a1, h1, e_a1, hf⟩ := zcl_spec hf
    refine zq_clone (t := 0) kk_50 rfl (by decide +kernel) (Or.inl ⟨rfl, rfl⟩) (by decide) dX2_without_17 e_a1 ?_
    refine zq_castA (t := 0) (ad := "[I") (x := none) kw_85 rfl (by decide +kernel) dX2_without_20 (zcl_got e_a1) ?_
    refine zq_astore_n (v := .inl (some a1)) (L' := [some (zr (some l0)), some (zi l1), some (zi x1), some (zr (some a1))]) dX2_without_23 rfl (by decide) rfl ?_
    refine zr_aload_n (v := .inl (some a1)) dX2_without_24 rfl rfl ?_
    refine zr_iload_n (x := x1) dX2_without_25 rfl rfl ?_
    refine zr_iconst (v := ((-1) : Int32)) dX2_without_26 (by decide) ?_
    obtain ⟨h2, e_h2, hf⟩ := zbd hf
    refine zq_iast dX2_without_27 e_h2 ?_
    obtain ⟨a2, h3, e_a2, e_h3, hf⟩ := znw_spec hf
    refine zq_new kn_40 dX2_without_28 e_a2 e_h3 ?_
    refine zr_dup dX2_without_31 ?_
    refine zr_aload_n (v := .inl (some l0)) dX2_without_32 rfl rfl ?_
    obtain ⟨x3, e_x3, hf⟩ := zbd hf
    refine zq_getR kg_42 dX2_without_33 e_x3 ?_
    refine zr_aload_n (v := .inl (some l0)) dX2_without_36 rfl rfl ?_
    obtain ⟨x4, e_x4, hf⟩ := zbd hf
    refine zq_getR kg_34 dX2_without_37 e_x4 ?_
    refine zr_aload_n (v := .inl (some a1)) dX2_without_40 rfl rfl ?_
    obtain ⟨h4, e_h4, hf⟩ := zbd hf
    refine zq_callI (J' := jX2_init_) (as := [zr x3, zr x4, zr (some a1)]) (rest := [zr (some a2)]) (r1 := none) (a := a2) kw_62 km_X2_init_ kt_51 dX2_without_41 rfl (by decide) rfl (c_X2_init_ hg e_h4) ?_
    cases hf
    exact zr_ret (some (zr (some a2))) (Or.inl ⟨_, rfl⟩) dX2_without_44
theorem c_X2_without {g : zG} (hg : g.2.1.map (fun q => q.2) = zty) {N : Nat} {l0 : Nat} {l1 : Int32} {h : zH} {r : Option Nat} {h' : zH} (hf : f_X2_without N l0 l1 h = some (r, h')) : zCa g jX2_without [zr (some l0), zi l1] h (some (zr r)) h' :=
  zCa.of hg (by decide +kernel) (by decide) (s_X2_without hg N l0 l1 h r h' hf)
theorem dX2_seatedOn_0 : decode cX2_seatedOn 0 = .ok (.iload_n 1, 1) := by decide +kernel
theorem dX2_seatedOn_1 : decode cX2_seatedOn 1 = .ok (.ifCond .lt 21, 3) := by decide +kernel
theorem dX2_seatedOn_4 : decode cX2_seatedOn 4 = .ok (.iload_n 1, 1) := by decide +kernel
theorem dX2_seatedOn_5 : decode cX2_seatedOn 5 = .ok (.aload_n 0, 1) := by decide +kernel
theorem dX2_seatedOn_6 : decode cX2_seatedOn 6 = .ok (.getfield 21, 3) := by decide +kernel
theorem dX2_seatedOn_9 : decode cX2_seatedOn 9 = .ok (.arraylength, 1) := by decide +kernel
theorem dX2_seatedOn_10 : decode cX2_seatedOn 10 = .ok (.if_icmp .ge 12, 3) := by decide +kernel
theorem dX2_seatedOn_13 : decode cX2_seatedOn 13 = .ok (.aload_n 0, 1) := by decide +kernel
theorem dX2_seatedOn_14 : decode cX2_seatedOn 14 = .ok (.getfield 21, 3) := by decide +kernel
theorem dX2_seatedOn_17 : decode cX2_seatedOn 17 = .ok (.iload_n 1, 1) := by decide +kernel
theorem dX2_seatedOn_18 : decode cX2_seatedOn 18 = .ok (.iaload, 1) := by decide +kernel
theorem dX2_seatedOn_19 : decode cX2_seatedOn 19 = .ok (.goto 4, 3) := by decide +kernel
theorem dX2_seatedOn_22 : decode cX2_seatedOn 22 = .ok (.iconst (-1), 1) := by decide +kernel
theorem dX2_seatedOn_23 : decode cX2_seatedOn 23 = .ok (.ireturn, 1) := by decide +kernel
def f_X2_seatedOn (N : Nat) (l0 : Nat) (l1 : Int32) (h : zH) : Option Int32 := if l1 < 0 then some ((-1) : Int32) else (zgR h 2 (some l0) 2).bind fun x1 => (zlen h x1).bind fun x2 => if x2 ≤ l1 then some ((-1) : Int32) else (zgR h 2 (some l0) 2).bind fun x3 => (zld h 0 x3 l1).bind fun x4 => some x4
set_option maxHeartbeats 4000000 in
set_option maxRecDepth 100000 in
theorem s_X2_seatedOn {g : zG} (hg : g.2.1.map (fun q => q.2) = zty) {h0 : zH} (N : Nat) (l0 : Nat) (l1 : Int32) (h : zH) (r : Int32) (hf : f_X2_seatedOn N l0 l1 h = some r) : zR g jX2_seatedOn h0 0 [some (zr (some l0)), some (zi l1)] [] h (some (zi r)) h := by
  unfold f_X2_seatedOn at hf
  refine zr_iload_n (x := l1) dX2_seatedOn_0 rfl rfl ?_
  by_cases hc1 : l1 < 0
  · rw [if_pos hc1] at hf
    refine zr_iflt_t (tgt := 22) dX2_seatedOn_1 (by decide) hc1 ?_
    refine zr_iconst (v := ((-1) : Int32)) dX2_seatedOn_22 (by decide) ?_
    cases hf
    exact zr_ret (some (zi ((-1) : Int32))) rfl dX2_seatedOn_23
  · rw [if_neg hc1] at hf
    refine zr_iflt_f 22 dX2_seatedOn_1 (by decide) hc1 ?_
    refine zr_iload_n (x := l1) dX2_seatedOn_4 rfl rfl ?_
    refine zr_aload_n (v := .inl (some l0)) dX2_seatedOn_5 rfl rfl ?_
    obtain ⟨x1, e_x1, hf⟩ := zbd hf
    refine zq_getR kg_35 dX2_seatedOn_6 e_x1 ?_
    obtain ⟨x2, e_x2, hf⟩ := zbd hf
    refine zq_alen dX2_seatedOn_9 e_x2 ?_
    by_cases hc2 : x2 ≤ l1
    · rw [if_pos hc2] at hf
      refine zr_icge_t (tgt := 22) dX2_seatedOn_10 (by decide) hc2 ?_
      refine zr_iconst (v := ((-1) : Int32)) dX2_seatedOn_22 (by decide) ?_
      cases hf
      exact zr_ret (some (zi ((-1) : Int32))) rfl dX2_seatedOn_23
    · rw [if_neg hc2] at hf
      refine zr_icge_f 22 dX2_seatedOn_10 (by decide) hc2 ?_
      refine zr_aload_n (v := .inl (some l0)) dX2_seatedOn_13 rfl rfl ?_
      obtain ⟨x3, e_x3, hf⟩ := zbd hf
      refine zq_getR kg_35 dX2_seatedOn_14 e_x3 ?_
      refine zr_iload_n (x := l1) dX2_seatedOn_17 rfl rfl ?_
      obtain ⟨x4, e_x4, hf⟩ := zbd hf
      refine zq_iald dX2_seatedOn_18 e_x4 ?_
      refine zr_goto (tgt := 23) dX2_seatedOn_19 (by decide) ?_
      cases hf
      exact zr_ret (some (zi x4)) rfl dX2_seatedOn_23
theorem c_X2_seatedOn {g : zG} (hg : g.2.1.map (fun q => q.2) = zty) {N : Nat} {l0 : Nat} {l1 : Int32} {h : zH} {r : Int32} (hf : f_X2_seatedOn N l0 l1 h = some r) : zCa g jX2_seatedOn [zr (some l0), zi l1] h (some (zi r)) h :=
  zCa.of hg (by decide +kernel) (by decide) (s_X2_seatedOn hg N l0 l1 h r hf)
theorem dX2_stateOf_0 : decode cX2_stateOf 0 = .ok (.iload_n 1, 1) := by decide +kernel
theorem dX2_stateOf_1 : decode cX2_stateOf 1 = .ok (.ifCond .lt 21, 3) := by decide +kernel
theorem dX2_stateOf_4 : decode cX2_stateOf 4 = .ok (.iload_n 1, 1) := by decide +kernel
theorem dX2_stateOf_5 : decode cX2_stateOf 5 = .ok (.aload_n 0, 1) := by decide +kernel
theorem dX2_stateOf_6 : decode cX2_stateOf 6 = .ok (.getfield 18, 3) := by decide +kernel
theorem dX2_stateOf_9 : decode cX2_stateOf 9 = .ok (.arraylength, 1) := by decide +kernel
theorem dX2_stateOf_10 : decode cX2_stateOf 10 = .ok (.if_icmp .ge 12, 3) := by decide +kernel
theorem dX2_stateOf_13 : decode cX2_stateOf 13 = .ok (.aload_n 0, 1) := by decide +kernel
theorem dX2_stateOf_14 : decode cX2_stateOf 14 = .ok (.getfield 18, 3) := by decide +kernel
theorem dX2_stateOf_17 : decode cX2_stateOf 17 = .ok (.iload_n 1, 1) := by decide +kernel
theorem dX2_stateOf_18 : decode cX2_stateOf 18 = .ok (.iaload, 1) := by decide +kernel
theorem dX2_stateOf_19 : decode cX2_stateOf 19 = .ok (.goto 4, 3) := by decide +kernel
theorem dX2_stateOf_22 : decode cX2_stateOf 22 = .ok (.iconst (-1), 1) := by decide +kernel
theorem dX2_stateOf_23 : decode cX2_stateOf 23 = .ok (.ireturn, 1) := by decide +kernel
def f_X2_stateOf (N : Nat) (l0 : Nat) (l1 : Int32) (h : zH) : Option Int32 := if l1 < 0 then some ((-1) : Int32) else (zgR h 2 (some l0) 1).bind fun x1 => (zlen h x1).bind fun x2 => if x2 ≤ l1 then some ((-1) : Int32) else (zgR h 2 (some l0) 1).bind fun x3 => (zld h 0 x3 l1).bind fun x4 => some x4
set_option maxHeartbeats 4000000 in
set_option maxRecDepth 100000 in
theorem s_X2_stateOf {g : zG} (hg : g.2.1.map (fun q => q.2) = zty) {h0 : zH} (N : Nat) (l0 : Nat) (l1 : Int32) (h : zH) (r : Int32) (hf : f_X2_stateOf N l0 l1 h = some r) : zR g jX2_stateOf h0 0 [some (zr (some l0)), some (zi l1)] [] h (some (zi r)) h := by
  unfold f_X2_stateOf at hf
  refine zr_iload_n (x := l1) dX2_stateOf_0 rfl rfl ?_
  by_cases hc1 : l1 < 0
  · rw [if_pos hc1] at hf
    refine zr_iflt_t (tgt := 22) dX2_stateOf_1 (by decide) hc1 ?_
    refine zr_iconst (v := ((-1) : Int32)) dX2_stateOf_22 (by decide) ?_
    cases hf
    exact zr_ret (some (zi ((-1) : Int32))) rfl dX2_stateOf_23
  · rw [if_neg hc1] at hf
    refine zr_iflt_f 22 dX2_stateOf_1 (by decide) hc1 ?_
    refine zr_iload_n (x := l1) dX2_stateOf_4 rfl rfl ?_
    refine zr_aload_n (v := .inl (some l0)) dX2_stateOf_5 rfl rfl ?_
    obtain ⟨x1, e_x1, hf⟩ := zbd hf
    refine zq_getR kg_34 dX2_stateOf_6 e_x1 ?_
    obtain ⟨x2, e_x2, hf⟩ := zbd hf
    refine zq_alen dX2_stateOf_9 e_x2 ?_
    by_cases hc2 : x2 ≤ l1
    · rw [if_pos hc2] at hf
      refine zr_icge_t (tgt := 22) dX2_stateOf_10 (by decide) hc2 ?_
      refine zr_iconst (v := ((-1) : Int32)) dX2_stateOf_22 (by decide) ?_
      cases hf
      exact zr_ret (some (zi ((-1) : Int32))) rfl dX2_stateOf_23
    · rw [if_neg hc2] at hf
      refine zr_icge_f 22 dX2_stateOf_10 (by decide) hc2 ?_
      refine zr_aload_n (v := .inl (some l0)) dX2_stateOf_13 rfl rfl ?_
      obtain ⟨x3, e_x3, hf⟩ := zbd hf
      refine zq_getR kg_34 dX2_stateOf_14 e_x3 ?_
      refine zr_iload_n (x := l1) dX2_stateOf_17 rfl rfl ?_
      obtain ⟨x4, e_x4, hf⟩ := zbd hf
      refine zq_iald dX2_stateOf_18 e_x4 ?_
      refine zr_goto (tgt := 23) dX2_stateOf_19 (by decide) ?_
      cases hf
      exact zr_ret (some (zi x4)) rfl dX2_stateOf_23
theorem c_X2_stateOf {g : zG} (hg : g.2.1.map (fun q => q.2) = zty) {N : Nat} {l0 : Nat} {l1 : Int32} {h : zH} {r : Int32} (hf : f_X2_stateOf N l0 l1 h = some r) : zCa g jX2_stateOf [zr (some l0), zi l1] h (some (zi r)) h :=
  zCa.of hg (by decide +kernel) (by decide) (s_X2_stateOf hg N l0 l1 h r hf)
theorem dX2_isAnyOfBay_0 : decode cX2_isAnyOfBay 0 = .ok (.iload_n 1, 1) := by decide +kernel
theorem dX2_isAnyOfBay_1 : decode cX2_isAnyOfBay 1 = .ok (.ifCond .lt 12, 3) := by decide +kernel
theorem dX2_isAnyOfBay_4 : decode cX2_isAnyOfBay 4 = .ok (.iload_n 1, 1) := by decide +kernel
theorem dX2_isAnyOfBay_5 : decode cX2_isAnyOfBay 5 = .ok (.aload_n 0, 1) := by decide +kernel
theorem dX2_isAnyOfBay_6 : decode cX2_isAnyOfBay 6 = .ok (.getfield 14, 3) := by decide +kernel
theorem dX2_isAnyOfBay_9 : decode cX2_isAnyOfBay 9 = .ok (.arraylength, 1) := by decide +kernel
theorem dX2_isAnyOfBay_10 : decode cX2_isAnyOfBay 10 = .ok (.if_icmp .lt 5, 3) := by decide +kernel
theorem dX2_isAnyOfBay_13 : decode cX2_isAnyOfBay 13 = .ok (.iconst 0, 1) := by decide +kernel
theorem dX2_isAnyOfBay_14 : decode cX2_isAnyOfBay 14 = .ok (.ireturn, 1) := by decide +kernel
theorem dX2_isAnyOfBay_15 : decode cX2_isAnyOfBay 15 = .ok (.iconst 0, 1) := by decide +kernel
theorem dX2_isAnyOfBay_16 : decode cX2_isAnyOfBay 16 = .ok (.istore_n 3, 1) := by decide +kernel
theorem dX2_isAnyOfBay_17 : decode cX2_isAnyOfBay 17 = .ok (.iload_n 3, 1) := by decide +kernel
theorem dX2_isAnyOfBay_18 : decode cX2_isAnyOfBay 18 = .ok (.aload_n 0, 1) := by decide +kernel
theorem dX2_isAnyOfBay_19 : decode cX2_isAnyOfBay 19 = .ok (.getfield 14, 3) := by decide +kernel
theorem dX2_isAnyOfBay_22 : decode cX2_isAnyOfBay 22 = .ok (.arraylength, 1) := by decide +kernel
theorem dX2_isAnyOfBay_23 : decode cX2_isAnyOfBay 23 = .ok (.if_icmp .ge 36, 3) := by decide +kernel
theorem dX2_isAnyOfBay_26 : decode cX2_isAnyOfBay 26 = .ok (.aload_n 0, 1) := by decide +kernel
theorem dX2_isAnyOfBay_27 : decode cX2_isAnyOfBay 27 = .ok (.getfield 14, 3) := by decide +kernel
theorem dX2_isAnyOfBay_30 : decode cX2_isAnyOfBay 30 = .ok (.iload_n 3, 1) := by decide +kernel
theorem dX2_isAnyOfBay_31 : decode cX2_isAnyOfBay 31 = .ok (.iaload, 1) := by decide +kernel
theorem dX2_isAnyOfBay_32 : decode cX2_isAnyOfBay 32 = .ok (.aload_n 0, 1) := by decide +kernel
theorem dX2_isAnyOfBay_33 : decode cX2_isAnyOfBay 33 = .ok (.getfield 14, 3) := by decide +kernel
theorem dX2_isAnyOfBay_36 : decode cX2_isAnyOfBay 36 = .ok (.iload_n 1, 1) := by decide +kernel
theorem dX2_isAnyOfBay_37 : decode cX2_isAnyOfBay 37 = .ok (.iaload, 1) := by decide +kernel
theorem dX2_isAnyOfBay_38 : decode cX2_isAnyOfBay 38 = .ok (.if_icmp .ne 15, 3) := by decide +kernel
theorem dX2_isAnyOfBay_41 : decode cX2_isAnyOfBay 41 = .ok (.aload_n 0, 1) := by decide +kernel
theorem dX2_isAnyOfBay_42 : decode cX2_isAnyOfBay 42 = .ok (.getfield 18, 3) := by decide +kernel
theorem dX2_isAnyOfBay_45 : decode cX2_isAnyOfBay 45 = .ok (.iload_n 3, 1) := by decide +kernel
theorem dX2_isAnyOfBay_46 : decode cX2_isAnyOfBay 46 = .ok (.iaload, 1) := by decide +kernel
theorem dX2_isAnyOfBay_47 : decode cX2_isAnyOfBay 47 = .ok (.iload_n 2, 1) := by decide +kernel
theorem dX2_isAnyOfBay_48 : decode cX2_isAnyOfBay 48 = .ok (.if_icmp .ne 5, 3) := by decide +kernel
theorem dX2_isAnyOfBay_51 : decode cX2_isAnyOfBay 51 = .ok (.iconst 1, 1) := by decide +kernel
theorem dX2_isAnyOfBay_52 : decode cX2_isAnyOfBay 52 = .ok (.ireturn, 1) := by decide +kernel
theorem dX2_isAnyOfBay_53 : decode cX2_isAnyOfBay 53 = .ok (.iinc 3 1, 3) := by decide +kernel
theorem dX2_isAnyOfBay_56 : decode cX2_isAnyOfBay 56 = .ok (.goto (-39), 3) := by decide +kernel
theorem dX2_isAnyOfBay_59 : decode cX2_isAnyOfBay 59 = .ok (.iconst 0, 1) := by decide +kernel
theorem dX2_isAnyOfBay_60 : decode cX2_isAnyOfBay 60 = .ok (.ireturn, 1) := by decide +kernel
def f_X2_isAnyOfBay_17 (N : Nat) : Nat → Nat → Int32 → Int32 → Int32 → zH → Option Int32
  | 0, _, _, _, _, _ => none
  | n + 1, l0, l1, l2, l3, h => (zgR h 2 (some l0) 0).bind fun x1 => (zlen h x1).bind fun x2 => if x2 ≤ l3 then some (0 : Int32) else (zgR h 2 (some l0) 0).bind fun x3 => (zld h 0 x3 l3).bind fun x4 => (zgR h 2 (some l0) 0).bind fun x5 => (zld h 0 x5 l1).bind fun x6 => if x4 = x6 then (zgR h 2 (some l0) 1).bind fun x7 => (zld h 0 x7 l3).bind fun x8 => if x8 = l2 then some (1 : Int32) else f_X2_isAnyOfBay_17 N n l0 l1 l2 (l3 + (1 : Int32)) h else f_X2_isAnyOfBay_17 N n l0 l1 l2 (l3 + (1 : Int32)) h
set_option maxHeartbeats 4000000 in
set_option maxRecDepth 100000 in
theorem s_X2_isAnyOfBay_17 {g : zG} (hg : g.2.1.map (fun q => q.2) = zty) {h0 : zH} (N : Nat) : ∀ (n : Nat) (l0 : Nat) (l1 : Int32) (l2 : Int32) (l3 : Int32) (h : zH) (r : Int32), f_X2_isAnyOfBay_17 N n l0 l1 l2 l3 h = some r → zR g jX2_isAnyOfBay h0 17 [some (zr (some l0)), some (zi l1), some (zi l2), some (zi l3)] [] h (some (zi r)) h := by
  intro n
  induction n with
  | zero =>
    intro l0 l1 l2 l3 h r hf
    cases hf
  | succ n ih =>
    intro l0 l1 l2 l3 h r hf
    rw [f_X2_isAnyOfBay_17] at hf
    refine zr_iload_n (x := l3) dX2_isAnyOfBay_17 rfl rfl ?_
    refine zr_aload_n (v := .inl (some l0)) dX2_isAnyOfBay_18 rfl rfl ?_
    obtain ⟨x1, e_x1, hf⟩ := zbd hf
    refine zq_getR kg_42 dX2_isAnyOfBay_19 e_x1 ?_
    obtain ⟨x2, e_x2, hf⟩ := zbd hf
    refine zq_alen dX2_isAnyOfBay_22 e_x2 ?_
    by_cases hc1 : x2 ≤ l3
    · rw [if_pos hc1] at hf
      refine zr_icge_t (tgt := 59) dX2_isAnyOfBay_23 (by decide) hc1 ?_
      refine zr_iconst (v := (0 : Int32)) dX2_isAnyOfBay_59 (by decide) ?_
      cases hf
      exact zr_ret (some (zi (0 : Int32))) rfl dX2_isAnyOfBay_60
    · rw [if_neg hc1] at hf
      refine zr_icge_f 59 dX2_isAnyOfBay_23 (by decide) hc1 ?_
      refine zr_aload_n (v := .inl (some l0)) dX2_isAnyOfBay_26 rfl rfl ?_
      obtain ⟨x3, e_x3, hf⟩ := zbd hf
      refine zq_getR kg_42 dX2_isAnyOfBay_27 e_x3 ?_
      refine zr_iload_n (x := l3) dX2_isAnyOfBay_30 rfl rfl ?_
      obtain ⟨x4, e_x4, hf⟩ := zbd hf
      refine zq_iald dX2_isAnyOfBay_31 e_x4 ?_
      refine zr_aload_n (v := .inl (some l0)) dX2_isAnyOfBay_32 rfl rfl ?_
      obtain ⟨x5, e_x5, hf⟩ := zbd hf
      refine zq_getR kg_42 dX2_isAnyOfBay_33 e_x5 ?_
      refine zr_iload_n (x := l1) dX2_isAnyOfBay_36 rfl rfl ?_
      obtain ⟨x6, e_x6, hf⟩ := zbd hf
      refine zq_iald dX2_isAnyOfBay_37 e_x6 ?_
      by_cases hc2 : x4 = x6
      · rw [if_pos hc2] at hf
        refine zr_icne_f 53 dX2_isAnyOfBay_38 (by decide) hc2 ?_
        refine zr_aload_n (v := .inl (some l0)) dX2_isAnyOfBay_41 rfl rfl ?_
        obtain ⟨x7, e_x7, hf⟩ := zbd hf
        refine zq_getR kg_34 dX2_isAnyOfBay_42 e_x7 ?_
        refine zr_iload_n (x := l3) dX2_isAnyOfBay_45 rfl rfl ?_
        obtain ⟨x8, e_x8, hf⟩ := zbd hf
        refine zq_iald dX2_isAnyOfBay_46 e_x8 ?_
        refine zr_iload_n (x := l2) dX2_isAnyOfBay_47 rfl rfl ?_
        by_cases hc3 : x8 = l2
        · rw [if_pos hc3] at hf
          refine zr_icne_f 53 dX2_isAnyOfBay_48 (by decide) hc3 ?_
          refine zr_iconst (v := (1 : Int32)) dX2_isAnyOfBay_51 (by decide) ?_
          cases hf
          exact zr_ret (some (zi (1 : Int32))) rfl dX2_isAnyOfBay_52
        · rw [if_neg hc3] at hf
          refine zr_icne_t (tgt := 53) dX2_isAnyOfBay_48 (by decide) hc3 ?_
          refine zq_iinc (x := l3) (y := (1 : Int32)) (L' := [some (zr (some l0)), some (zi l1), some (zi l2), some (zi (l3 + (1 : Int32)))]) dX2_isAnyOfBay_53 rfl (by decide) (by decide) rfl ?_
          refine zr_goto (tgt := 17) dX2_isAnyOfBay_56 (by decide) ?_
          exact ih l0 l1 l2 (l3 + (1 : Int32)) h r hf
      · rw [if_neg hc2] at hf
        refine zr_icne_t (tgt := 53) dX2_isAnyOfBay_38 (by decide) hc2 ?_
        refine zq_iinc (x := l3) (y := (1 : Int32)) (L' := [some (zr (some l0)), some (zi l1), some (zi l2), some (zi (l3 + (1 : Int32)))]) dX2_isAnyOfBay_53 rfl (by decide) (by decide) rfl ?_
        refine zr_goto (tgt := 17) dX2_isAnyOfBay_56 (by decide) ?_
        exact ih l0 l1 l2 (l3 + (1 : Int32)) h r hf
def f_X2_isAnyOfBay (N : Nat) (l0 : Nat) (l1 : Int32) (l2 : Int32) (h : zH) : Option Int32 := if l1 < 0 then some (0 : Int32) else (zgR h 2 (some l0) 0).bind fun x1 => (zlen h x1).bind fun x2 => if l1 < x2 then f_X2_isAnyOfBay_17 N N l0 l1 l2 (0 : Int32) h else some (0 : Int32)
set_option maxHeartbeats 4000000 in
set_option maxRecDepth 100000 in
theorem s_X2_isAnyOfBay {g : zG} (hg : g.2.1.map (fun q => q.2) = zty) {h0 : zH} (N : Nat) (l0 : Nat) (l1 : Int32) (l2 : Int32) (h : zH) (r : Int32) (hf : f_X2_isAnyOfBay N l0 l1 l2 h = some r) : zR g jX2_isAnyOfBay h0 0 [some (zr (some l0)), some (zi l1), some (zi l2), none] [] h (some (zi r)) h := by
  unfold f_X2_isAnyOfBay at hf
  refine zr_iload_n (x := l1) dX2_isAnyOfBay_0 rfl rfl ?_
  by_cases hc1 : l1 < 0
  · rw [if_pos hc1] at hf
    refine zr_iflt_t (tgt := 13) dX2_isAnyOfBay_1 (by decide) hc1 ?_
    refine zr_iconst (v := (0 : Int32)) dX2_isAnyOfBay_13 (by decide) ?_
    cases hf
    exact zr_ret (some (zi (0 : Int32))) rfl dX2_isAnyOfBay_14
  · rw [if_neg hc1] at hf
    refine zr_iflt_f 13 dX2_isAnyOfBay_1 (by decide) hc1 ?_
    refine zr_iload_n (x := l1) dX2_isAnyOfBay_4 rfl rfl ?_
    refine zr_aload_n (v := .inl (some l0)) dX2_isAnyOfBay_5 rfl rfl ?_
    obtain ⟨x1, e_x1, hf⟩ := zbd hf
    refine zq_getR kg_42 dX2_isAnyOfBay_6 e_x1 ?_
    obtain ⟨x2, e_x2, hf⟩ := zbd hf
    refine zq_alen dX2_isAnyOfBay_9 e_x2 ?_
    by_cases hc2 : l1 < x2
    · rw [if_pos hc2] at hf
      refine zr_iclt_t (tgt := 15) dX2_isAnyOfBay_10 (by decide) hc2 ?_
      refine zr_iconst (v := (0 : Int32)) dX2_isAnyOfBay_15 (by decide) ?_
      refine zq_istore_n (x := (0 : Int32)) (L' := [some (zr (some l0)), some (zi l1), some (zi l2), some (zi (0 : Int32))]) dX2_isAnyOfBay_16 rfl (by decide) rfl ?_
      exact s_X2_isAnyOfBay_17 hg N N l0 l1 l2 (0 : Int32) h r hf
    · rw [if_neg hc2] at hf
      refine zr_iclt_f 15 dX2_isAnyOfBay_10 (by decide) hc2 ?_
      refine zr_iconst (v := (0 : Int32)) dX2_isAnyOfBay_13 (by decide) ?_
      cases hf
      exact zr_ret (some (zi (0 : Int32))) rfl dX2_isAnyOfBay_14
theorem c_X2_isAnyOfBay {g : zG} (hg : g.2.1.map (fun q => q.2) = zty) {N : Nat} {l0 : Nat} {l1 : Int32} {l2 : Int32} {h : zH} {r : Int32} (hf : f_X2_isAnyOfBay N l0 l1 l2 h = some r) : zCa g jX2_isAnyOfBay [zr (some l0), zi l1, zi l2] h (some (zi r)) h :=
  zCa.of hg (by decide +kernel) (by decide) (s_X2_isAnyOfBay hg N l0 l1 l2 h r hf)
theorem dX2_mayBecome_0 : decode cX2_mayBecome 0 = .ok (.aload_n 0, 1) := by decide +kernel
theorem dX2_mayBecome_1 : decode cX2_mayBecome 1 = .ok (.iload_n 1, 1) := by decide +kernel
theorem dX2_mayBecome_2 : decode cX2_mayBecome 2 = .ok (.invokevirtual 51, 3) := by decide +kernel
theorem dX2_mayBecome_5 : decode cX2_mayBecome 5 = .ok (.tableswitch 71 0 2 #[27, 61, 61], 27) := by decide +kernel
theorem dX2_mayBecome_32 : decode cX2_mayBecome 32 = .ok (.iload_n 2, 1) := by decide +kernel
theorem dX2_mayBecome_33 : decode cX2_mayBecome 33 = .ok (.iconst 1, 1) := by decide +kernel
theorem dX2_mayBecome_34 : decode cX2_mayBecome 34 = .ok (.if_icmp .ne 12, 3) := by decide +kernel
theorem dX2_mayBecome_37 : decode cX2_mayBecome 37 = .ok (.aload_n 0, 1) := by decide +kernel
theorem dX2_mayBecome_38 : decode cX2_mayBecome 38 = .ok (.iload_n 1, 1) := by decide +kernel
theorem dX2_mayBecome_39 : decode cX2_mayBecome 39 = .ok (.iconst 2, 1) := by decide +kernel
theorem dX2_mayBecome_40 : decode cX2_mayBecome 40 = .ok (.invokevirtual 54, 3) := by decide +kernel
theorem dX2_mayBecome_43 : decode cX2_mayBecome 43 = .ok (.ifCond .eq 17, 3) := by decide +kernel
theorem dX2_mayBecome_46 : decode cX2_mayBecome 46 = .ok (.iload_n 2, 1) := by decide +kernel
theorem dX2_mayBecome_47 : decode cX2_mayBecome 47 = .ok (.iconst 2, 1) := by decide +kernel
theorem dX2_mayBecome_48 : decode cX2_mayBecome 48 = .ok (.if_icmp .ne 16, 3) := by decide +kernel
theorem dX2_mayBecome_51 : decode cX2_mayBecome 51 = .ok (.aload_n 0, 1) := by decide +kernel
theorem dX2_mayBecome_52 : decode cX2_mayBecome 52 = .ok (.iload_n 1, 1) := by decide +kernel
theorem dX2_mayBecome_53 : decode cX2_mayBecome 53 = .ok (.iconst 1, 1) := by decide +kernel
theorem dX2_mayBecome_54 : decode cX2_mayBecome 54 = .ok (.invokevirtual 54, 3) := by decide +kernel
theorem dX2_mayBecome_57 : decode cX2_mayBecome 57 = .ok (.ifCond .ne 7, 3) := by decide +kernel
theorem dX2_mayBecome_60 : decode cX2_mayBecome 60 = .ok (.iconst 1, 1) := by decide +kernel
theorem dX2_mayBecome_61 : decode cX2_mayBecome 61 = .ok (.goto 4, 3) := by decide +kernel
theorem dX2_mayBecome_64 : decode cX2_mayBecome 64 = .ok (.iconst 0, 1) := by decide +kernel
theorem dX2_mayBecome_65 : decode cX2_mayBecome 65 = .ok (.ireturn, 1) := by decide +kernel
theorem dX2_mayBecome_66 : decode cX2_mayBecome 66 = .ok (.iload_n 2, 1) := by decide +kernel
theorem dX2_mayBecome_67 : decode cX2_mayBecome 67 = .ok (.ifCond .ne 7, 3) := by decide +kernel
theorem dX2_mayBecome_70 : decode cX2_mayBecome 70 = .ok (.iconst 1, 1) := by decide +kernel
theorem dX2_mayBecome_71 : decode cX2_mayBecome 71 = .ok (.goto 4, 3) := by decide +kernel
theorem dX2_mayBecome_74 : decode cX2_mayBecome 74 = .ok (.iconst 0, 1) := by decide +kernel
theorem dX2_mayBecome_75 : decode cX2_mayBecome 75 = .ok (.ireturn, 1) := by decide +kernel
theorem dX2_mayBecome_76 : decode cX2_mayBecome 76 = .ok (.iconst 0, 1) := by decide +kernel
theorem dX2_mayBecome_77 : decode cX2_mayBecome 77 = .ok (.ireturn, 1) := by decide +kernel
def f_X2_mayBecome_46 (N : Nat) (l0 : Nat) (l1 : Int32) (l2 : Int32) (h : zH) : Option Int32 := if l2 = (2 : Int32) then (zck h 2 (some l0)).bind fun q1 => (f_X2_isAnyOfBay N q1 l1 (1 : Int32) h).bind fun x1 => if x1 = 0 then some (1 : Int32) else some (0 : Int32) else some (0 : Int32)
set_option maxHeartbeats 4000000 in
set_option maxRecDepth 100000 in
theorem s_X2_mayBecome_46 {g : zG} (hg : g.2.1.map (fun q => q.2) = zty) {h0 : zH} (N : Nat) (l0 : Nat) (l1 : Int32) (l2 : Int32) (h : zH) (r : Int32) (hf : f_X2_mayBecome_46 N l0 l1 l2 h = some r) : zR g jX2_mayBecome h0 46 [some (zr (some l0)), some (zi l1), some (zi l2)] [] h (some (zi r)) h := by
  unfold f_X2_mayBecome_46 at hf
  refine zr_iload_n (x := l2) dX2_mayBecome_46 rfl rfl ?_
  refine zr_iconst (v := (2 : Int32)) dX2_mayBecome_47 (by decide) ?_
  by_cases hc1 : l2 = (2 : Int32)
  · rw [if_pos hc1] at hf
    refine zr_icne_f 64 dX2_mayBecome_48 (by decide) hc1 ?_
    refine zr_aload_n (v := .inl (some l0)) dX2_mayBecome_51 rfl rfl ?_
    refine zr_iload_n (x := l1) dX2_mayBecome_52 rfl rfl ?_
    refine zr_iconst (v := (1 : Int32)) dX2_mayBecome_53 (by decide) ?_
    obtain ⟨q1, e_q1, hf⟩ := zbd hf
    obtain ⟨x1, e_x1, hf⟩ := zbd hf
    refine zq_callV (J' := jX2_isAnyOfBay) (as := [zi l1, zi (1 : Int32)]) (rest := []) (r1 := (some (zi x1))) (q := (RX2, TX2, 3)) kw_86 km_X2_isAnyOfBay kt_53 dX2_mayBecome_54 rfl (by decide) rfl rfl e_q1 rfl (c_X2_isAnyOfBay hg e_x1) ?_
    by_cases hc2 : x1 = 0
    · rw [if_pos hc2] at hf
      refine zr_ifne_f 64 dX2_mayBecome_57 (by decide) hc2 ?_
      refine zr_iconst (v := (1 : Int32)) dX2_mayBecome_60 (by decide) ?_
      refine zr_goto (tgt := 65) dX2_mayBecome_61 (by decide) ?_
      cases hf
      exact zr_ret (some (zi (1 : Int32))) rfl dX2_mayBecome_65
    · rw [if_neg hc2] at hf
      refine zr_ifne_t (tgt := 64) dX2_mayBecome_57 (by decide) hc2 ?_
      refine zr_iconst (v := (0 : Int32)) dX2_mayBecome_64 (by decide) ?_
      cases hf
      exact zr_ret (some (zi (0 : Int32))) rfl dX2_mayBecome_65
  · rw [if_neg hc1] at hf
    refine zr_icne_t (tgt := 64) dX2_mayBecome_48 (by decide) hc1 ?_
    refine zr_iconst (v := (0 : Int32)) dX2_mayBecome_64 (by decide) ?_
    cases hf
    exact zr_ret (some (zi (0 : Int32))) rfl dX2_mayBecome_65
def f_X2_mayBecome_66 (N : Nat) (l2 : Int32) (h : zH) : Option Int32 := if l2 = 0 then some (1 : Int32) else some (0 : Int32)
set_option maxHeartbeats 4000000 in
set_option maxRecDepth 100000 in
theorem s_X2_mayBecome_66 {g : zG} (hg : g.2.1.map (fun q => q.2) = zty) {h0 : zH} (N : Nat) (l2 : Int32) (h : zH) (r : Int32) (hf : f_X2_mayBecome_66 N l2 h = some r) : zR g jX2_mayBecome h0 66 [none, none, some (zi l2)] [] h (some (zi r)) h := by
  unfold f_X2_mayBecome_66 at hf
  refine zr_iload_n (x := l2) dX2_mayBecome_66 rfl rfl ?_
  by_cases hc1 : l2 = 0
  · rw [if_pos hc1] at hf
    refine zr_ifne_f 74 dX2_mayBecome_67 (by decide) hc1 ?_
    refine zr_iconst (v := (1 : Int32)) dX2_mayBecome_70 (by decide) ?_
    refine zr_goto (tgt := 75) dX2_mayBecome_71 (by decide) ?_
    cases hf
    exact zr_ret (some (zi (1 : Int32))) rfl dX2_mayBecome_75
  · rw [if_neg hc1] at hf
    refine zr_ifne_t (tgt := 74) dX2_mayBecome_67 (by decide) hc1 ?_
    refine zr_iconst (v := (0 : Int32)) dX2_mayBecome_74 (by decide) ?_
    cases hf
    exact zr_ret (some (zi (0 : Int32))) rfl dX2_mayBecome_75
def f_X2_mayBecome (N : Nat) (l0 : Nat) (l1 : Int32) (l2 : Int32) (h : zH) : Option Int32 := (zck h 2 (some l0)).bind fun q1 => (f_X2_stateOf N q1 l1 h).bind fun x1 => if x1 = (0 : Int32) then if l2 = (1 : Int32) then (zck h 2 (some l0)).bind fun q2 => (f_X2_isAnyOfBay N q2 l1 (2 : Int32) h).bind fun x2 => if x2 = 0 then some (1 : Int32) else f_X2_mayBecome_46 N l0 l1 l2 h else f_X2_mayBecome_46 N l0 l1 l2 h else if x1 = (1 : Int32) then f_X2_mayBecome_66 N l2 h else if x1 = (2 : Int32) then f_X2_mayBecome_66 N l2 h else some (0 : Int32)
set_option maxHeartbeats 4000000 in
set_option maxRecDepth 100000 in
theorem s_X2_mayBecome {g : zG} (hg : g.2.1.map (fun q => q.2) = zty) {h0 : zH} (N : Nat) (l0 : Nat) (l1 : Int32) (l2 : Int32) (h : zH) (r : Int32) (hf : f_X2_mayBecome N l0 l1 l2 h = some r) : zR g jX2_mayBecome h0 0 [some (zr (some l0)), some (zi l1), some (zi l2)] [] h (some (zi r)) h := by
  unfold f_X2_mayBecome at hf
  refine zr_aload_n (v := .inl (some l0)) dX2_mayBecome_0 rfl rfl ?_
  refine zr_iload_n (x := l1) dX2_mayBecome_1 rfl rfl ?_
  obtain ⟨q1, e_q1, hf⟩ := zbd hf
  obtain ⟨x1, e_x1, hf⟩ := zbd hf
  refine zq_callV (J' := jX2_stateOf) (as := [zi l1]) (rest := []) (r1 := (some (zi x1))) (q := (RX2, TX2, 3)) kw_90 km_X2_stateOf kt_55 dX2_mayBecome_2 rfl (by decide) rfl rfl e_q1 rfl (c_X2_stateOf hg e_x1) ?_
  by_cases hc1 : x1 = (0 : Int32)
  · rw [if_pos hc1] at hf
    refine zr_tabIn (off := 27) (tgt := 32) dX2_mayBecome_5 (by rw [hc1]; decide) (by rw [hc1]; rfl) (by decide) ?_
    refine zr_iload_n (x := l2) dX2_mayBecome_32 rfl rfl ?_
    refine zr_iconst (v := (1 : Int32)) dX2_mayBecome_33 (by decide) ?_
    by_cases hc2 : l2 = (1 : Int32)
    · rw [if_pos hc2] at hf
      refine zr_icne_f 46 dX2_mayBecome_34 (by decide) hc2 ?_
      refine zr_aload_n (v := .inl (some l0)) dX2_mayBecome_37 rfl rfl ?_
      refine zr_iload_n (x := l1) dX2_mayBecome_38 rfl rfl ?_
      refine zr_iconst (v := (2 : Int32)) dX2_mayBecome_39 (by decide) ?_
      obtain ⟨q2, e_q2, hf⟩ := zbd hf
      obtain ⟨x2, e_x2, hf⟩ := zbd hf
      refine zq_callV (J' := jX2_isAnyOfBay) (as := [zi l1, zi (2 : Int32)]) (rest := []) (r1 := (some (zi x2))) (q := (RX2, TX2, 3)) kw_86 km_X2_isAnyOfBay kt_53 dX2_mayBecome_40 rfl (by decide) rfl rfl e_q2 rfl (c_X2_isAnyOfBay hg e_x2) ?_
      by_cases hc3 : x2 = 0
      · rw [if_pos hc3] at hf
        refine zr_ifeq_t (tgt := 60) dX2_mayBecome_43 (by decide) hc3 ?_
        refine zr_iconst (v := (1 : Int32)) dX2_mayBecome_60 (by decide) ?_
        refine zr_goto (tgt := 65) dX2_mayBecome_61 (by decide) ?_
        cases hf
        exact zr_ret (some (zi (1 : Int32))) rfl dX2_mayBecome_65
      · rw [if_neg hc3] at hf
        refine zr_ifeq_f 60 dX2_mayBecome_43 (by decide) hc3 ?_
        exact s_X2_mayBecome_46 hg N l0 l1 l2 h r hf
    · rw [if_neg hc2] at hf
      refine zr_icne_t (tgt := 46) dX2_mayBecome_34 (by decide) hc2 ?_
      exact s_X2_mayBecome_46 hg N l0 l1 l2 h r hf
  · rw [if_neg hc1] at hf
    by_cases hc4 : x1 = (1 : Int32)
    · rw [if_pos hc4] at hf
      refine zr_tabIn (off := 61) (tgt := 66) dX2_mayBecome_5 (by rw [hc4]; decide) (by rw [hc4]; rfl) (by decide) ?_
      refine zr_forget 0 (L' := [none, some (zi l1), some (zi l2)]) rfl ?_
      refine zr_forget 1 (L' := [none, none, some (zi l2)]) rfl ?_
      exact s_X2_mayBecome_66 hg N l2 h r hf
    · rw [if_neg hc4] at hf
      by_cases hc5 : x1 = (2 : Int32)
      · rw [if_pos hc5] at hf
        refine zr_tabIn (off := 61) (tgt := 66) dX2_mayBecome_5 (by rw [hc5]; decide) (by rw [hc5]; rfl) (by decide) ?_
        refine zr_forget 0 (L' := [none, some (zi l1), some (zi l2)]) rfl ?_
        refine zr_forget 1 (L' := [none, none, some (zi l2)]) rfl ?_
        exact s_X2_mayBecome_66 hg N l2 h r hf
      · rw [if_neg hc5] at hf
        refine zr_tabOut (tgt := 76) dX2_mayBecome_5 (fun q => by have n0 := zne (n := 0) hc1 (by decide); have n1 := zne (n := 1) hc4 (by decide); have n2 := zne (n := 2) hc5 (by decide); omega) (by decide) ?_
        refine zr_iconst (v := (0 : Int32)) dX2_mayBecome_76 (by decide) ?_
        cases hf
        exact zr_ret (some (zi (0 : Int32))) rfl dX2_mayBecome_77
theorem c_X2_mayBecome {g : zG} (hg : g.2.1.map (fun q => q.2) = zty) {N : Nat} {l0 : Nat} {l1 : Int32} {l2 : Int32} {h : zH} {r : Int32} (hf : f_X2_mayBecome N l0 l1 l2 h = some r) : zCa g jX2_mayBecome [zr (some l0), zi l1, zi l2] h (some (zi r)) h :=
  zCa.of hg (by decide +kernel) (by decide) (s_X2_mayBecome hg N l0 l1 l2 h r hf)
theorem dX2_withState_0 : decode cX2_withState 0 = .ok (.aload_n 0, 1) := by decide +kernel
theorem dX2_withState_1 : decode cX2_withState 1 = .ok (.getfield 18, 3) := by decide +kernel
theorem dX2_withState_4 : decode cX2_withState 4 = .ok (.invokevirtual 46, 3) := by decide +kernel
theorem dX2_withState_7 : decode cX2_withState 7 = .ok (.checkcast 47, 3) := by decide +kernel
theorem dX2_withState_10 : decode cX2_withState 10 = .ok (.astore_n 3, 1) := by decide +kernel
theorem dX2_withState_11 : decode cX2_withState 11 = .ok (.iload_n 1, 1) := by decide +kernel
theorem dX2_withState_12 : decode cX2_withState 12 = .ok (.ifCond .lt 13, 3) := by decide +kernel
theorem dX2_withState_15 : decode cX2_withState 15 = .ok (.iload_n 1, 1) := by decide +kernel
theorem dX2_withState_16 : decode cX2_withState 16 = .ok (.aload_n 3, 1) := by decide +kernel
theorem dX2_withState_17 : decode cX2_withState 17 = .ok (.arraylength, 1) := by decide +kernel
theorem dX2_withState_18 : decode cX2_withState 18 = .ok (.if_icmp .ge 7, 3) := by decide +kernel
theorem dX2_withState_21 : decode cX2_withState 21 = .ok (.aload_n 3, 1) := by decide +kernel
theorem dX2_withState_22 : decode cX2_withState 22 = .ok (.iload_n 1, 1) := by decide +kernel
theorem dX2_withState_23 : decode cX2_withState 23 = .ok (.iload_n 2, 1) := by decide +kernel
theorem dX2_withState_24 : decode cX2_withState 24 = .ok (.iastore, 1) := by decide +kernel
theorem dX2_withState_25 : decode cX2_withState 25 = .ok (.new 4, 3) := by decide +kernel
theorem dX2_withState_28 : decode cX2_withState 28 = .ok (.dup, 1) := by decide +kernel
theorem dX2_withState_29 : decode cX2_withState 29 = .ok (.aload_n 0, 1) := by decide +kernel
theorem dX2_withState_30 : decode cX2_withState 30 = .ok (.getfield 14, 3) := by decide +kernel
theorem dX2_withState_33 : decode cX2_withState 33 = .ok (.aload_n 3, 1) := by decide +kernel
theorem dX2_withState_34 : decode cX2_withState 34 = .ok (.aload_n 0, 1) := by decide +kernel
theorem dX2_withState_35 : decode cX2_withState 35 = .ok (.getfield 21, 3) := by decide +kernel
theorem dX2_withState_38 : decode cX2_withState 38 = .ok (.invokespecial 3, 3) := by decide +kernel
theorem dX2_withState_41 : decode cX2_withState 41 = .ok (.areturn, 1) := by decide +kernel
def f_X2_withState_25 (N : Nat) (l0 : Nat) (l3 : Option Nat) (h : zH) : Option ((Option Nat) × zH) := znw h (.inr (2, [zr none, zr none, zr none])) fun a1 h1 => (zgR h1 2 (some l0) 0).bind fun x1 => (zgR h1 2 (some l0) 2).bind fun x2 => (f_X2_init_ N a1 x1 l3 x2 h1).bind fun h2 => some ((some a1), h2)
set_option maxHeartbeats 4000000 in
set_option maxRecDepth 100000 in
theorem s_X2_withState_25 {g : zG} (hg : g.2.1.map (fun q => q.2) = zty) {h0 : zH} (N : Nat) (l0 : Nat) (l3 : Option Nat) (h : zH) (r : Option Nat) (h' : zH) (hf : f_X2_withState_25 N l0 l3 h = some (r, h')) : zR g jX2_withState h0 25 [some (zr (some l0)), none, none, some (zr l3)] [] h (some (zr r)) h' := by
  unfold f_X2_withState_25 at hf
  obtain ⟨a1, h1, e_a1, e_h1, hf⟩ := znw_spec hf
  refine zq_new kn_40 dX2_withState_25 e_a1 e_h1 ?_
  refine zr_dup dX2_withState_28 ?_
  refine zr_aload_n (v := .inl (some l0)) dX2_withState_29 rfl rfl ?_
  obtain ⟨x1, e_x1, hf⟩ := zbd hf
  refine zq_getR kg_42 dX2_withState_30 e_x1 ?_
  refine zr_aload_n (v := .inl l3) dX2_withState_33 rfl rfl ?_
  refine zr_aload_n (v := .inl (some l0)) dX2_withState_34 rfl rfl ?_
  obtain ⟨x2, e_x2, hf⟩ := zbd hf
  refine zq_getR kg_35 dX2_withState_35 e_x2 ?_
  obtain ⟨h2, e_h2, hf⟩ := zbd hf
  refine zq_callI (J' := jX2_init_) (as := [zr x1, zr l3, zr x2]) (rest := [zr (some a1)]) (r1 := none) (a := a1) kw_62 km_X2_init_ kt_56 dX2_withState_38 rfl (by decide) rfl (c_X2_init_ hg e_h2) ?_
  cases hf
  exact zr_ret (some (zr (some a1))) (Or.inl ⟨_, rfl⟩) dX2_withState_41
def f_X2_withState (N : Nat) (l0 : Nat) (l1 : Int32) (l2 : Int32) (h : zH) : Option ((Option Nat) × zH) := (zgR h 2 (some l0) 1).bind fun x1 => zcl h 0 x1 fun a1 h1 => if l1 < 0 then f_X2_withState_25 N l0 (some a1) h1 else (zlen h1 (some a1)).bind fun x2 => if x2 ≤ l1 then f_X2_withState_25 N l0 (some a1) h1 else (zst h1 0 (some a1) l1 l2).bind fun h2 => f_X2_withState_25 N l0 (some a1) h2
set_option maxHeartbeats 4000000 in
set_option maxRecDepth 100000 in
theorem s_X2_withState {g : zG} (hg : g.2.1.map (fun q => q.2) = zty) {h0 : zH} (N : Nat) (l0 : Nat) (l1 : Int32) (l2 : Int32) (h : zH) (r : Option Nat) (h' : zH) (hf : f_X2_withState N l0 l1 l2 h = some (r, h')) : zR g jX2_withState h0 0 [some (zr (some l0)), some (zi l1), some (zi l2), none] [] h (some (zr r)) h' := by
  unfold f_X2_withState at hf
  refine zr_aload_n (v := .inl (some l0)) dX2_withState_0 rfl rfl ?_
  obtain ⟨x1, e_x1, hf⟩ := zbd hf
  refine zq_getR kg_34 dX2_withState_1 e_x1 ?_
  obtain ⟨a1, h1, e_a1, hf⟩ := zcl_spec hf
  refine zq_clone (t := 0) kk_50 rfl (by decide +kernel) (Or.inl ⟨rfl, rfl⟩) (by decide) dX2_withState_4 e_a1 ?_
  refine zq_castA (t := 0) (ad := "[I") (x := none) kw_85 rfl (by decide +kernel) dX2_withState_7 (zcl_got e_a1) ?_
  refine zq_astore_n (v := .inl (some a1)) (L' := [some (zr (some l0)), some (zi l1), some (zi l2), some (zr (some a1))]) dX2_withState_10 rfl (by decide) rfl ?_
  refine zr_iload_n (x := l1) dX2_withState_11 rfl rfl ?_
  by_cases hc1 : l1 < 0
  · rw [if_pos hc1] at hf
    refine zr_iflt_t (tgt := 25) dX2_withState_12 (by decide) hc1 ?_
    refine zr_forget 1 (L' := [some (zr (some l0)), none, some (zi l2), some (zr (some a1))]) rfl ?_
    refine zr_forget 2 (L' := [some (zr (some l0)), none, none, some (zr (some a1))]) rfl ?_
    exact s_X2_withState_25 hg N l0 (some a1) h1 r h' hf
  · rw [if_neg hc1] at hf
    refine zr_iflt_f 25 dX2_withState_12 (by decide) hc1 ?_
    refine zr_iload_n (x := l1) dX2_withState_15 rfl rfl ?_
    refine zr_aload_n (v := .inl (some a1)) dX2_withState_16 rfl rfl ?_
    obtain ⟨x2, e_x2, hf⟩ := zbd hf
    refine zq_alen dX2_withState_17 e_x2 ?_
    by_cases hc2 : x2 ≤ l1
    · rw [if_pos hc2] at hf
      refine zr_icge_t (tgt := 25) dX2_withState_18 (by decide) hc2 ?_
      refine zr_forget 1 (L' := [some (zr (some l0)), none, some (zi l2), some (zr (some a1))]) rfl ?_
      refine zr_forget 2 (L' := [some (zr (some l0)), none, none, some (zr (some a1))]) rfl ?_
      exact s_X2_withState_25 hg N l0 (some a1) h1 r h' hf
    · rw [if_neg hc2] at hf
      refine zr_icge_f 25 dX2_withState_18 (by decide) hc2 ?_
      refine zr_aload_n (v := .inl (some a1)) dX2_withState_21 rfl rfl ?_
      refine zr_iload_n (x := l1) dX2_withState_22 rfl rfl ?_
      refine zr_iload_n (x := l2) dX2_withState_23 rfl rfl ?_
      obtain ⟨h2, e_h2, hf⟩ := zbd hf
      refine zq_iast dX2_withState_24 e_h2 ?_
      refine zr_forget 1 (L' := [some (zr (some l0)), none, some (zi l2), some (zr (some a1))]) rfl ?_
      refine zr_forget 2 (L' := [some (zr (some l0)), none, none, some (zr (some a1))]) rfl ?_
      exact s_X2_withState_25 hg N l0 (some a1) h2 r h' hf
theorem c_X2_withState {g : zG} (hg : g.2.1.map (fun q => q.2) = zty) {N : Nat} {l0 : Nat} {l1 : Int32} {l2 : Int32} {h : zH} {r : Option Nat} {h' : zH} (hf : f_X2_withState N l0 l1 l2 h = some (r, h')) : zCa g jX2_withState [zr (some l0), zi l1, zi l2] h (some (zr r)) h' :=
  zCa.of hg (by decide +kernel) (by decide) (s_X2_withState hg N l0 l1 l2 h r h' hf)
theorem dX9_find_0 : decode cX9_find 0 = .ok (.iload_n 1, 1) := by decide +kernel
theorem dX9_find_1 : decode cX9_find 1 = .ok (.ifCond .lt 21, 3) := by decide +kernel
theorem dX9_find_4 : decode cX9_find 4 = .ok (.iload_n 1, 1) := by decide +kernel
theorem dX9_find_5 : decode cX9_find 5 = .ok (.aload_n 0, 1) := by decide +kernel
theorem dX9_find_6 : decode cX9_find 6 = .ok (.getfield 17, 3) := by decide +kernel
theorem dX9_find_9 : decode cX9_find 9 = .ok (.arraylength, 1) := by decide +kernel
theorem dX9_find_10 : decode cX9_find 10 = .ok (.if_icmp .ge 12, 3) := by decide +kernel
theorem dX9_find_13 : decode cX9_find 13 = .ok (.aload_n 0, 1) := by decide +kernel
theorem dX9_find_14 : decode cX9_find 14 = .ok (.getfield 17, 3) := by decide +kernel
theorem dX9_find_17 : decode cX9_find 17 = .ok (.iload_n 1, 1) := by decide +kernel
theorem dX9_find_18 : decode cX9_find 18 = .ok (.aaload, 1) := by decide +kernel
theorem dX9_find_19 : decode cX9_find 19 = .ok (.goto 4, 3) := by decide +kernel
theorem dX9_find_22 : decode cX9_find 22 = .ok (.aconst_null, 1) := by decide +kernel
theorem dX9_find_23 : decode cX9_find 23 = .ok (.areturn, 1) := by decide +kernel
def f_X9_find (N : Nat) (l0 : Nat) (l1 : Int32) (h : zH) : Option (Option Nat) := if l1 < 0 then some none else (zgR h 9 (some l0) 1).bind fun x1 => (zlen h x1).bind fun x2 => if x2 ≤ l1 then some none else (zgR h 9 (some l0) 1).bind fun x3 => (zldR h 4 x3 l1).bind fun x4 => some x4
set_option maxHeartbeats 4000000 in
set_option maxRecDepth 100000 in
theorem s_X9_find {g : zG} (hg : g.2.1.map (fun q => q.2) = zty) {h0 : zH} (N : Nat) (l0 : Nat) (l1 : Int32) (h : zH) (r : Option Nat) (hf : f_X9_find N l0 l1 h = some r) : zR g jX9_find h0 0 [some (zr (some l0)), some (zi l1)] [] h (some (zr r)) h := by
  unfold f_X9_find at hf
  refine zr_iload_n (x := l1) dX9_find_0 rfl rfl ?_
  by_cases hc1 : l1 < 0
  · rw [if_pos hc1] at hf
    refine zr_iflt_t (tgt := 22) dX9_find_1 (by decide) hc1 ?_
    refine zr_null dX9_find_22 ?_
    cases hf
    exact zr_ret (some (zr none)) (Or.inl ⟨_, rfl⟩) dX9_find_23
  · rw [if_neg hc1] at hf
    refine zr_iflt_f 22 dX9_find_1 (by decide) hc1 ?_
    refine zr_iload_n (x := l1) dX9_find_4 rfl rfl ?_
    refine zr_aload_n (v := .inl (some l0)) dX9_find_5 rfl rfl ?_
    obtain ⟨x1, e_x1, hf⟩ := zbd hf
    refine zq_getR kg_57 dX9_find_6 e_x1 ?_
    obtain ⟨x2, e_x2, hf⟩ := zbd hf
    refine zq_alen dX9_find_9 e_x2 ?_
    by_cases hc2 : x2 ≤ l1
    · rw [if_pos hc2] at hf
      refine zr_icge_t (tgt := 22) dX9_find_10 (by decide) hc2 ?_
      refine zr_null dX9_find_22 ?_
      cases hf
      exact zr_ret (some (zr none)) (Or.inl ⟨_, rfl⟩) dX9_find_23
    · rw [if_neg hc2] at hf
      refine zr_icge_f 22 dX9_find_10 (by decide) hc2 ?_
      refine zr_aload_n (v := .inl (some l0)) dX9_find_13 rfl rfl ?_
      obtain ⟨x3, e_x3, hf⟩ := zbd hf
      refine zq_getR kg_57 dX9_find_14 e_x3 ?_
      refine zr_iload_n (x := l1) dX9_find_17 rfl rfl ?_
      obtain ⟨x4, e_x4, hf⟩ := zbd hf
      refine zq_aald (t := 4) rfl dX9_find_18 e_x4 ?_
      refine zr_goto (tgt := 23) dX9_find_19 (by decide) ?_
      cases hf
      exact zr_ret (some (zr x4)) (Or.inl ⟨_, rfl⟩) dX9_find_23
theorem c_X9_find {g : zG} (hg : g.2.1.map (fun q => q.2) = zty) {N : Nat} {l0 : Nat} {l1 : Int32} {h : zH} {r : Option Nat} (hf : f_X9_find N l0 l1 h = some r) : zCa g jX9_find [zr (some l0), zi l1] h (some (zr r)) h :=
  zCa.of hg (by decide +kernel) (by decide) (s_X9_find hg N l0 l1 h r hf)
theorem dX3_init_0 : decode cX3_init 0 = .ok (.aload_n 0, 1) := by decide +kernel
theorem dX3_init_1 : decode cX3_init 1 = .ok (.invokespecial 3, 3) := by decide +kernel
theorem dX3_init_4 : decode cX3_init 4 = .ok (.aload_n 0, 1) := by decide +kernel
theorem dX3_init_5 : decode cX3_init 5 = .ok (.bipush 16, 2) := by decide +kernel
theorem dX3_init_7 : decode cX3_init 7 = .ok (.newarray .int, 2) := by decide +kernel
theorem dX3_init_9 : decode cX3_init 9 = .ok (.putfield 9, 3) := by decide +kernel
theorem dX3_init_12 : decode cX3_init 12 = .ok (.aload_n 0, 1) := by decide +kernel
theorem dX3_init_13 : decode cX3_init 13 = .ok (.bipush 16, 2) := by decide +kernel
theorem dX3_init_15 : decode cX3_init 15 = .ok (.newarray .int, 2) := by decide +kernel
theorem dX3_init_17 : decode cX3_init 17 = .ok (.putfield 15, 3) := by decide +kernel
theorem dX3_init_20 : decode cX3_init 20 = .ok (.aload_n 0, 1) := by decide +kernel
theorem dX3_init_21 : decode cX3_init 21 = .ok (.bipush 16, 2) := by decide +kernel
theorem dX3_init_23 : decode cX3_init 23 = .ok (.newarray .int, 2) := by decide +kernel
theorem dX3_init_25 : decode cX3_init 25 = .ok (.putfield 18, 3) := by decide +kernel
theorem dX3_init_28 : decode cX3_init 28 = .ok (.aload_n 0, 1) := by decide +kernel
theorem dX3_init_29 : decode cX3_init 29 = .ok (.iconst 0, 1) := by decide +kernel
theorem dX3_init_30 : decode cX3_init 30 = .ok (.putfield 21, 3) := by decide +kernel
theorem dX3_init_33 : decode cX3_init 33 = .ok (.aload_n 0, 1) := by decide +kernel
theorem dX3_init_34 : decode cX3_init 34 = .ok (.iconst 0, 1) := by decide +kernel
theorem dX3_init_35 : decode cX3_init 35 = .ok (.putfield 25, 3) := by decide +kernel
theorem dX3_init_38 : decode cX3_init 38 = .ok (.aload_n 0, 1) := by decide +kernel
theorem dX3_init_39 : decode cX3_init 39 = .ok (.iconst 0, 1) := by decide +kernel
theorem dX3_init_40 : decode cX3_init 40 = .ok (.iload_n 2, 1) := by decide +kernel
theorem dX3_init_41 : decode cX3_init 41 = .ok (.invokestatic 28, 3) := by decide +kernel
theorem dX3_init_44 : decode cX3_init 44 = .ok (.newarray .int, 2) := by decide +kernel
theorem dX3_init_46 : decode cX3_init 46 = .ok (.putfield 34, 3) := by decide +kernel
theorem dX3_init_49 : decode cX3_init 49 = .ok (.aload_n 0, 1) := by decide +kernel
theorem dX3_init_50 : decode cX3_init 50 = .ok (.iconst 0, 1) := by decide +kernel
theorem dX3_init_51 : decode cX3_init 51 = .ok (.iload_n 2, 1) := by decide +kernel
theorem dX3_init_52 : decode cX3_init 52 = .ok (.invokestatic 28, 3) := by decide +kernel
theorem dX3_init_55 : decode cX3_init 55 = .ok (.newarray .int, 2) := by decide +kernel
theorem dX3_init_57 : decode cX3_init 57 = .ok (.putfield 37, 3) := by decide +kernel
theorem dX3_init_60 : decode cX3_init 60 = .ok (.aload_n 0, 1) := by decide +kernel
theorem dX3_init_61 : decode cX3_init 61 = .ok (.getfield 34, 3) := by decide +kernel
theorem dX3_init_64 : decode cX3_init 64 = .ok (.iconst (-1), 1) := by decide +kernel
theorem dX3_init_65 : decode cX3_init 65 = .ok (.invokestatic 40, 3) := by decide +kernel
theorem dX3_init_68 : decode cX3_init 68 = .ok (.aload_n 0, 1) := by decide +kernel
theorem dX3_init_69 : decode cX3_init 69 = .ok (.getfield 37, 3) := by decide +kernel
theorem dX3_init_72 : decode cX3_init 72 = .ok (.iconst (-1), 1) := by decide +kernel
theorem dX3_init_73 : decode cX3_init 73 = .ok (.invokestatic 40, 3) := by decide +kernel
theorem dX3_init_76 : decode cX3_init 76 = .ok (.iconst 0, 1) := by decide +kernel
theorem dX3_init_77 : decode cX3_init 77 = .ok (.istore_n 3, 1) := by decide +kernel
theorem dX3_init_78 : decode cX3_init 78 = .ok (.iload_n 3, 1) := by decide +kernel
theorem dX3_init_79 : decode cX3_init 79 = .ok (.bipush 16, 2) := by decide +kernel
theorem dX3_init_81 : decode cX3_init 81 = .ok (.if_icmp .ge 55, 3) := by decide +kernel
theorem dX3_init_84 : decode cX3_init 84 = .ok (.aload_n 1, 1) := by decide +kernel
theorem dX3_init_85 : decode cX3_init 85 = .ok (.iload_n 3, 1) := by decide +kernel
theorem dX3_init_86 : decode cX3_init 86 = .ok (.invokevirtual 46, 3) := by decide +kernel
theorem dX3_init_89 : decode cX3_init 89 = .ok (.astore 4, 2) := by decide +kernel
theorem dX3_init_91 : decode cX3_init 91 = .ok (.aload 4, 2) := by decide +kernel
theorem dX3_init_93 : decode cX3_init 93 = .ok (.ifnull 37, 3) := by decide +kernel
theorem dX3_init_96 : decode cX3_init 96 = .ok (.aload_n 0, 1) := by decide +kernel
theorem dX3_init_97 : decode cX3_init 97 = .ok (.getfield 9, 3) := by decide +kernel
theorem dX3_init_100 : decode cX3_init 100 = .ok (.aload_n 0, 1) := by decide +kernel
theorem dX3_init_101 : decode cX3_init 101 = .ok (.getfield 21, 3) := by decide +kernel
theorem dX3_init_104 : decode cX3_init 104 = .ok (.iload_n 3, 1) := by decide +kernel
theorem dX3_init_105 : decode cX3_init 105 = .ok (.iastore, 1) := by decide +kernel
theorem dX3_init_106 : decode cX3_init 106 = .ok (.aload_n 0, 1) := by decide +kernel
theorem dX3_init_107 : decode cX3_init 107 = .ok (.getfield 15, 3) := by decide +kernel
theorem dX3_init_110 : decode cX3_init 110 = .ok (.aload_n 0, 1) := by decide +kernel
theorem dX3_init_111 : decode cX3_init 111 = .ok (.getfield 21, 3) := by decide +kernel
theorem dX3_init_114 : decode cX3_init 114 = .ok (.aload 4, 2) := by decide +kernel
theorem dX3_init_116 : decode cX3_init 116 = .ok (.getfield 52, 3) := by decide +kernel
theorem dX3_init_119 : decode cX3_init 119 = .ok (.iastore, 1) := by decide +kernel
theorem dX3_init_120 : decode cX3_init 120 = .ok (.aload_n 0, 1) := by decide +kernel
theorem dX3_init_121 : decode cX3_init 121 = .ok (.dup, 1) := by decide +kernel
theorem dX3_init_122 : decode cX3_init 122 = .ok (.getfield 21, 3) := by decide +kernel
theorem dX3_init_125 : decode cX3_init 125 = .ok (.iconst 1, 1) := by decide +kernel
theorem dX3_init_126 : decode cX3_init 126 = .ok (.iadd, 1) := by decide +kernel
theorem dX3_init_127 : decode cX3_init 127 = .ok (.putfield 21, 3) := by decide +kernel
theorem dX3_init_130 : decode cX3_init 130 = .ok (.iinc 3 1, 3) := by decide +kernel
theorem dX3_init_133 : decode cX3_init 133 = .ok (.goto (-55), 3) := by decide +kernel
theorem dX3_init_136 : decode cX3_init 136 = .ok (.return_, 1) := by decide +kernel
def f_X3_init_78 (N : Nat) : Nat → Nat → Option Nat → Int32 → zH → Option zH
  | 0, _, _, _, _ => none
  | n + 1, l0, l1, l3, h => if (16 : Int32) ≤ l3 then some h else (zck h 9 l1).bind fun q1 => (f_X9_find N q1 l3 h).bind fun x1 => if x1 = none then f_X3_init_78 N n l0 l1 (l3 + (1 : Int32)) h else (zgR h 3 (some l0) 0).bind fun x2 => (zgI h 3 (some l0) 3).bind fun x3 => (zst h 0 x2 x3 l3).bind fun h1 => (zgR h1 3 (some l0) 1).bind fun x4 => (zgI h1 3 (some l0) 3).bind fun x5 => (zgI h1 0 x1 0).bind fun x6 => (zst h1 0 x4 x5 x6).bind fun h2 => (zgI h2 3 (some l0) 3).bind fun x7 => (zpu h2 3 (some l0) 3 (zi (x7 + (1 : Int32)))).bind fun h3 => f_X3_init_78 N n l0 l1 (l3 + (1 : Int32)) h3
set_option maxHeartbeats 4000000 in
set_option maxRecDepth 100000 in
theorem s_X3_init_78 {g : zG} (hg : g.2.1.map (fun q => q.2) = zty) {h0 : zH} (N : Nat) : ∀ (n : Nat) (l0 : Nat) (l1 : Option Nat) (l3 : Int32) (h : zH) (h' : zH), f_X3_init_78 N n l0 l1 l3 h = some h' → zR g jX3_init h0 78 [some (zr (some l0)), some (zr l1), none, some (zi l3), none] [] h none h' := by
  intro n
  induction n with
  | zero =>
    intro l0 l1 l3 h h' hf
    cases hf
  | succ n ih =>
    intro l0 l1 l3 h h' hf
    rw [f_X3_init_78] at hf
    refine zr_iload_n (x := l3) dX3_init_78 rfl rfl ?_
    refine zr_bipush (v := (16 : Int32)) dX3_init_79 (by decide) ?_
    by_cases hc1 : (16 : Int32) ≤ l3
    · rw [if_pos hc1] at hf
      refine zr_icge_t (tgt := 136) dX3_init_81 (by decide) hc1 ?_
      cases hf
      exact zr_ret none trivial dX3_init_136
    · rw [if_neg hc1] at hf
      refine zr_icge_f 136 dX3_init_81 (by decide) hc1 ?_
      refine zr_aload_n (v := .inl l1) dX3_init_84 rfl rfl ?_
      refine zr_iload_n (x := l3) dX3_init_85 rfl rfl ?_
      obtain ⟨q1, e_q1, hf⟩ := zbd hf
      obtain ⟨x1, e_x1, hf⟩ := zbd hf
      refine zq_callV (J' := jX9_find) (as := [zi l3]) (rest := []) (r1 := (some (zr x1))) (q := (RX9, TX9, 5)) kw_95 km_X9_find kt_59 dX3_init_86 rfl (by decide) rfl rfl e_q1 rfl (c_X9_find hg e_x1) ?_
      refine zq_astore (v := .inl x1) (L' := [some (zr (some l0)), some (zr l1), none, some (zi l3), some (zr x1)]) dX3_init_89 (by decide) rfl ?_
      refine zr_aload (v := .inl x1) dX3_init_91 rfl ?_
      by_cases hc2 : x1 = none
      · rw [if_pos hc2] at hf
        refine zr_ifnull_t (tgt := 130) dX3_init_93 (by decide) hc2 ?_
        refine zq_iinc (x := l3) (y := (1 : Int32)) (L' := [some (zr (some l0)), some (zr l1), none, some (zi (l3 + (1 : Int32))), some (zr x1)]) dX3_init_130 rfl (by decide) (by decide) rfl ?_
        refine zr_goto (tgt := 78) dX3_init_133 (by decide) ?_
        refine zr_forget 4 (L' := [some (zr (some l0)), some (zr l1), none, some (zi (l3 + (1 : Int32))), none]) rfl ?_
        exact ih l0 l1 (l3 + (1 : Int32)) h h' hf
      · rw [if_neg hc2] at hf
        refine zr_ifnull_f dX3_init_93 hc2 ?_
        refine zr_aload_n (v := .inl (some l0)) dX3_init_96 rfl rfl ?_
        obtain ⟨x2, e_x2, hf⟩ := zbd hf
        refine zq_getR kg_60 dX3_init_97 e_x2 ?_
        refine zr_aload_n (v := .inl (some l0)) dX3_init_100 rfl rfl ?_
        obtain ⟨x3, e_x3, hf⟩ := zbd hf
        refine zq_getI kg_61 dX3_init_101 e_x3 ?_
        refine zr_iload_n (x := l3) dX3_init_104 rfl rfl ?_
        obtain ⟨h1, e_h1, hf⟩ := zbd hf
        refine zq_iast dX3_init_105 e_h1 ?_
        refine zr_aload_n (v := .inl (some l0)) dX3_init_106 rfl rfl ?_
        obtain ⟨x4, e_x4, hf⟩ := zbd hf
        refine zq_getR kg_62 dX3_init_107 e_x4 ?_
        refine zr_aload_n (v := .inl (some l0)) dX3_init_110 rfl rfl ?_
        obtain ⟨x5, e_x5, hf⟩ := zbd hf
        refine zq_getI kg_61 dX3_init_111 e_x5 ?_
        refine zr_aload (v := .inl x1) dX3_init_114 rfl ?_
        obtain ⟨x6, e_x6, hf⟩ := zbd hf
        refine zq_getI kg_63 dX3_init_116 e_x6 ?_
        obtain ⟨h2, e_h2, hf⟩ := zbd hf
        refine zq_iast dX3_init_119 e_h2 ?_
        refine zr_aload_n (v := .inl (some l0)) dX3_init_120 rfl rfl ?_
        refine zr_dup dX3_init_121 ?_
        obtain ⟨x7, e_x7, hf⟩ := zbd hf
        refine zq_getI kg_61 dX3_init_122 e_x7 ?_
        refine zr_iconst (v := (1 : Int32)) dX3_init_125 (by decide) ?_
        refine zr_iadd dX3_init_126 ?_
        obtain ⟨h3, e_h3, hf⟩ := zbd hf
        refine zq_put (kp_64 _) dX3_init_127 (zn_i _) e_h3 ?_
        refine zq_iinc (x := l3) (y := (1 : Int32)) (L' := [some (zr (some l0)), some (zr l1), none, some (zi (l3 + (1 : Int32))), some (zr x1)]) dX3_init_130 rfl (by decide) (by decide) rfl ?_
        refine zr_goto (tgt := 78) dX3_init_133 (by decide) ?_
        refine zr_forget 4 (L' := [some (zr (some l0)), some (zr l1), none, some (zi (l3 + (1 : Int32))), none]) rfl ?_
        exact ih l0 l1 (l3 + (1 : Int32)) h3 h' hf
def f_X3_init (N : Nat) (l0 : Nat) (l1 : Option Nat) (l2 : Int32) (h : zH) : Option zH := zna h 0 (16 : Int32) fun a1 h1 => (zpu h1 3 (some l0) 0 (zr (some a1))).bind fun h2 => zna h2 0 (16 : Int32) fun a2 h3 => (zpu h3 3 (some l0) 1 (zr (some a2))).bind fun h4 => zna h4 0 (16 : Int32) fun a3 h5 => (zpu h5 3 (some l0) 2 (zr (some a3))).bind fun h6 => (zpu h6 3 (some l0) 3 (zi (0 : Int32))).bind fun h7 => (zpu h7 3 (some l0) 6 (zi (0 : Int32))).bind fun h8 => zna h8 0 (if (0 : Int32) < l2 then l2 else (0 : Int32)) fun a4 h9 => (zpu h9 3 (some l0) 4 (zr (some a4))).bind fun h10 => zna h10 0 (if (0 : Int32) < l2 then l2 else (0 : Int32)) fun a5 h11 => (zpu h11 3 (some l0) 5 (zr (some a5))).bind fun h12 => (zgR h12 3 (some l0) 4).bind fun x1 => (f_J7_fill_53178 N x1 ((-1) : Int32) h12).bind fun h13 => (zgR h13 3 (some l0) 5).bind fun x2 => (f_J7_fill_53178 N x2 ((-1) : Int32) h13).bind fun h14 => f_X3_init_78 N N l0 l1 (0 : Int32) h14
set_option maxHeartbeats 4000000 in
set_option maxRecDepth 100000 in
theorem s_X3_init {g : zG} (hg : g.2.1.map (fun q => q.2) = zty) {h0 : zH} (N : Nat) (l0 : Nat) (l1 : Option Nat) (l2 : Int32) (h : zH) (h' : zH) (hf : f_X3_init N l0 l1 l2 h = some h') : zR g jX3_init h0 0 [some (zr (some l0)), some (zr l1), some (zi l2), none, none] [] h none h' := by
  unfold f_X3_init at hf
  refine zr_aload_n (v := .inl (some l0)) dX3_init_0 rfl rfl ?_
  refine zr_objInit kw_104 kw_1 kw_2 (by decide) dX3_init_1 ?_
  refine zr_aload_n (v := .inl (some l0)) dX3_init_4 rfl rfl ?_
  refine zr_bipush (v := (16 : Int32)) dX3_init_5 (by decide) ?_
  obtain ⟨a1, h1, e_a1, hf⟩ := zna_spec hf
  refine zq_newa (t := 0) kw_14 rfl (fun _ _ => rfl) (by decide) dX3_init_7 e_a1 ?_
  obtain ⟨h2, e_h2, hf⟩ := zbd hf
  refine zq_put kp_65 dX3_init_9 (zn_a _ _) e_h2 ?_
  refine zr_aload_n (v := .inl (some l0)) dX3_init_12 rfl rfl ?_
  refine zr_bipush (v := (16 : Int32)) dX3_init_13 (by decide) ?_
  obtain ⟨a2, h3, e_a2, hf⟩ := zna_spec hf
  refine zq_newa (t := 0) kw_14 rfl (fun _ _ => rfl) (by decide) dX3_init_15 e_a2 ?_
  obtain ⟨h4, e_h4, hf⟩ := zbd hf
  refine zq_put kp_66 dX3_init_17 (zn_a _ _) e_h4 ?_
  refine zr_aload_n (v := .inl (some l0)) dX3_init_20 rfl rfl ?_
  refine zr_bipush (v := (16 : Int32)) dX3_init_21 (by decide) ?_
  obtain ⟨a3, h5, e_a3, hf⟩ := zna_spec hf
  refine zq_newa (t := 0) kw_14 rfl (fun _ _ => rfl) (by decide) dX3_init_23 e_a3 ?_
  obtain ⟨h6, e_h6, hf⟩ := zbd hf
  refine zq_put kp_67 dX3_init_25 (zn_a _ _) e_h6 ?_
  refine zr_aload_n (v := .inl (some l0)) dX3_init_28 rfl rfl ?_
  refine zr_iconst (v := (0 : Int32)) dX3_init_29 (by decide) ?_
  obtain ⟨h7, e_h7, hf⟩ := zbd hf
  refine zq_put kp_64 dX3_init_30 (zn_i _) e_h7 ?_
  refine zr_aload_n (v := .inl (some l0)) dX3_init_33 rfl rfl ?_
  refine zr_iconst (v := (0 : Int32)) dX3_init_34 (by decide) ?_
  obtain ⟨h8, e_h8, hf⟩ := zbd hf
  refine zq_put (kp_68 _) dX3_init_35 (zn_i _) e_h8 ?_
  refine zr_aload_n (v := .inl (some l0)) dX3_init_38 rfl rfl ?_
  refine zr_iconst (v := (0 : Int32)) dX3_init_39 (by decide) ?_
  refine zr_iload_n (x := l2) dX3_init_40 rfl rfl ?_
  refine zr_mmax kw_107 kw_108 kw_25 kw_109 (by decide) dX3_init_41 ?_
  obtain ⟨a4, h9, e_a4, hf⟩ := zna_spec hf
  refine zq_newa (t := 0) kw_14 rfl (fun _ _ => rfl) (by decide) dX3_init_44 e_a4 ?_
  obtain ⟨h10, e_h10, hf⟩ := zbd hf
  refine zq_put kp_69 dX3_init_46 (zn_a _ _) e_h10 ?_
  refine zr_aload_n (v := .inl (some l0)) dX3_init_49 rfl rfl ?_
  refine zr_iconst (v := (0 : Int32)) dX3_init_50 (by decide) ?_
  refine zr_iload_n (x := l2) dX3_init_51 rfl rfl ?_
  refine zr_mmax kw_107 kw_108 kw_25 kw_109 (by decide) dX3_init_52 ?_
  obtain ⟨a5, h11, e_a5, hf⟩ := zna_spec hf
  refine zq_newa (t := 0) kw_14 rfl (fun _ _ => rfl) (by decide) dX3_init_55 e_a5 ?_
  obtain ⟨h12, e_h12, hf⟩ := zbd hf
  refine zq_put kp_70 dX3_init_57 (zn_a _ _) e_h12 ?_
  refine zr_aload_n (v := .inl (some l0)) dX3_init_60 rfl rfl ?_
  obtain ⟨x1, e_x1, hf⟩ := zbd hf
  refine zq_getR kg_71 dX3_init_61 e_x1 ?_
  refine zr_iconst (v := ((-1) : Int32)) dX3_init_64 (by decide) ?_
  obtain ⟨h13, e_h13, hf⟩ := zbd hf
  refine zq_callS (J' := jJ7_fill_53178) (as := [zr x1, zi ((-1) : Int32)]) (rest := []) (r1 := none) kw_112 km_J7_fill_53178 kt_72 dX3_init_65 rfl (by decide) rfl (c_J7_fill_53178 hg e_h13) ?_
  refine zr_aload_n (v := .inl (some l0)) dX3_init_68 rfl rfl ?_
  obtain ⟨x2, e_x2, hf⟩ := zbd hf
  refine zq_getR kg_73 dX3_init_69 e_x2 ?_
  refine zr_iconst (v := ((-1) : Int32)) dX3_init_72 (by decide) ?_
  obtain ⟨h14, e_h14, hf⟩ := zbd hf
  refine zq_callS (J' := jJ7_fill_53178) (as := [zr x2, zi ((-1) : Int32)]) (rest := []) (r1 := none) kw_112 km_J7_fill_53178 kt_72 dX3_init_73 rfl (by decide) rfl (c_J7_fill_53178 hg e_h14) ?_
  refine zr_iconst (v := (0 : Int32)) dX3_init_76 (by decide) ?_
  refine zq_istore_n (x := (0 : Int32)) (L' := [some (zr (some l0)), some (zr l1), some (zi l2), some (zi (0 : Int32)), none]) dX3_init_77 rfl (by decide) rfl ?_
  refine zr_forget 2 (L' := [some (zr (some l0)), some (zr l1), none, some (zi (0 : Int32)), none]) rfl ?_
  exact s_X3_init_78 hg N N l0 l1 (0 : Int32) h14 h' hf
theorem c_X3_init {g : zG} (hg : g.2.1.map (fun q => q.2) = zty) {N : Nat} {l0 : Nat} {l1 : Option Nat} {l2 : Int32} {h : zH} {h' : zH} (hf : f_X3_init N l0 l1 l2 h = some h') : zCa g jX3_init [zr (some l0), zr l1, zi l2] h none h' :=
  zCa.of hg (by decide +kernel) (by decide) (s_X3_init hg N l0 l1 l2 h h' hf)
theorem dX3_clubOn_0 : decode cX3_clubOn 0 = .ok (.iload_n 1, 1) := by decide +kernel
theorem dX3_clubOn_1 : decode cX3_clubOn 1 = .ok (.ifCond .lt 21, 3) := by decide +kernel
theorem dX3_clubOn_4 : decode cX3_clubOn 4 = .ok (.iload_n 1, 1) := by decide +kernel
theorem dX3_clubOn_5 : decode cX3_clubOn 5 = .ok (.aload_n 0, 1) := by decide +kernel
theorem dX3_clubOn_6 : decode cX3_clubOn 6 = .ok (.getfield 37, 3) := by decide +kernel
theorem dX3_clubOn_9 : decode cX3_clubOn 9 = .ok (.arraylength, 1) := by decide +kernel
theorem dX3_clubOn_10 : decode cX3_clubOn 10 = .ok (.if_icmp .ge 12, 3) := by decide +kernel
theorem dX3_clubOn_13 : decode cX3_clubOn 13 = .ok (.aload_n 0, 1) := by decide +kernel
theorem dX3_clubOn_14 : decode cX3_clubOn 14 = .ok (.getfield 37, 3) := by decide +kernel
theorem dX3_clubOn_17 : decode cX3_clubOn 17 = .ok (.iload_n 1, 1) := by decide +kernel
theorem dX3_clubOn_18 : decode cX3_clubOn 18 = .ok (.iaload, 1) := by decide +kernel
theorem dX3_clubOn_19 : decode cX3_clubOn 19 = .ok (.goto 4, 3) := by decide +kernel
theorem dX3_clubOn_22 : decode cX3_clubOn 22 = .ok (.iconst (-1), 1) := by decide +kernel
theorem dX3_clubOn_23 : decode cX3_clubOn 23 = .ok (.ireturn, 1) := by decide +kernel
def f_X3_clubOn (N : Nat) (l0 : Nat) (l1 : Int32) (h : zH) : Option Int32 := if l1 < 0 then some ((-1) : Int32) else (zgR h 3 (some l0) 5).bind fun x1 => (zlen h x1).bind fun x2 => if x2 ≤ l1 then some ((-1) : Int32) else (zgR h 3 (some l0) 5).bind fun x3 => (zld h 0 x3 l1).bind fun x4 => some x4
set_option maxHeartbeats 4000000 in
set_option maxRecDepth 100000 in
theorem s_X3_clubOn {g : zG} (hg : g.2.1.map (fun q => q.2) = zty) {h0 : zH} (N : Nat) (l0 : Nat) (l1 : Int32) (h : zH) (r : Int32) (hf : f_X3_clubOn N l0 l1 h = some r) : zR g jX3_clubOn h0 0 [some (zr (some l0)), some (zi l1)] [] h (some (zi r)) h := by
  unfold f_X3_clubOn at hf
  refine zr_iload_n (x := l1) dX3_clubOn_0 rfl rfl ?_
  by_cases hc1 : l1 < 0
  · rw [if_pos hc1] at hf
    refine zr_iflt_t (tgt := 22) dX3_clubOn_1 (by decide) hc1 ?_
    refine zr_iconst (v := ((-1) : Int32)) dX3_clubOn_22 (by decide) ?_
    cases hf
    exact zr_ret (some (zi ((-1) : Int32))) rfl dX3_clubOn_23
  · rw [if_neg hc1] at hf
    refine zr_iflt_f 22 dX3_clubOn_1 (by decide) hc1 ?_
    refine zr_iload_n (x := l1) dX3_clubOn_4 rfl rfl ?_
    refine zr_aload_n (v := .inl (some l0)) dX3_clubOn_5 rfl rfl ?_
    obtain ⟨x1, e_x1, hf⟩ := zbd hf
    refine zq_getR kg_73 dX3_clubOn_6 e_x1 ?_
    obtain ⟨x2, e_x2, hf⟩ := zbd hf
    refine zq_alen dX3_clubOn_9 e_x2 ?_
    by_cases hc2 : x2 ≤ l1
    · rw [if_pos hc2] at hf
      refine zr_icge_t (tgt := 22) dX3_clubOn_10 (by decide) hc2 ?_
      refine zr_iconst (v := ((-1) : Int32)) dX3_clubOn_22 (by decide) ?_
      cases hf
      exact zr_ret (some (zi ((-1) : Int32))) rfl dX3_clubOn_23
    · rw [if_neg hc2] at hf
      refine zr_icge_f 22 dX3_clubOn_10 (by decide) hc2 ?_
      refine zr_aload_n (v := .inl (some l0)) dX3_clubOn_13 rfl rfl ?_
      obtain ⟨x3, e_x3, hf⟩ := zbd hf
      refine zq_getR kg_73 dX3_clubOn_14 e_x3 ?_
      refine zr_iload_n (x := l1) dX3_clubOn_17 rfl rfl ?_
      obtain ⟨x4, e_x4, hf⟩ := zbd hf
      refine zq_iald dX3_clubOn_18 e_x4 ?_
      refine zr_goto (tgt := 23) dX3_clubOn_19 (by decide) ?_
      cases hf
      exact zr_ret (some (zi x4)) rfl dX3_clubOn_23
theorem c_X3_clubOn {g : zG} (hg : g.2.1.map (fun q => q.2) = zty) {N : Nat} {l0 : Nat} {l1 : Int32} {h : zH} {r : Int32} (hf : f_X3_clubOn N l0 l1 h = some r) : zCa g jX3_clubOn [zr (some l0), zi l1] h (some (zi r)) h :=
  zCa.of hg (by decide +kernel) (by decide) (s_X3_clubOn hg N l0 l1 h r hf)
theorem dX3_isParted_0 : decode cX3_isParted 0 = .ok (.aload_n 0, 1) := by decide +kernel
theorem dX3_isParted_1 : decode cX3_isParted 1 = .ok (.iload_n 2, 1) := by decide +kernel
theorem dX3_isParted_2 : decode cX3_isParted 2 = .ok (.iconst 1, 1) := by decide +kernel
theorem dX3_isParted_3 : decode cX3_isParted 3 = .ok (.ixor, 1) := by decide +kernel
theorem dX3_isParted_4 : decode cX3_isParted 4 = .ok (.invokevirtual 73, 3) := by decide +kernel
theorem dX3_isParted_7 : decode cX3_isParted 7 = .ok (.iload_n 1, 1) := by decide +kernel
theorem dX3_isParted_8 : decode cX3_isParted 8 = .ok (.if_icmp .eq 29, 3) := by decide +kernel
theorem dX3_isParted_11 : decode cX3_isParted 11 = .ok (.aload_n 0, 1) := by decide +kernel
theorem dX3_isParted_12 : decode cX3_isParted 12 = .ok (.iload_n 2, 1) := by decide +kernel
theorem dX3_isParted_13 : decode cX3_isParted 13 = .ok (.iconst 2, 1) := by decide +kernel
theorem dX3_isParted_14 : decode cX3_isParted 14 = .ok (.isub, 1) := by decide +kernel
theorem dX3_isParted_15 : decode cX3_isParted 15 = .ok (.invokevirtual 73, 3) := by decide +kernel
theorem dX3_isParted_18 : decode cX3_isParted 18 = .ok (.iload_n 1, 1) := by decide +kernel
theorem dX3_isParted_19 : decode cX3_isParted 19 = .ok (.if_icmp .eq 18, 3) := by decide +kernel
theorem dX3_isParted_22 : decode cX3_isParted 22 = .ok (.aload_n 0, 1) := by decide +kernel
theorem dX3_isParted_23 : decode cX3_isParted 23 = .ok (.iload_n 2, 1) := by decide +kernel
theorem dX3_isParted_24 : decode cX3_isParted 24 = .ok (.iconst 2, 1) := by decide +kernel
theorem dX3_isParted_25 : decode cX3_isParted 25 = .ok (.iadd, 1) := by decide +kernel
theorem dX3_isParted_26 : decode cX3_isParted 26 = .ok (.invokevirtual 73, 3) := by decide +kernel
theorem dX3_isParted_29 : decode cX3_isParted 29 = .ok (.iload_n 1, 1) := by decide +kernel
theorem dX3_isParted_30 : decode cX3_isParted 30 = .ok (.if_icmp .eq 7, 3) := by decide +kernel
theorem dX3_isParted_33 : decode cX3_isParted 33 = .ok (.iconst 1, 1) := by decide +kernel
theorem dX3_isParted_34 : decode cX3_isParted 34 = .ok (.goto 4, 3) := by decide +kernel
theorem dX3_isParted_37 : decode cX3_isParted 37 = .ok (.iconst 0, 1) := by decide +kernel
theorem dX3_isParted_38 : decode cX3_isParted 38 = .ok (.ireturn, 1) := by decide +kernel
def f_X3_isParted (N : Nat) (l0 : Nat) (l1 : Int32) (l2 : Int32) (h : zH) : Option Int32 := (zck h 3 (some l0)).bind fun q1 => (f_X3_clubOn N q1 (l2 ^^^ (1 : Int32)) h).bind fun x1 => if x1 = l1 then some (0 : Int32) else (zck h 3 (some l0)).bind fun q2 => (f_X3_clubOn N q2 (l2 - (2 : Int32)) h).bind fun x2 => if x2 = l1 then some (0 : Int32) else (zck h 3 (some l0)).bind fun q3 => (f_X3_clubOn N q3 (l2 + (2 : Int32)) h).bind fun x3 => if x3 = l1 then some (0 : Int32) else some (1 : Int32)
set_option maxHeartbeats 4000000 in
set_option maxRecDepth 100000 in
theorem s_X3_isParted {g : zG} (hg : g.2.1.map (fun q => q.2) = zty) {h0 : zH} (N : Nat) (l0 : Nat) (l1 : Int32) (l2 : Int32) (h : zH) (r : Int32) (hf : f_X3_isParted N l0 l1 l2 h = some r) : zR g jX3_isParted h0 0 [some (zr (some l0)), some (zi l1), some (zi l2)] [] h (some (zi r)) h := by
  unfold f_X3_isParted at hf
  refine zr_aload_n (v := .inl (some l0)) dX3_isParted_0 rfl rfl ?_
  refine zr_iload_n (x := l2) dX3_isParted_1 rfl rfl ?_
  refine zr_iconst (v := (1 : Int32)) dX3_isParted_2 (by decide) ?_
  refine zr_ixor dX3_isParted_3 ?_
  obtain ⟨q1, e_q1, hf⟩ := zbd hf
  obtain ⟨x1, e_x1, hf⟩ := zbd hf
  refine zq_callV (J' := jX3_clubOn) (as := [zi (l2 ^^^ (1 : Int32))]) (rest := []) (r1 := (some (zi x1))) (q := (RX3, TX3, 7)) kw_113 km_X3_clubOn kt_75 dX3_isParted_4 rfl (by decide) rfl rfl e_q1 rfl (c_X3_clubOn hg e_x1) ?_
  refine zr_iload_n (x := l1) dX3_isParted_7 rfl rfl ?_
  by_cases hc1 : x1 = l1
  · rw [if_pos hc1] at hf
    refine zr_iceq_t (tgt := 37) dX3_isParted_8 (by decide) hc1 ?_
    refine zr_iconst (v := (0 : Int32)) dX3_isParted_37 (by decide) ?_
    cases hf
    exact zr_ret (some (zi (0 : Int32))) rfl dX3_isParted_38
  · rw [if_neg hc1] at hf
    refine zr_iceq_f 37 dX3_isParted_8 (by decide) hc1 ?_
    refine zr_aload_n (v := .inl (some l0)) dX3_isParted_11 rfl rfl ?_
    refine zr_iload_n (x := l2) dX3_isParted_12 rfl rfl ?_
    refine zr_iconst (v := (2 : Int32)) dX3_isParted_13 (by decide) ?_
    refine zr_isub dX3_isParted_14 ?_
    obtain ⟨q2, e_q2, hf⟩ := zbd hf
    obtain ⟨x2, e_x2, hf⟩ := zbd hf
    refine zq_callV (J' := jX3_clubOn) (as := [zi (l2 - (2 : Int32))]) (rest := []) (r1 := (some (zi x2))) (q := (RX3, TX3, 7)) kw_113 km_X3_clubOn kt_75 dX3_isParted_15 rfl (by decide) rfl rfl e_q2 rfl (c_X3_clubOn hg e_x2) ?_
    refine zr_iload_n (x := l1) dX3_isParted_18 rfl rfl ?_
    by_cases hc2 : x2 = l1
    · rw [if_pos hc2] at hf
      refine zr_iceq_t (tgt := 37) dX3_isParted_19 (by decide) hc2 ?_
      refine zr_iconst (v := (0 : Int32)) dX3_isParted_37 (by decide) ?_
      cases hf
      exact zr_ret (some (zi (0 : Int32))) rfl dX3_isParted_38
    · rw [if_neg hc2] at hf
      refine zr_iceq_f 37 dX3_isParted_19 (by decide) hc2 ?_
      refine zr_aload_n (v := .inl (some l0)) dX3_isParted_22 rfl rfl ?_
      refine zr_iload_n (x := l2) dX3_isParted_23 rfl rfl ?_
      refine zr_iconst (v := (2 : Int32)) dX3_isParted_24 (by decide) ?_
      refine zr_iadd dX3_isParted_25 ?_
      obtain ⟨q3, e_q3, hf⟩ := zbd hf
      obtain ⟨x3, e_x3, hf⟩ := zbd hf
      refine zq_callV (J' := jX3_clubOn) (as := [zi (l2 + (2 : Int32))]) (rest := []) (r1 := (some (zi x3))) (q := (RX3, TX3, 7)) kw_113 km_X3_clubOn kt_75 dX3_isParted_26 rfl (by decide) rfl rfl e_q3 rfl (c_X3_clubOn hg e_x3) ?_
      refine zr_iload_n (x := l1) dX3_isParted_29 rfl rfl ?_
      by_cases hc3 : x3 = l1
      · rw [if_pos hc3] at hf
        refine zr_iceq_t (tgt := 37) dX3_isParted_30 (by decide) hc3 ?_
        refine zr_iconst (v := (0 : Int32)) dX3_isParted_37 (by decide) ?_
        cases hf
        exact zr_ret (some (zi (0 : Int32))) rfl dX3_isParted_38
      · rw [if_neg hc3] at hf
        refine zr_iceq_f 37 dX3_isParted_30 (by decide) hc3 ?_
        refine zr_iconst (v := (1 : Int32)) dX3_isParted_33 (by decide) ?_
        refine zr_goto (tgt := 38) dX3_isParted_34 (by decide) ?_
        cases hf
        exact zr_ret (some (zi (1 : Int32))) rfl dX3_isParted_38
theorem c_X3_isParted {g : zG} (hg : g.2.1.map (fun q => q.2) = zty) {N : Nat} {l0 : Nat} {l1 : Int32} {l2 : Int32} {h : zH} {r : Int32} (hf : f_X3_isParted N l0 l1 l2 h = some r) : zCa g jX3_isParted [zr (some l0), zi l1, zi l2] h (some (zi r)) h :=
  zCa.of hg (by decide +kernel) (by decide) (s_X3_isParted hg N l0 l1 l2 h r hf)
theorem dX3_nextPlace_0 : decode cX3_nextPlace 0 = .ok (.iload_n 2, 1) := by decide +kernel
theorem dX3_nextPlace_1 : decode cX3_nextPlace 1 = .ok (.istore_n 3, 1) := by decide +kernel
theorem dX3_nextPlace_2 : decode cX3_nextPlace 2 = .ok (.iload_n 3, 1) := by decide +kernel
theorem dX3_nextPlace_3 : decode cX3_nextPlace 3 = .ok (.aload_n 0, 1) := by decide +kernel
theorem dX3_nextPlace_4 : decode cX3_nextPlace 4 = .ok (.getfield 34, 3) := by decide +kernel
theorem dX3_nextPlace_7 : decode cX3_nextPlace 7 = .ok (.arraylength, 1) := by decide +kernel
theorem dX3_nextPlace_8 : decode cX3_nextPlace 8 = .ok (.if_icmp .ge 50, 3) := by decide +kernel
theorem dX3_nextPlace_11 : decode cX3_nextPlace 11 = .ok (.aload_n 0, 1) := by decide +kernel
theorem dX3_nextPlace_12 : decode cX3_nextPlace 12 = .ok (.getfield 34, 3) := by decide +kernel
theorem dX3_nextPlace_15 : decode cX3_nextPlace 15 = .ok (.iload_n 3, 1) := by decide +kernel
theorem dX3_nextPlace_16 : decode cX3_nextPlace 16 = .ok (.iaload, 1) := by decide +kernel
theorem dX3_nextPlace_17 : decode cX3_nextPlace 17 = .ok (.iconst (-1), 1) := by decide +kernel
theorem dX3_nextPlace_18 : decode cX3_nextPlace 18 = .ok (.if_icmp .ne 34, 3) := by decide +kernel
theorem dX3_nextPlace_21 : decode cX3_nextPlace 21 = .ok (.aload_n 0, 1) := by decide +kernel
theorem dX3_nextPlace_22 : decode cX3_nextPlace 22 = .ok (.dup, 1) := by decide +kernel
theorem dX3_nextPlace_23 : decode cX3_nextPlace 23 = .ok (.getfield 25, 3) := by decide +kernel
theorem dX3_nextPlace_26 : decode cX3_nextPlace 26 = .ok (.iconst 1, 1) := by decide +kernel
theorem dX3_nextPlace_27 : decode cX3_nextPlace 27 = .ok (.iadd, 1) := by decide +kernel
theorem dX3_nextPlace_28 : decode cX3_nextPlace 28 = .ok (.putfield 25, 3) := by decide +kernel
theorem dX3_nextPlace_31 : decode cX3_nextPlace 31 = .ok (.aload_n 0, 1) := by decide +kernel
theorem dX3_nextPlace_32 : decode cX3_nextPlace 32 = .ok (.getfield 25, 3) := by decide +kernel
theorem dX3_nextPlace_35 : decode cX3_nextPlace 35 = .ok (.sipush 20000, 3) := by decide +kernel
theorem dX3_nextPlace_38 : decode cX3_nextPlace 38 = .ok (.if_icmp .gt 12, 3) := by decide +kernel
theorem dX3_nextPlace_41 : decode cX3_nextPlace 41 = .ok (.aload_n 0, 1) := by decide +kernel
theorem dX3_nextPlace_42 : decode cX3_nextPlace 42 = .ok (.iload_n 1, 1) := by decide +kernel
theorem dX3_nextPlace_43 : decode cX3_nextPlace 43 = .ok (.iload_n 3, 1) := by decide +kernel
theorem dX3_nextPlace_44 : decode cX3_nextPlace 44 = .ok (.invokevirtual 69, 3) := by decide +kernel
theorem dX3_nextPlace_47 : decode cX3_nextPlace 47 = .ok (.ifCond .eq 5, 3) := by decide +kernel
theorem dX3_nextPlace_50 : decode cX3_nextPlace 50 = .ok (.iload_n 3, 1) := by decide +kernel
theorem dX3_nextPlace_51 : decode cX3_nextPlace 51 = .ok (.ireturn, 1) := by decide +kernel
theorem dX3_nextPlace_52 : decode cX3_nextPlace 52 = .ok (.iinc 3 1, 3) := by decide +kernel
theorem dX3_nextPlace_55 : decode cX3_nextPlace 55 = .ok (.goto (-53), 3) := by decide +kernel
theorem dX3_nextPlace_58 : decode cX3_nextPlace 58 = .ok (.aload_n 0, 1) := by decide +kernel
theorem dX3_nextPlace_59 : decode cX3_nextPlace 59 = .ok (.getfield 34, 3) := by decide +kernel
theorem dX3_nextPlace_62 : decode cX3_nextPlace 62 = .ok (.arraylength, 1) := by decide +kernel
theorem dX3_nextPlace_63 : decode cX3_nextPlace 63 = .ok (.ireturn, 1) := by decide +kernel
def f_X3_nextPlace_2 (N : Nat) : Nat → Nat → Int32 → Int32 → zH → Option (Int32 × zH)
  | 0, _, _, _, _ => none
  | n + 1, l0, l1, l3, h => (zgR h 3 (some l0) 4).bind fun x1 => (zlen h x1).bind fun x2 => if x2 ≤ l3 then (zgR h 3 (some l0) 4).bind fun x3 => (zlen h x3).bind fun x4 => some (x4, h) else (zgR h 3 (some l0) 4).bind fun x5 => (zld h 0 x5 l3).bind fun x6 => if x6 = ((-1) : Int32) then (zgI h 3 (some l0) 6).bind fun x7 => (zpu h 3 (some l0) 6 (zi (x7 + (1 : Int32)))).bind fun h1 => (zgI h1 3 (some l0) 6).bind fun x8 => if (20000 : Int32) < x8 then some (l3, h1) else (zck h1 3 (some l0)).bind fun q1 => (f_X3_isParted N q1 l1 l3 h1).bind fun x9 => if x9 = 0 then f_X3_nextPlace_2 N n l0 l1 (l3 + (1 : Int32)) h1 else some (l3, h1) else f_X3_nextPlace_2 N n l0 l1 (l3 + (1 : Int32)) h
set_option maxHeartbeats 4000000 in
set_option maxRecDepth 100000 in
theorem s_X3_nextPlace_2 {g : zG} (hg : g.2.1.map (fun q => q.2) = zty) {h0 : zH} (N : Nat) : ∀ (n : Nat) (l0 : Nat) (l1 : Int32) (l3 : Int32) (h : zH) (r : Int32) (h' : zH), f_X3_nextPlace_2 N n l0 l1 l3 h = some (r, h') → zR g jX3_nextPlace h0 2 [some (zr (some l0)), some (zi l1), none, some (zi l3)] [] h (some (zi r)) h' := by
  intro n
  induction n with
  | zero =>
    intro l0 l1 l3 h r h' hf
    cases hf
  | succ n ih =>
    intro l0 l1 l3 h r h' hf
    rw [f_X3_nextPlace_2] at hf
    refine zr_iload_n (x := l3) dX3_nextPlace_2 rfl rfl ?_
    refine zr_aload_n (v := .inl (some l0)) dX3_nextPlace_3 rfl rfl ?_
    obtain ⟨x1, e_x1, hf⟩ := zbd hf
    refine zq_getR kg_71 dX3_nextPlace_4 e_x1 ?_
    obtain ⟨x2, e_x2, hf⟩ := zbd hf
    refine zq_alen dX3_nextPlace_7 e_x2 ?_
    by_cases hc1 : x2 ≤ l3
    · rw [if_pos hc1] at hf
      refine zr_icge_t (tgt := 58) dX3_nextPlace_8 (by decide) hc1 ?_
      refine zr_aload_n (v := .inl (some l0)) dX3_nextPlace_58 rfl rfl ?_
      obtain ⟨x3, e_x3, hf⟩ := zbd hf
      refine zq_getR kg_71 dX3_nextPlace_59 e_x3 ?_
      obtain ⟨x4, e_x4, hf⟩ := zbd hf
      refine zq_alen dX3_nextPlace_62 e_x4 ?_
      cases hf
      exact zr_ret (some (zi x4)) rfl dX3_nextPlace_63
    · rw [if_neg hc1] at hf
      refine zr_icge_f 58 dX3_nextPlace_8 (by decide) hc1 ?_
      refine zr_aload_n (v := .inl (some l0)) dX3_nextPlace_11 rfl rfl ?_
      obtain ⟨x5, e_x5, hf⟩ := zbd hf
      refine zq_getR kg_71 dX3_nextPlace_12 e_x5 ?_
      refine zr_iload_n (x := l3) dX3_nextPlace_15 rfl rfl ?_
      obtain ⟨x6, e_x6, hf⟩ := zbd hf
      refine zq_iald dX3_nextPlace_16 e_x6 ?_
      refine zr_iconst (v := ((-1) : Int32)) dX3_nextPlace_17 (by decide) ?_
      by_cases hc2 : x6 = ((-1) : Int32)
      · rw [if_pos hc2] at hf
        refine zr_icne_f 52 dX3_nextPlace_18 (by decide) hc2 ?_
        refine zr_aload_n (v := .inl (some l0)) dX3_nextPlace_21 rfl rfl ?_
        refine zr_dup dX3_nextPlace_22 ?_
        obtain ⟨x7, e_x7, hf⟩ := zbd hf
        refine zq_getI kg_76 dX3_nextPlace_23 e_x7 ?_
        refine zr_iconst (v := (1 : Int32)) dX3_nextPlace_26 (by decide) ?_
        refine zr_iadd dX3_nextPlace_27 ?_
        obtain ⟨h1, e_h1, hf⟩ := zbd hf
        refine zq_put (kp_77 _) dX3_nextPlace_28 (zn_i _) e_h1 ?_
        refine zr_aload_n (v := .inl (some l0)) dX3_nextPlace_31 rfl rfl ?_
        obtain ⟨x8, e_x8, hf⟩ := zbd hf
        refine zq_getI kg_76 dX3_nextPlace_32 e_x8 ?_
        refine zr_sipush (v := (20000 : Int32)) dX3_nextPlace_35 (by decide) ?_
        by_cases hc3 : (20000 : Int32) < x8
        · rw [if_pos hc3] at hf
          refine zr_icgt_t (tgt := 50) dX3_nextPlace_38 (by decide) hc3 ?_
          refine zr_iload_n (x := l3) dX3_nextPlace_50 rfl rfl ?_
          cases hf
          exact zr_ret (some (zi l3)) rfl dX3_nextPlace_51
        · rw [if_neg hc3] at hf
          refine zr_icgt_f 50 dX3_nextPlace_38 (by decide) hc3 ?_
          refine zr_aload_n (v := .inl (some l0)) dX3_nextPlace_41 rfl rfl ?_
          refine zr_iload_n (x := l1) dX3_nextPlace_42 rfl rfl ?_
          refine zr_iload_n (x := l3) dX3_nextPlace_43 rfl rfl ?_
          obtain ⟨q1, e_q1, hf⟩ := zbd hf
          obtain ⟨x9, e_x9, hf⟩ := zbd hf
          refine zq_callV (J' := jX3_isParted) (as := [zi l1, zi l3]) (rest := []) (r1 := (some (zi x9))) (q := (RX3, TX3, 7)) kw_118 km_X3_isParted kt_79 dX3_nextPlace_44 rfl (by decide) rfl rfl e_q1 rfl (c_X3_isParted hg e_x9) ?_
          by_cases hc4 : x9 = 0
          · rw [if_pos hc4] at hf
            refine zr_ifeq_t (tgt := 52) dX3_nextPlace_47 (by decide) hc4 ?_
            refine zq_iinc (x := l3) (y := (1 : Int32)) (L' := [some (zr (some l0)), some (zi l1), none, some (zi (l3 + (1 : Int32)))]) dX3_nextPlace_52 rfl (by decide) (by decide) rfl ?_
            refine zr_goto (tgt := 2) dX3_nextPlace_55 (by decide) ?_
            exact ih l0 l1 (l3 + (1 : Int32)) h1 r h' hf
          · rw [if_neg hc4] at hf
            refine zr_ifeq_f 52 dX3_nextPlace_47 (by decide) hc4 ?_
            refine zr_iload_n (x := l3) dX3_nextPlace_50 rfl rfl ?_
            cases hf
            exact zr_ret (some (zi l3)) rfl dX3_nextPlace_51
      · rw [if_neg hc2] at hf
        refine zr_icne_t (tgt := 52) dX3_nextPlace_18 (by decide) hc2 ?_
        refine zq_iinc (x := l3) (y := (1 : Int32)) (L' := [some (zr (some l0)), some (zi l1), none, some (zi (l3 + (1 : Int32)))]) dX3_nextPlace_52 rfl (by decide) (by decide) rfl ?_
        refine zr_goto (tgt := 2) dX3_nextPlace_55 (by decide) ?_
        exact ih l0 l1 (l3 + (1 : Int32)) h r h' hf
def f_X3_nextPlace (N : Nat) (l0 : Nat) (l1 : Int32) (l2 : Int32) (h : zH) : Option (Int32 × zH) := f_X3_nextPlace_2 N N l0 l1 l2 h
set_option maxHeartbeats 4000000 in
set_option maxRecDepth 100000 in
theorem s_X3_nextPlace {g : zG} (hg : g.2.1.map (fun q => q.2) = zty) {h0 : zH} (N : Nat) (l0 : Nat) (l1 : Int32) (l2 : Int32) (h : zH) (r : Int32) (h' : zH) (hf : f_X3_nextPlace N l0 l1 l2 h = some (r, h')) : zR g jX3_nextPlace h0 0 [some (zr (some l0)), some (zi l1), some (zi l2), none] [] h (some (zi r)) h' := by
  unfold f_X3_nextPlace at hf
  refine zr_iload_n (x := l2) dX3_nextPlace_0 rfl rfl ?_
  refine zq_istore_n (x := l2) (L' := [some (zr (some l0)), some (zi l1), some (zi l2), some (zi l2)]) dX3_nextPlace_1 rfl (by decide) rfl ?_
  refine zr_forget 2 (L' := [some (zr (some l0)), some (zi l1), none, some (zi l2)]) rfl ?_
  exact s_X3_nextPlace_2 hg N N l0 l1 l2 h r h' hf
theorem c_X3_nextPlace {g : zG} (hg : g.2.1.map (fun q => q.2) = zty) {N : Nat} {l0 : Nat} {l1 : Int32} {l2 : Int32} {h : zH} {r : Int32} {h' : zH} (hf : f_X3_nextPlace N l0 l1 l2 h = some (r, h')) : zCa g jX3_nextPlace [zr (some l0), zi l1, zi l2] h (some (zi r)) h' :=
  zCa.of hg (by decide +kernel) (by decide) (s_X3_nextPlace hg N l0 l1 l2 h r h' hf)
theorem dX3_put_0 : decode cX3_put 0 = .ok (.aload_n 0, 1) := by decide +kernel
theorem dX3_put_1 : decode cX3_put 1 = .ok (.getfield 18, 3) := by decide +kernel
theorem dX3_put_4 : decode cX3_put 4 = .ok (.iload_n 1, 1) := by decide +kernel
theorem dX3_put_5 : decode cX3_put 5 = .ok (.iload_n 2, 1) := by decide +kernel
theorem dX3_put_6 : decode cX3_put 6 = .ok (.iastore, 1) := by decide +kernel
theorem dX3_put_7 : decode cX3_put 7 = .ok (.aload_n 0, 1) := by decide +kernel
theorem dX3_put_8 : decode cX3_put 8 = .ok (.getfield 34, 3) := by decide +kernel
theorem dX3_put_11 : decode cX3_put 11 = .ok (.iload_n 2, 1) := by decide +kernel
theorem dX3_put_12 : decode cX3_put 12 = .ok (.aload_n 0, 1) := by decide +kernel
theorem dX3_put_13 : decode cX3_put 13 = .ok (.getfield 9, 3) := by decide +kernel
theorem dX3_put_16 : decode cX3_put 16 = .ok (.iload_n 1, 1) := by decide +kernel
theorem dX3_put_17 : decode cX3_put 17 = .ok (.iaload, 1) := by decide +kernel
theorem dX3_put_18 : decode cX3_put 18 = .ok (.iastore, 1) := by decide +kernel
theorem dX3_put_19 : decode cX3_put 19 = .ok (.aload_n 0, 1) := by decide +kernel
theorem dX3_put_20 : decode cX3_put 20 = .ok (.getfield 37, 3) := by decide +kernel
theorem dX3_put_23 : decode cX3_put 23 = .ok (.iload_n 2, 1) := by decide +kernel
theorem dX3_put_24 : decode cX3_put 24 = .ok (.aload_n 0, 1) := by decide +kernel
theorem dX3_put_25 : decode cX3_put 25 = .ok (.getfield 15, 3) := by decide +kernel
theorem dX3_put_28 : decode cX3_put 28 = .ok (.iload_n 1, 1) := by decide +kernel
theorem dX3_put_29 : decode cX3_put 29 = .ok (.iaload, 1) := by decide +kernel
theorem dX3_put_30 : decode cX3_put 30 = .ok (.iastore, 1) := by decide +kernel
theorem dX3_put_31 : decode cX3_put 31 = .ok (.return_, 1) := by decide +kernel
def f_X3_put (N : Nat) (l0 : Nat) (l1 : Int32) (l2 : Int32) (h : zH) : Option zH := (zgR h 3 (some l0) 2).bind fun x1 => (zst h 0 x1 l1 l2).bind fun h1 => (zgR h1 3 (some l0) 4).bind fun x2 => (zgR h1 3 (some l0) 0).bind fun x3 => (zld h1 0 x3 l1).bind fun x4 => (zst h1 0 x2 l2 x4).bind fun h2 => (zgR h2 3 (some l0) 5).bind fun x5 => (zgR h2 3 (some l0) 1).bind fun x6 => (zld h2 0 x6 l1).bind fun x7 => (zst h2 0 x5 l2 x7).bind fun h3 => some h3
set_option maxHeartbeats 4000000 in
set_option maxRecDepth 100000 in
theorem s_X3_put {g : zG} (hg : g.2.1.map (fun q => q.2) = zty) {h0 : zH} (N : Nat) (l0 : Nat) (l1 : Int32) (l2 : Int32) (h : zH) (h' : zH) (hf : f_X3_put N l0 l1 l2 h = some h') : zR g jX3_put h0 0 [some (zr (some l0)), some (zi l1), some (zi l2)] [] h none h' := by
  unfold f_X3_put at hf
  refine zr_aload_n (v := .inl (some l0)) dX3_put_0 rfl rfl ?_
  obtain ⟨x1, e_x1, hf⟩ := zbd hf
  refine zq_getR kg_80 dX3_put_1 e_x1 ?_
  refine zr_iload_n (x := l1) dX3_put_4 rfl rfl ?_
  refine zr_iload_n (x := l2) dX3_put_5 rfl rfl ?_
  obtain ⟨h1, e_h1, hf⟩ := zbd hf
  refine zq_iast dX3_put_6 e_h1 ?_
  refine zr_aload_n (v := .inl (some l0)) dX3_put_7 rfl rfl ?_
  obtain ⟨x2, e_x2, hf⟩ := zbd hf
  refine zq_getR kg_71 dX3_put_8 e_x2 ?_
  refine zr_iload_n (x := l2) dX3_put_11 rfl rfl ?_
  refine zr_aload_n (v := .inl (some l0)) dX3_put_12 rfl rfl ?_
  obtain ⟨x3, e_x3, hf⟩ := zbd hf
  refine zq_getR kg_60 dX3_put_13 e_x3 ?_
  refine zr_iload_n (x := l1) dX3_put_16 rfl rfl ?_
  obtain ⟨x4, e_x4, hf⟩ := zbd hf
  refine zq_iald dX3_put_17 e_x4 ?_
  obtain ⟨h2, e_h2, hf⟩ := zbd hf
  refine zq_iast dX3_put_18 e_h2 ?_
  refine zr_aload_n (v := .inl (some l0)) dX3_put_19 rfl rfl ?_
  obtain ⟨x5, e_x5, hf⟩ := zbd hf
  refine zq_getR kg_73 dX3_put_20 e_x5 ?_
  refine zr_iload_n (x := l2) dX3_put_23 rfl rfl ?_
  refine zr_aload_n (v := .inl (some l0)) dX3_put_24 rfl rfl ?_
  obtain ⟨x6, e_x6, hf⟩ := zbd hf
  refine zq_getR kg_62 dX3_put_25 e_x6 ?_
  refine zr_iload_n (x := l1) dX3_put_28 rfl rfl ?_
  obtain ⟨x7, e_x7, hf⟩ := zbd hf
  refine zq_iald dX3_put_29 e_x7 ?_
  obtain ⟨h3, e_h3, hf⟩ := zbd hf
  refine zq_iast dX3_put_30 e_h3 ?_
  cases hf
  exact zr_ret none trivial dX3_put_31
theorem c_X3_put {g : zG} (hg : g.2.1.map (fun q => q.2) = zty) {N : Nat} {l0 : Nat} {l1 : Int32} {l2 : Int32} {h : zH} {h' : zH} (hf : f_X3_put N l0 l1 l2 h = some h') : zCa g jX3_put [zr (some l0), zi l1, zi l2] h none h' :=
  zCa.of hg (by decide +kernel) (by decide) (s_X3_put hg N l0 l1 l2 h h' hf)
theorem dX3_lift_0 : decode cX3_lift 0 = .ok (.aload_n 0, 1) := by decide +kernel
theorem dX3_lift_1 : decode cX3_lift 1 = .ok (.getfield 34, 3) := by decide +kernel
theorem dX3_lift_4 : decode cX3_lift 4 = .ok (.iload_n 1, 1) := by decide +kernel
theorem dX3_lift_5 : decode cX3_lift 5 = .ok (.iconst (-1), 1) := by decide +kernel
theorem dX3_lift_6 : decode cX3_lift 6 = .ok (.iastore, 1) := by decide +kernel
theorem dX3_lift_7 : decode cX3_lift 7 = .ok (.aload_n 0, 1) := by decide +kernel
theorem dX3_lift_8 : decode cX3_lift 8 = .ok (.getfield 37, 3) := by decide +kernel
theorem dX3_lift_11 : decode cX3_lift 11 = .ok (.iload_n 1, 1) := by decide +kernel
theorem dX3_lift_12 : decode cX3_lift 12 = .ok (.iconst (-1), 1) := by decide +kernel
theorem dX3_lift_13 : decode cX3_lift 13 = .ok (.iastore, 1) := by decide +kernel
theorem dX3_lift_14 : decode cX3_lift 14 = .ok (.return_, 1) := by decide +kernel
def f_X3_lift (N : Nat) (l0 : Nat) (l1 : Int32) (h : zH) : Option zH := (zgR h 3 (some l0) 4).bind fun x1 => (zst h 0 x1 l1 ((-1) : Int32)).bind fun h1 => (zgR h1 3 (some l0) 5).bind fun x2 => (zst h1 0 x2 l1 ((-1) : Int32)).bind fun h2 => some h2
set_option maxHeartbeats 4000000 in
set_option maxRecDepth 100000 in
theorem s_X3_lift {g : zG} (hg : g.2.1.map (fun q => q.2) = zty) {h0 : zH} (N : Nat) (l0 : Nat) (l1 : Int32) (h : zH) (h' : zH) (hf : f_X3_lift N l0 l1 h = some h') : zR g jX3_lift h0 0 [some (zr (some l0)), some (zi l1)] [] h none h' := by
  unfold f_X3_lift at hf
  refine zr_aload_n (v := .inl (some l0)) dX3_lift_0 rfl rfl ?_
  obtain ⟨x1, e_x1, hf⟩ := zbd hf
  refine zq_getR kg_71 dX3_lift_1 e_x1 ?_
  refine zr_iload_n (x := l1) dX3_lift_4 rfl rfl ?_
  refine zr_iconst (v := ((-1) : Int32)) dX3_lift_5 (by decide) ?_
  obtain ⟨h1, e_h1, hf⟩ := zbd hf
  refine zq_iast dX3_lift_6 e_h1 ?_
  refine zr_aload_n (v := .inl (some l0)) dX3_lift_7 rfl rfl ?_
  obtain ⟨x2, e_x2, hf⟩ := zbd hf
  refine zq_getR kg_73 dX3_lift_8 e_x2 ?_
  refine zr_iload_n (x := l1) dX3_lift_11 rfl rfl ?_
  refine zr_iconst (v := ((-1) : Int32)) dX3_lift_12 (by decide) ?_
  obtain ⟨h2, e_h2, hf⟩ := zbd hf
  refine zq_iast dX3_lift_13 e_h2 ?_
  cases hf
  exact zr_ret none trivial dX3_lift_14
theorem c_X3_lift {g : zG} (hg : g.2.1.map (fun q => q.2) = zty) {N : Nat} {l0 : Nat} {l1 : Int32} {h : zH} {h' : zH} (hf : f_X3_lift N l0 l1 h = some h') : zCa g jX3_lift [zr (some l0), zi l1] h none h' :=
  zCa.of hg (by decide +kernel) (by decide) (s_X3_lift hg N l0 l1 h h' hf)
theorem dX3_search_0 : decode cX3_search 0 = .ok (.iconst 0, 1) := by decide +kernel
theorem dX3_search_1 : decode cX3_search 1 = .ok (.istore_n 1, 1) := by decide +kernel
theorem dX3_search_2 : decode cX3_search 2 = .ok (.iconst 0, 1) := by decide +kernel
theorem dX3_search_3 : decode cX3_search 3 = .ok (.istore_n 2, 1) := by decide +kernel
theorem dX3_search_4 : decode cX3_search 4 = .ok (.iconst 0, 1) := by decide +kernel
theorem dX3_search_5 : decode cX3_search 5 = .ok (.istore_n 3, 1) := by decide +kernel
theorem dX3_search_6 : decode cX3_search 6 = .ok (.iload_n 3, 1) := by decide +kernel
theorem dX3_search_7 : decode cX3_search 7 = .ok (.ldc 57, 2) := by decide +kernel
theorem dX3_search_9 : decode cX3_search 9 = .ok (.if_icmp .ge 96, 3) := by decide +kernel
theorem dX3_search_12 : decode cX3_search 12 = .ok (.iload_n 1, 1) := by decide +kernel
theorem dX3_search_13 : decode cX3_search 13 = .ok (.aload_n 0, 1) := by decide +kernel
theorem dX3_search_14 : decode cX3_search 14 = .ok (.getfield 21, 3) := by decide +kernel
theorem dX3_search_17 : decode cX3_search 17 = .ok (.if_icmp .ge 88, 3) := by decide +kernel
theorem dX3_search_20 : decode cX3_search 20 = .ok (.aload_n 0, 1) := by decide +kernel
theorem dX3_search_21 : decode cX3_search 21 = .ok (.aload_n 0, 1) := by decide +kernel
theorem dX3_search_22 : decode cX3_search 22 = .ok (.getfield 15, 3) := by decide +kernel
theorem dX3_search_25 : decode cX3_search 25 = .ok (.iload_n 1, 1) := by decide +kernel
theorem dX3_search_26 : decode cX3_search 26 = .ok (.iaload, 1) := by decide +kernel
theorem dX3_search_27 : decode cX3_search 27 = .ok (.iload_n 2, 1) := by decide +kernel
theorem dX3_search_28 : decode cX3_search 28 = .ok (.invokevirtual 58, 3) := by decide +kernel
theorem dX3_search_31 : decode cX3_search 31 = .ok (.istore 4, 2) := by decide +kernel
theorem dX3_search_33 : decode cX3_search 33 = .ok (.aload_n 0, 1) := by decide +kernel
theorem dX3_search_34 : decode cX3_search 34 = .ok (.getfield 25, 3) := by decide +kernel
theorem dX3_search_37 : decode cX3_search 37 = .ok (.sipush 20000, 3) := by decide +kernel
theorem dX3_search_40 : decode cX3_search 40 = .ok (.if_icmp .le 6, 3) := by decide +kernel
theorem dX3_search_43 : decode cX3_search 43 = .ok (.bipush (-2), 2) := by decide +kernel
theorem dX3_search_45 : decode cX3_search 45 = .ok (.ireturn, 1) := by decide +kernel
theorem dX3_search_46 : decode cX3_search 46 = .ok (.iload 4, 2) := by decide +kernel
theorem dX3_search_48 : decode cX3_search 48 = .ok (.aload_n 0, 1) := by decide +kernel
theorem dX3_search_49 : decode cX3_search 49 = .ok (.getfield 34, 3) := by decide +kernel
theorem dX3_search_52 : decode cX3_search 52 = .ok (.arraylength, 1) := by decide +kernel
theorem dX3_search_53 : decode cX3_search 53 = .ok (.if_icmp .ge 18, 3) := by decide +kernel
theorem dX3_search_56 : decode cX3_search 56 = .ok (.aload_n 0, 1) := by decide +kernel
theorem dX3_search_57 : decode cX3_search 57 = .ok (.iload_n 1, 1) := by decide +kernel
theorem dX3_search_58 : decode cX3_search 58 = .ok (.iload 4, 2) := by decide +kernel
theorem dX3_search_60 : decode cX3_search 60 = .ok (.invokevirtual 61, 3) := by decide +kernel
theorem dX3_search_63 : decode cX3_search 63 = .ok (.iinc 1 1, 3) := by decide +kernel
theorem dX3_search_66 : decode cX3_search 66 = .ok (.iconst 0, 1) := by decide +kernel
theorem dX3_search_67 : decode cX3_search 67 = .ok (.istore_n 2, 1) := by decide +kernel
theorem dX3_search_68 : decode cX3_search 68 = .ok (.goto 31, 3) := by decide +kernel
theorem dX3_search_71 : decode cX3_search 71 = .ok (.iload_n 1, 1) := by decide +kernel
theorem dX3_search_72 : decode cX3_search 72 = .ok (.ifCond .ne 5, 3) := by decide +kernel
theorem dX3_search_75 : decode cX3_search 75 = .ok (.iconst (-1), 1) := by decide +kernel
theorem dX3_search_76 : decode cX3_search 76 = .ok (.ireturn, 1) := by decide +kernel
theorem dX3_search_77 : decode cX3_search 77 = .ok (.iinc 1 (-1), 3) := by decide +kernel
theorem dX3_search_80 : decode cX3_search 80 = .ok (.aload_n 0, 1) := by decide +kernel
theorem dX3_search_81 : decode cX3_search 81 = .ok (.getfield 18, 3) := by decide +kernel
theorem dX3_search_84 : decode cX3_search 84 = .ok (.iload_n 1, 1) := by decide +kernel
theorem dX3_search_85 : decode cX3_search 85 = .ok (.iaload, 1) := by decide +kernel
theorem dX3_search_86 : decode cX3_search 86 = .ok (.iconst 1, 1) := by decide +kernel
theorem dX3_search_87 : decode cX3_search 87 = .ok (.iadd, 1) := by decide +kernel
theorem dX3_search_88 : decode cX3_search 88 = .ok (.istore_n 2, 1) := by decide +kernel
theorem dX3_search_89 : decode cX3_search 89 = .ok (.aload_n 0, 1) := by decide +kernel
theorem dX3_search_90 : decode cX3_search 90 = .ok (.aload_n 0, 1) := by decide +kernel
theorem dX3_search_91 : decode cX3_search 91 = .ok (.getfield 18, 3) := by decide +kernel
theorem dX3_search_94 : decode cX3_search 94 = .ok (.iload_n 1, 1) := by decide +kernel
theorem dX3_search_95 : decode cX3_search 95 = .ok (.iaload, 1) := by decide +kernel
theorem dX3_search_96 : decode cX3_search 96 = .ok (.invokevirtual 65, 3) := by decide +kernel
theorem dX3_search_99 : decode cX3_search 99 = .ok (.iinc 3 1, 3) := by decide +kernel
theorem dX3_search_102 : decode cX3_search 102 = .ok (.goto (-96), 3) := by decide +kernel
theorem dX3_search_105 : decode cX3_search 105 = .ok (.iload_n 1, 1) := by decide +kernel
theorem dX3_search_106 : decode cX3_search 106 = .ok (.aload_n 0, 1) := by decide +kernel
theorem dX3_search_107 : decode cX3_search 107 = .ok (.getfield 21, 3) := by decide +kernel
theorem dX3_search_110 : decode cX3_search 110 = .ok (.if_icmp .ge 8, 3) := by decide +kernel
theorem dX3_search_113 : decode cX3_search 113 = .ok (.bipush (-2), 2) := by decide +kernel
theorem dX3_search_115 : decode cX3_search 115 = .ok (.goto 7, 3) := by decide +kernel
theorem dX3_search_118 : decode cX3_search 118 = .ok (.aload_n 0, 1) := by decide +kernel
theorem dX3_search_119 : decode cX3_search 119 = .ok (.getfield 21, 3) := by decide +kernel
theorem dX3_search_122 : decode cX3_search 122 = .ok (.ireturn, 1) := by decide +kernel
def f_X3_search_105 (N : Nat) (l0 : Nat) (l1 : Int32) (h : zH) : Option (Int32 × zH) := (zgI h 3 (some l0) 3).bind fun x1 => if x1 ≤ l1 then (zgI h 3 (some l0) 3).bind fun x2 => some (x2, h) else some (((-2) : Int32), h)
set_option maxHeartbeats 4000000 in
set_option maxRecDepth 100000 in
theorem s_X3_search_105 {g : zG} (hg : g.2.1.map (fun q => q.2) = zty) {h0 : zH} (N : Nat) (l0 : Nat) (l1 : Int32) (h : zH) (r : Int32) (h' : zH) (hf : f_X3_search_105 N l0 l1 h = some (r, h')) : zR g jX3_search h0 105 [some (zr (some l0)), some (zi l1), none, none, none] [] h (some (zi r)) h' := by
  unfold f_X3_search_105 at hf
  refine zr_iload_n (x := l1) dX3_search_105 rfl rfl ?_
  refine zr_aload_n (v := .inl (some l0)) dX3_search_106 rfl rfl ?_
  obtain ⟨x1, e_x1, hf⟩ := zbd hf
  refine zq_getI kg_61 dX3_search_107 e_x1 ?_
  by_cases hc1 : x1 ≤ l1
  · rw [if_pos hc1] at hf
    refine zr_icge_t (tgt := 118) dX3_search_110 (by decide) hc1 ?_
    refine zr_aload_n (v := .inl (some l0)) dX3_search_118 rfl rfl ?_
    obtain ⟨x2, e_x2, hf⟩ := zbd hf
    refine zq_getI kg_61 dX3_search_119 e_x2 ?_
    cases hf
    exact zr_ret (some (zi x2)) rfl dX3_search_122
  · rw [if_neg hc1] at hf
    refine zr_icge_f 118 dX3_search_110 (by decide) hc1 ?_
    refine zr_bipush (v := ((-2) : Int32)) dX3_search_113 (by decide) ?_
    refine zr_goto (tgt := 122) dX3_search_115 (by decide) ?_
    cases hf
    exact zr_ret (some (zi ((-2) : Int32))) rfl dX3_search_122
def f_X3_search_6 (N : Nat) : Nat → Nat → Int32 → Int32 → Int32 → zH → Option (Int32 × zH)
  | 0, _, _, _, _, _ => none
  | n + 1, l0, l1, l2, l3, h => if (1000000 : Int32) ≤ l3 then f_X3_search_105 N l0 l1 h else (zgI h 3 (some l0) 3).bind fun x1 => if x1 ≤ l1 then f_X3_search_105 N l0 l1 h else (zgR h 3 (some l0) 1).bind fun x2 => (zld h 0 x2 l1).bind fun x3 => (zck h 3 (some l0)).bind fun q1 => (f_X3_nextPlace N q1 x3 l2 h).bind fun (x4, h1) => (zgI h1 3 (some l0) 6).bind fun x5 => if x5 ≤ (20000 : Int32) then (zgR h1 3 (some l0) 4).bind fun x6 => (zlen h1 x6).bind fun x7 => if x7 ≤ x4 then if l1 = 0 then some (((-1) : Int32), h1) else (zgR h1 3 (some l0) 2).bind fun x8 => (zld h1 0 x8 (l1 + ((-1) : Int32))).bind fun x9 => (zgR h1 3 (some l0) 2).bind fun x10 => (zld h1 0 x10 (l1 + ((-1) : Int32))).bind fun x11 => (zck h1 3 (some l0)).bind fun q2 => (f_X3_lift N q2 x11 h1).bind fun h2 => f_X3_search_6 N n l0 (l1 + ((-1) : Int32)) (x9 + (1 : Int32)) (l3 + (1 : Int32)) h2 else (zck h1 3 (some l0)).bind fun q3 => (f_X3_put N q3 l1 x4 h1).bind fun h3 => f_X3_search_6 N n l0 (l1 + (1 : Int32)) (0 : Int32) (l3 + (1 : Int32)) h3 else some (((-2) : Int32), h1)
set_option maxHeartbeats 4000000 in
set_option maxRecDepth 100000 in
theorem s_X3_search_6 {g : zG} (hg : g.2.1.map (fun q => q.2) = zty) {h0 : zH} (N : Nat) : ∀ (n : Nat) (l0 : Nat) (l1 : Int32) (l2 : Int32) (l3 : Int32) (h : zH) (r : Int32) (h' : zH), f_X3_search_6 N n l0 l1 l2 l3 h = some (r, h') → zR g jX3_search h0 6 [some (zr (some l0)), some (zi l1), some (zi l2), some (zi l3), none] [] h (some (zi r)) h' := by
  intro n
  induction n with
  | zero =>
    intro l0 l1 l2 l3 h r h' hf
    cases hf
  | succ n ih =>
    intro l0 l1 l2 l3 h r h' hf
    rw [f_X3_search_6] at hf
    refine zr_iload_n (x := l3) dX3_search_6 rfl rfl ?_
    refine zr_ldc (v := (1000000 : Int32)) kw_122 dX3_search_7 ?_
    by_cases hc1 : (1000000 : Int32) ≤ l3
    · rw [if_pos hc1] at hf
      refine zr_icge_t (tgt := 105) dX3_search_9 (by decide) hc1 ?_
      refine zr_forget 2 (L' := [some (zr (some l0)), some (zi l1), none, some (zi l3), none]) rfl ?_
      refine zr_forget 3 (L' := [some (zr (some l0)), some (zi l1), none, none, none]) rfl ?_
      exact s_X3_search_105 hg N l0 l1 h r h' hf
    · rw [if_neg hc1] at hf
      refine zr_icge_f 105 dX3_search_9 (by decide) hc1 ?_
      refine zr_iload_n (x := l1) dX3_search_12 rfl rfl ?_
      refine zr_aload_n (v := .inl (some l0)) dX3_search_13 rfl rfl ?_
      obtain ⟨x1, e_x1, hf⟩ := zbd hf
      refine zq_getI kg_61 dX3_search_14 e_x1 ?_
      by_cases hc2 : x1 ≤ l1
      · rw [if_pos hc2] at hf
        refine zr_icge_t (tgt := 105) dX3_search_17 (by decide) hc2 ?_
        refine zr_forget 2 (L' := [some (zr (some l0)), some (zi l1), none, some (zi l3), none]) rfl ?_
        refine zr_forget 3 (L' := [some (zr (some l0)), some (zi l1), none, none, none]) rfl ?_
        exact s_X3_search_105 hg N l0 l1 h r h' hf
      · rw [if_neg hc2] at hf
        refine zr_icge_f 105 dX3_search_17 (by decide) hc2 ?_
        refine zr_aload_n (v := .inl (some l0)) dX3_search_20 rfl rfl ?_
        refine zr_aload_n (v := .inl (some l0)) dX3_search_21 rfl rfl ?_
        obtain ⟨x2, e_x2, hf⟩ := zbd hf
        refine zq_getR kg_62 dX3_search_22 e_x2 ?_
        refine zr_iload_n (x := l1) dX3_search_25 rfl rfl ?_
        obtain ⟨x3, e_x3, hf⟩ := zbd hf
        refine zq_iald dX3_search_26 e_x3 ?_
        refine zr_iload_n (x := l2) dX3_search_27 rfl rfl ?_
        obtain ⟨q1, e_q1, hf⟩ := zbd hf
        obtain ⟨⟨x4, h1⟩, e_x4, hf⟩ := zbd hf
        refine zq_callV (J' := jX3_nextPlace) (as := [zi x3, zi l2]) (rest := []) (r1 := (some (zi x4))) (q := (RX3, TX3, 7)) kw_123 km_X3_nextPlace kt_82 dX3_search_28 rfl (by decide) rfl rfl e_q1 rfl (c_X3_nextPlace hg e_x4) ?_
        refine zq_istore (x := x4) (L' := [some (zr (some l0)), some (zi l1), some (zi l2), some (zi l3), some (zi x4)]) dX3_search_31 (by decide) rfl ?_
        refine zr_aload_n (v := .inl (some l0)) dX3_search_33 rfl rfl ?_
        obtain ⟨x5, e_x5, hf⟩ := zbd hf
        refine zq_getI kg_76 dX3_search_34 e_x5 ?_
        refine zr_sipush (v := (20000 : Int32)) dX3_search_37 (by decide) ?_
        by_cases hc3 : x5 ≤ (20000 : Int32)
        · rw [if_pos hc3] at hf
          refine zr_icle_t (tgt := 46) dX3_search_40 (by decide) hc3 ?_
          refine zr_iload (x := x4) dX3_search_46 rfl ?_
          refine zr_aload_n (v := .inl (some l0)) dX3_search_48 rfl rfl ?_
          obtain ⟨x6, e_x6, hf⟩ := zbd hf
          refine zq_getR kg_71 dX3_search_49 e_x6 ?_
          obtain ⟨x7, e_x7, hf⟩ := zbd hf
          refine zq_alen dX3_search_52 e_x7 ?_
          by_cases hc4 : x7 ≤ x4
          · rw [if_pos hc4] at hf
            refine zr_icge_t (tgt := 71) dX3_search_53 (by decide) hc4 ?_
            refine zr_iload_n (x := l1) dX3_search_71 rfl rfl ?_
            by_cases hc5 : l1 = 0
            · rw [if_pos hc5] at hf
              refine zr_ifne_f 77 dX3_search_72 (by decide) hc5 ?_
              refine zr_iconst (v := ((-1) : Int32)) dX3_search_75 (by decide) ?_
              cases hf
              exact zr_ret (some (zi ((-1) : Int32))) rfl dX3_search_76
            · rw [if_neg hc5] at hf
              refine zr_ifne_t (tgt := 77) dX3_search_72 (by decide) hc5 ?_
              refine zq_iinc (x := l1) (y := ((-1) : Int32)) (L' := [some (zr (some l0)), some (zi (l1 + ((-1) : Int32))), some (zi l2), some (zi l3), some (zi x4)]) dX3_search_77 rfl (by decide) (by decide) rfl ?_
              refine zr_aload_n (v := .inl (some l0)) dX3_search_80 rfl rfl ?_
              obtain ⟨x8, e_x8, hf⟩ := zbd hf
              refine zq_getR kg_80 dX3_search_81 e_x8 ?_
              refine zr_iload_n (x := (l1 + ((-1) : Int32))) dX3_search_84 rfl rfl ?_
              obtain ⟨x9, e_x9, hf⟩ := zbd hf
              refine zq_iald dX3_search_85 e_x9 ?_
              refine zr_iconst (v := (1 : Int32)) dX3_search_86 (by decide) ?_
              refine zr_iadd dX3_search_87 ?_
              refine zq_istore_n (x := (x9 + (1 : Int32))) (L' := [some (zr (some l0)), some (zi (l1 + ((-1) : Int32))), some (zi (x9 + (1 : Int32))), some (zi l3), some (zi x4)]) dX3_search_88 rfl (by decide) rfl ?_
              refine zr_aload_n (v := .inl (some l0)) dX3_search_89 rfl rfl ?_
              refine zr_aload_n (v := .inl (some l0)) dX3_search_90 rfl rfl ?_
              obtain ⟨x10, e_x10, hf⟩ := zbd hf
              refine zq_getR kg_80 dX3_search_91 e_x10 ?_
              refine zr_iload_n (x := (l1 + ((-1) : Int32))) dX3_search_94 rfl rfl ?_
              obtain ⟨x11, e_x11, hf⟩ := zbd hf
              refine zq_iald dX3_search_95 e_x11 ?_
              obtain ⟨q2, e_q2, hf⟩ := zbd hf
              obtain ⟨h2, e_h2, hf⟩ := zbd hf
              refine zq_callV (J' := jX3_lift) (as := [zi x11]) (rest := []) (r1 := none) (q := (RX3, TX3, 7)) kw_127 km_X3_lift kt_84 dX3_search_96 rfl (by decide) rfl rfl e_q2 rfl (c_X3_lift hg e_h2) ?_
              refine zq_iinc (x := l3) (y := (1 : Int32)) (L' := [some (zr (some l0)), some (zi (l1 + ((-1) : Int32))), some (zi (x9 + (1 : Int32))), some (zi (l3 + (1 : Int32))), some (zi x4)]) dX3_search_99 rfl (by decide) (by decide) rfl ?_
              refine zr_goto (tgt := 6) dX3_search_102 (by decide) ?_
              refine zr_forget 4 (L' := [some (zr (some l0)), some (zi (l1 + ((-1) : Int32))), some (zi (x9 + (1 : Int32))), some (zi (l3 + (1 : Int32))), none]) rfl ?_
              exact ih l0 (l1 + ((-1) : Int32)) (x9 + (1 : Int32)) (l3 + (1 : Int32)) h2 r h' hf
          · rw [if_neg hc4] at hf
            refine zr_icge_f 71 dX3_search_53 (by decide) hc4 ?_
            refine zr_aload_n (v := .inl (some l0)) dX3_search_56 rfl rfl ?_
            refine zr_iload_n (x := l1) dX3_search_57 rfl rfl ?_
            refine zr_iload (x := x4) dX3_search_58 rfl ?_
            obtain ⟨q3, e_q3, hf⟩ := zbd hf
            obtain ⟨h3, e_h3, hf⟩ := zbd hf
            refine zq_callV (J' := jX3_put) (as := [zi l1, zi x4]) (rest := []) (r1 := none) (q := (RX3, TX3, 7)) kw_131 km_X3_put kt_86 dX3_search_60 rfl (by decide) rfl rfl e_q3 rfl (c_X3_put hg e_h3) ?_
            refine zq_iinc (x := l1) (y := (1 : Int32)) (L' := [some (zr (some l0)), some (zi (l1 + (1 : Int32))), some (zi l2), some (zi l3), some (zi x4)]) dX3_search_63 rfl (by decide) (by decide) rfl ?_
            refine zr_iconst (v := (0 : Int32)) dX3_search_66 (by decide) ?_
            refine zq_istore_n (x := (0 : Int32)) (L' := [some (zr (some l0)), some (zi (l1 + (1 : Int32))), some (zi (0 : Int32)), some (zi l3), some (zi x4)]) dX3_search_67 rfl (by decide) rfl ?_
            refine zr_goto (tgt := 99) dX3_search_68 (by decide) ?_
            refine zq_iinc (x := l3) (y := (1 : Int32)) (L' := [some (zr (some l0)), some (zi (l1 + (1 : Int32))), some (zi (0 : Int32)), some (zi (l3 + (1 : Int32))), some (zi x4)]) dX3_search_99 rfl (by decide) (by decide) rfl ?_
            refine zr_goto (tgt := 6) dX3_search_102 (by decide) ?_
            refine zr_forget 4 (L' := [some (zr (some l0)), some (zi (l1 + (1 : Int32))), some (zi (0 : Int32)), some (zi (l3 + (1 : Int32))), none]) rfl ?_
            exact ih l0 (l1 + (1 : Int32)) (0 : Int32) (l3 + (1 : Int32)) h3 r h' hf
        · rw [if_neg hc3] at hf
          refine zr_icle_f 46 dX3_search_40 (by decide) hc3 ?_
          refine zr_bipush (v := ((-2) : Int32)) dX3_search_43 (by decide) ?_
          cases hf
          exact zr_ret (some (zi ((-2) : Int32))) rfl dX3_search_45
def f_X3_search (N : Nat) (l0 : Nat) (h : zH) : Option (Int32 × zH) := f_X3_search_6 N N l0 (0 : Int32) (0 : Int32) (0 : Int32) h
set_option maxHeartbeats 4000000 in
set_option maxRecDepth 100000 in
theorem s_X3_search {g : zG} (hg : g.2.1.map (fun q => q.2) = zty) {h0 : zH} (N : Nat) (l0 : Nat) (h : zH) (r : Int32) (h' : zH) (hf : f_X3_search N l0 h = some (r, h')) : zR g jX3_search h0 0 [some (zr (some l0)), none, none, none, none] [] h (some (zi r)) h' := by
  unfold f_X3_search at hf
  refine zr_iconst (v := (0 : Int32)) dX3_search_0 (by decide) ?_
  refine zq_istore_n (x := (0 : Int32)) (L' := [some (zr (some l0)), some (zi (0 : Int32)), none, none, none]) dX3_search_1 rfl (by decide) rfl ?_
  refine zr_iconst (v := (0 : Int32)) dX3_search_2 (by decide) ?_
  refine zq_istore_n (x := (0 : Int32)) (L' := [some (zr (some l0)), some (zi (0 : Int32)), some (zi (0 : Int32)), none, none]) dX3_search_3 rfl (by decide) rfl ?_
  refine zr_iconst (v := (0 : Int32)) dX3_search_4 (by decide) ?_
  refine zq_istore_n (x := (0 : Int32)) (L' := [some (zr (some l0)), some (zi (0 : Int32)), some (zi (0 : Int32)), some (zi (0 : Int32)), none]) dX3_search_5 rfl (by decide) rfl ?_
  exact s_X3_search_6 hg N N l0 (0 : Int32) (0 : Int32) (0 : Int32) h r h' hf
theorem c_X3_search {g : zG} (hg : g.2.1.map (fun q => q.2) = zty) {N : Nat} {l0 : Nat} {h : zH} {r : Int32} {h' : zH} (hf : f_X3_search N l0 h = some (r, h')) : zCa g jX3_search [zr (some l0)] h (some (zi r)) h' :=
  zCa.of hg (by decide +kernel) (by decide) (s_X3_search hg N l0 h r h' hf)
theorem dX4_init_0 : decode cX4_init 0 = .ok (.aload_n 0, 1) := by decide +kernel
theorem dX4_init_1 : decode cX4_init 1 = .ok (.invokespecial 3, 3) := by decide +kernel
theorem dX4_init_4 : decode cX4_init 4 = .ok (.aload_n 0, 1) := by decide +kernel
theorem dX4_init_5 : decode cX4_init 5 = .ok (.bipush 6, 2) := by decide +kernel
theorem dX4_init_7 : decode cX4_init 7 = .ok (.newarray .int, 2) := by decide +kernel
theorem dX4_init_9 : decode cX4_init 9 = .ok (.putfield 11, 3) := by decide +kernel
theorem dX4_init_12 : decode cX4_init 12 = .ok (.aload_n 0, 1) := by decide +kernel
theorem dX4_init_13 : decode cX4_init 13 = .ok (.bipush 6, 2) := by decide +kernel
theorem dX4_init_15 : decode cX4_init 15 = .ok (.newarray .int, 2) := by decide +kernel
theorem dX4_init_17 : decode cX4_init 17 = .ok (.putfield 15, 3) := by decide +kernel
theorem dX4_init_20 : decode cX4_init 20 = .ok (.aload_n 0, 1) := by decide +kernel
theorem dX4_init_21 : decode cX4_init 21 = .ok (.bipush 6, 2) := by decide +kernel
theorem dX4_init_23 : decode cX4_init 23 = .ok (.newarray .int, 2) := by decide +kernel
theorem dX4_init_25 : decode cX4_init 25 = .ok (.putfield 18, 3) := by decide +kernel
theorem dX4_init_28 : decode cX4_init 28 = .ok (.aload_n 0, 1) := by decide +kernel
theorem dX4_init_29 : decode cX4_init 29 = .ok (.iconst 0, 1) := by decide +kernel
theorem dX4_init_30 : decode cX4_init 30 = .ok (.putfield 21, 3) := by decide +kernel
theorem dX4_init_33 : decode cX4_init 33 = .ok (.aload_n 0, 1) := by decide +kernel
theorem dX4_init_34 : decode cX4_init 34 = .ok (.bipush 6, 2) := by decide +kernel
theorem dX4_init_36 : decode cX4_init 36 = .ok (.newarray .int, 2) := by decide +kernel
theorem dX4_init_38 : decode cX4_init 38 = .ok (.putfield 25, 3) := by decide +kernel
theorem dX4_init_41 : decode cX4_init 41 = .ok (.return_, 1) := by decide +kernel
def f_X4_init (N : Nat) (l0 : Nat) (h : zH) : Option zH := zna h 0 (6 : Int32) fun a1 h1 => (zpu h1 4 (some l0) 0 (zr (some a1))).bind fun h2 => zna h2 0 (6 : Int32) fun a2 h3 => (zpu h3 4 (some l0) 1 (zr (some a2))).bind fun h4 => zna h4 0 (6 : Int32) fun a3 h5 => (zpu h5 4 (some l0) 2 (zr (some a3))).bind fun h6 => (zpu h6 4 (some l0) 3 (zi (0 : Int32))).bind fun h7 => zna h7 0 (6 : Int32) fun a4 h8 => (zpu h8 4 (some l0) 4 (zr (some a4))).bind fun h9 => some h9
set_option maxHeartbeats 4000000 in
set_option maxRecDepth 100000 in
theorem s_X4_init {g : zG} (hg : g.2.1.map (fun q => q.2) = zty) {h0 : zH} (N : Nat) (l0 : Nat) (h : zH) (h' : zH) (hf : f_X4_init N l0 h = some h') : zR g jX4_init h0 0 [some (zr (some l0))] [] h none h' := by
  unfold f_X4_init at hf
  refine zr_aload_n (v := .inl (some l0)) dX4_init_0 rfl rfl ?_
  refine zr_objInit kw_135 kw_1 kw_2 (by decide) dX4_init_1 ?_
  refine zr_aload_n (v := .inl (some l0)) dX4_init_4 rfl rfl ?_
  refine zr_bipush (v := (6 : Int32)) dX4_init_5 (by decide) ?_
  obtain ⟨a1, h1, e_a1, hf⟩ := zna_spec hf
  refine zq_newa (t := 0) kw_14 rfl (fun _ _ => rfl) (by decide) dX4_init_7 e_a1 ?_
  obtain ⟨h2, e_h2, hf⟩ := zbd hf
  refine zq_put kp_87 dX4_init_9 (zn_a _ _) e_h2 ?_
  refine zr_aload_n (v := .inl (some l0)) dX4_init_12 rfl rfl ?_
  refine zr_bipush (v := (6 : Int32)) dX4_init_13 (by decide) ?_
  obtain ⟨a2, h3, e_a2, hf⟩ := zna_spec hf
  refine zq_newa (t := 0) kw_14 rfl (fun _ _ => rfl) (by decide) dX4_init_15 e_a2 ?_
  obtain ⟨h4, e_h4, hf⟩ := zbd hf
  refine zq_put kp_88 dX4_init_17 (zn_a _ _) e_h4 ?_
  refine zr_aload_n (v := .inl (some l0)) dX4_init_20 rfl rfl ?_
  refine zr_bipush (v := (6 : Int32)) dX4_init_21 (by decide) ?_
  obtain ⟨a3, h5, e_a3, hf⟩ := zna_spec hf
  refine zq_newa (t := 0) kw_14 rfl (fun _ _ => rfl) (by decide) dX4_init_23 e_a3 ?_
  obtain ⟨h6, e_h6, hf⟩ := zbd hf
  refine zq_put kp_89 dX4_init_25 (zn_a _ _) e_h6 ?_
  refine zr_aload_n (v := .inl (some l0)) dX4_init_28 rfl rfl ?_
  refine zr_iconst (v := (0 : Int32)) dX4_init_29 (by decide) ?_
  obtain ⟨h7, e_h7, hf⟩ := zbd hf
  refine zq_put (kp_90 _) dX4_init_30 (zn_i _) e_h7 ?_
  refine zr_aload_n (v := .inl (some l0)) dX4_init_33 rfl rfl ?_
  refine zr_bipush (v := (6 : Int32)) dX4_init_34 (by decide) ?_
  obtain ⟨a4, h8, e_a4, hf⟩ := zna_spec hf
  refine zq_newa (t := 0) kw_14 rfl (fun _ _ => rfl) (by decide) dX4_init_36 e_a4 ?_
  obtain ⟨h9, e_h9, hf⟩ := zbd hf
  refine zq_put kp_91 dX4_init_38 (zn_a _ _) e_h9 ?_
  cases hf
  exact zr_ret none trivial dX4_init_41
theorem c_X4_init {g : zG} (hg : g.2.1.map (fun q => q.2) = zty) {N : Nat} {l0 : Nat} {h : zH} {h' : zH} (hf : f_X4_init N l0 h = some h') : zCa g jX4_init [zr (some l0)] h none h' :=
  zCa.of hg (by decide +kernel) (by decide) (s_X4_init hg N l0 h h' hf)
theorem dX11_isOnField_0 : decode cX11_isOnField 0 = .ok (.iload_n 0, 1) := by decide +kernel
theorem dX11_isOnField_1 : decode cX11_isOnField 1 = .ok (.sipush (-20000), 3) := by decide +kernel
theorem dX11_isOnField_4 : decode cX11_isOnField 4 = .ok (.if_icmp .lt 28, 3) := by decide +kernel
theorem dX11_isOnField_7 : decode cX11_isOnField 7 = .ok (.iload_n 0, 1) := by decide +kernel
theorem dX11_isOnField_8 : decode cX11_isOnField 8 = .ok (.sipush 20000, 3) := by decide +kernel
theorem dX11_isOnField_11 : decode cX11_isOnField 11 = .ok (.if_icmp .gt 21, 3) := by decide +kernel
theorem dX11_isOnField_14 : decode cX11_isOnField 14 = .ok (.iload_n 1, 1) := by decide +kernel
theorem dX11_isOnField_15 : decode cX11_isOnField 15 = .ok (.sipush (-20000), 3) := by decide +kernel
theorem dX11_isOnField_18 : decode cX11_isOnField 18 = .ok (.if_icmp .lt 14, 3) := by decide +kernel
theorem dX11_isOnField_21 : decode cX11_isOnField 21 = .ok (.iload_n 1, 1) := by decide +kernel
theorem dX11_isOnField_22 : decode cX11_isOnField 22 = .ok (.sipush 20000, 3) := by decide +kernel
theorem dX11_isOnField_25 : decode cX11_isOnField 25 = .ok (.if_icmp .gt 7, 3) := by decide +kernel
theorem dX11_isOnField_28 : decode cX11_isOnField 28 = .ok (.iconst 1, 1) := by decide +kernel
theorem dX11_isOnField_29 : decode cX11_isOnField 29 = .ok (.goto 4, 3) := by decide +kernel
theorem dX11_isOnField_32 : decode cX11_isOnField 32 = .ok (.iconst 0, 1) := by decide +kernel
theorem dX11_isOnField_33 : decode cX11_isOnField 33 = .ok (.ireturn, 1) := by decide +kernel
def f_X11_isOnField (N : Nat) (l0 : Int32) (l1 : Int32) (h : zH) : Option Int32 := if l0 < ((-20000) : Int32) then some (0 : Int32) else if (20000 : Int32) < l0 then some (0 : Int32) else if l1 < ((-20000) : Int32) then some (0 : Int32) else if (20000 : Int32) < l1 then some (0 : Int32) else some (1 : Int32)
set_option maxHeartbeats 4000000 in
set_option maxRecDepth 100000 in
theorem s_X11_isOnField {g : zG} (hg : g.2.1.map (fun q => q.2) = zty) {h0 : zH} (N : Nat) (l0 : Int32) (l1 : Int32) (h : zH) (r : Int32) (hf : f_X11_isOnField N l0 l1 h = some r) : zR g jX11_isOnField h0 0 [some (zi l0), some (zi l1)] [] h (some (zi r)) h := by
  unfold f_X11_isOnField at hf
  refine zr_iload_n (x := l0) dX11_isOnField_0 rfl rfl ?_
  refine zr_sipush (v := ((-20000) : Int32)) dX11_isOnField_1 (by decide) ?_
  by_cases hc1 : l0 < ((-20000) : Int32)
  · rw [if_pos hc1] at hf
    refine zr_iclt_t (tgt := 32) dX11_isOnField_4 (by decide) hc1 ?_
    refine zr_iconst (v := (0 : Int32)) dX11_isOnField_32 (by decide) ?_
    cases hf
    exact zr_ret (some (zi (0 : Int32))) rfl dX11_isOnField_33
  · rw [if_neg hc1] at hf
    refine zr_iclt_f 32 dX11_isOnField_4 (by decide) hc1 ?_
    refine zr_iload_n (x := l0) dX11_isOnField_7 rfl rfl ?_
    refine zr_sipush (v := (20000 : Int32)) dX11_isOnField_8 (by decide) ?_
    by_cases hc2 : (20000 : Int32) < l0
    · rw [if_pos hc2] at hf
      refine zr_icgt_t (tgt := 32) dX11_isOnField_11 (by decide) hc2 ?_
      refine zr_iconst (v := (0 : Int32)) dX11_isOnField_32 (by decide) ?_
      cases hf
      exact zr_ret (some (zi (0 : Int32))) rfl dX11_isOnField_33
    · rw [if_neg hc2] at hf
      refine zr_icgt_f 32 dX11_isOnField_11 (by decide) hc2 ?_
      refine zr_iload_n (x := l1) dX11_isOnField_14 rfl rfl ?_
      refine zr_sipush (v := ((-20000) : Int32)) dX11_isOnField_15 (by decide) ?_
      by_cases hc3 : l1 < ((-20000) : Int32)
      · rw [if_pos hc3] at hf
        refine zr_iclt_t (tgt := 32) dX11_isOnField_18 (by decide) hc3 ?_
        refine zr_iconst (v := (0 : Int32)) dX11_isOnField_32 (by decide) ?_
        cases hf
        exact zr_ret (some (zi (0 : Int32))) rfl dX11_isOnField_33
      · rw [if_neg hc3] at hf
        refine zr_iclt_f 32 dX11_isOnField_18 (by decide) hc3 ?_
        refine zr_iload_n (x := l1) dX11_isOnField_21 rfl rfl ?_
        refine zr_sipush (v := (20000 : Int32)) dX11_isOnField_22 (by decide) ?_
        by_cases hc4 : (20000 : Int32) < l1
        · rw [if_pos hc4] at hf
          refine zr_icgt_t (tgt := 32) dX11_isOnField_25 (by decide) hc4 ?_
          refine zr_iconst (v := (0 : Int32)) dX11_isOnField_32 (by decide) ?_
          cases hf
          exact zr_ret (some (zi (0 : Int32))) rfl dX11_isOnField_33
        · rw [if_neg hc4] at hf
          refine zr_icgt_f 32 dX11_isOnField_25 (by decide) hc4 ?_
          refine zr_iconst (v := (1 : Int32)) dX11_isOnField_28 (by decide) ?_
          refine zr_goto (tgt := 33) dX11_isOnField_29 (by decide) ?_
          cases hf
          exact zr_ret (some (zi (1 : Int32))) rfl dX11_isOnField_33
theorem c_X11_isOnField {g : zG} (hg : g.2.1.map (fun q => q.2) = zty) {N : Nat} {l0 : Int32} {l1 : Int32} {h : zH} {r : Int32} (hf : f_X11_isOnField N l0 l1 h = some r) : zCa g jX11_isOnField [zi l0, zi l1] h (some (zi r)) h :=
  zCa.of hg (by decide +kernel) (by decide) (s_X11_isOnField hg N l0 l1 h r hf)
theorem dX4_canBe_0 : decode cX4_canBe 0 = .ok (.iload_n 0, 1) := by decide +kernel
theorem dX4_canBe_1 : decode cX4_canBe 1 = .ok (.tableswitch 59 0 4 #[35, 41, 41, 41, 43], 35) := by decide +kernel
theorem dX4_canBe_36 : decode cX4_canBe 36 = .ok (.iload_n 1, 1) := by decide +kernel
theorem dX4_canBe_37 : decode cX4_canBe 37 = .ok (.iload_n 2, 1) := by decide +kernel
theorem dX4_canBe_38 : decode cX4_canBe 38 = .ok (.invokestatic 32, 3) := by decide +kernel
theorem dX4_canBe_41 : decode cX4_canBe 41 = .ok (.ireturn, 1) := by decide +kernel
theorem dX4_canBe_42 : decode cX4_canBe 42 = .ok (.iconst 1, 1) := by decide +kernel
theorem dX4_canBe_43 : decode cX4_canBe 43 = .ok (.ireturn, 1) := by decide +kernel
theorem dX4_canBe_44 : decode cX4_canBe 44 = .ok (.iload_n 1, 1) := by decide +kernel
theorem dX4_canBe_45 : decode cX4_canBe 45 = .ok (.ifCond .lt 13, 3) := by decide +kernel
theorem dX4_canBe_48 : decode cX4_canBe 48 = .ok (.iload_n 1, 1) := by decide +kernel
theorem dX4_canBe_49 : decode cX4_canBe 49 = .ok (.bipush 6, 2) := by decide +kernel
theorem dX4_canBe_51 : decode cX4_canBe 51 = .ok (.if_icmp .ge 7, 3) := by decide +kernel
theorem dX4_canBe_54 : decode cX4_canBe 54 = .ok (.iconst 1, 1) := by decide +kernel
theorem dX4_canBe_55 : decode cX4_canBe 55 = .ok (.goto 4, 3) := by decide +kernel
theorem dX4_canBe_58 : decode cX4_canBe 58 = .ok (.iconst 0, 1) := by decide +kernel
theorem dX4_canBe_59 : decode cX4_canBe 59 = .ok (.ireturn, 1) := by decide +kernel
theorem dX4_canBe_60 : decode cX4_canBe 60 = .ok (.iconst 0, 1) := by decide +kernel
theorem dX4_canBe_61 : decode cX4_canBe 61 = .ok (.ireturn, 1) := by decide +kernel
def f_X4_canBe (N : Nat) (l0 : Int32) (l1 : Int32) (l2 : Int32) (h : zH) : Option Int32 := if l0 = (0 : Int32) then (f_X11_isOnField N l1 l2 h).bind fun x1 => if x1 = 0 ∨ x1 = 1 then some x1 else none else if l0 = (1 : Int32) then some (1 : Int32) else if l0 = (2 : Int32) then some (1 : Int32) else if l0 = (3 : Int32) then some (1 : Int32) else if l0 = (4 : Int32) then if l1 < 0 then some (0 : Int32) else if (6 : Int32) ≤ l1 then some (0 : Int32) else some (1 : Int32) else some (0 : Int32)
set_option maxHeartbeats 4000000 in
set_option maxRecDepth 100000 in
theorem s_X4_canBe {g : zG} (hg : g.2.1.map (fun q => q.2) = zty) {h0 : zH} (N : Nat) (l0 : Int32) (l1 : Int32) (l2 : Int32) (h : zH) (r : Int32) (hf : f_X4_canBe N l0 l1 l2 h = some r) : zR g jX4_canBe h0 0 [some (zi l0), some (zi l1), some (zi l2)] [] h (some (zi r)) h := by
  unfold f_X4_canBe at hf
  refine zr_iload_n (x := l0) dX4_canBe_0 rfl rfl ?_
  by_cases hc1 : l0 = (0 : Int32)
  · rw [if_pos hc1] at hf
    refine zr_tabIn (off := 35) (tgt := 36) dX4_canBe_1 (by rw [hc1]; decide) (by rw [hc1]; rfl) (by decide) ?_
    refine zr_iload_n (x := l1) dX4_canBe_36 rfl rfl ?_
    refine zr_iload_n (x := l2) dX4_canBe_37 rfl rfl ?_
    obtain ⟨x1, e_x1, hf⟩ := zbd hf
    refine zq_callSN (J' := jX11_isOnField) (as := [zi l1, zi l2]) (rest := []) (r1 := (some (zi x1))) kw_141 km_X11_isOnField kt_93 dX4_canBe_38 rfl (by decide) rfl (c_X11_isOnField hg e_x1) ?_
    by_cases hc2 : x1 = 0 ∨ x1 = 1
    · rw [if_pos hc2] at hf
      cases hf
      exact zr_ret (some (zi x1)) (zok_b hc2) dX4_canBe_41
    · rw [if_neg hc2] at hf
      cases hf
  · rw [if_neg hc1] at hf
    by_cases hc3 : l0 = (1 : Int32)
    · rw [if_pos hc3] at hf
      refine zr_tabIn (off := 41) (tgt := 42) dX4_canBe_1 (by rw [hc3]; decide) (by rw [hc3]; rfl) (by decide) ?_
      refine zr_iconst (v := (1 : Int32)) dX4_canBe_42 (by decide) ?_
      cases hf
      exact zr_ret (some (zi (1 : Int32))) rfl dX4_canBe_43
    · rw [if_neg hc3] at hf
      by_cases hc4 : l0 = (2 : Int32)
      · rw [if_pos hc4] at hf
        refine zr_tabIn (off := 41) (tgt := 42) dX4_canBe_1 (by rw [hc4]; decide) (by rw [hc4]; rfl) (by decide) ?_
        refine zr_iconst (v := (1 : Int32)) dX4_canBe_42 (by decide) ?_
        cases hf
        exact zr_ret (some (zi (1 : Int32))) rfl dX4_canBe_43
      · rw [if_neg hc4] at hf
        by_cases hc5 : l0 = (3 : Int32)
        · rw [if_pos hc5] at hf
          refine zr_tabIn (off := 41) (tgt := 42) dX4_canBe_1 (by rw [hc5]; decide) (by rw [hc5]; rfl) (by decide) ?_
          refine zr_iconst (v := (1 : Int32)) dX4_canBe_42 (by decide) ?_
          cases hf
          exact zr_ret (some (zi (1 : Int32))) rfl dX4_canBe_43
        · rw [if_neg hc5] at hf
          by_cases hc6 : l0 = (4 : Int32)
          · rw [if_pos hc6] at hf
            refine zr_tabIn (off := 43) (tgt := 44) dX4_canBe_1 (by rw [hc6]; decide) (by rw [hc6]; rfl) (by decide) ?_
            refine zr_iload_n (x := l1) dX4_canBe_44 rfl rfl ?_
            by_cases hc7 : l1 < 0
            · rw [if_pos hc7] at hf
              refine zr_iflt_t (tgt := 58) dX4_canBe_45 (by decide) hc7 ?_
              refine zr_iconst (v := (0 : Int32)) dX4_canBe_58 (by decide) ?_
              cases hf
              exact zr_ret (some (zi (0 : Int32))) rfl dX4_canBe_59
            · rw [if_neg hc7] at hf
              refine zr_iflt_f 58 dX4_canBe_45 (by decide) hc7 ?_
              refine zr_iload_n (x := l1) dX4_canBe_48 rfl rfl ?_
              refine zr_bipush (v := (6 : Int32)) dX4_canBe_49 (by decide) ?_
              by_cases hc8 : (6 : Int32) ≤ l1
              · rw [if_pos hc8] at hf
                refine zr_icge_t (tgt := 58) dX4_canBe_51 (by decide) hc8 ?_
                refine zr_iconst (v := (0 : Int32)) dX4_canBe_58 (by decide) ?_
                cases hf
                exact zr_ret (some (zi (0 : Int32))) rfl dX4_canBe_59
              · rw [if_neg hc8] at hf
                refine zr_icge_f 58 dX4_canBe_51 (by decide) hc8 ?_
                refine zr_iconst (v := (1 : Int32)) dX4_canBe_54 (by decide) ?_
                refine zr_goto (tgt := 59) dX4_canBe_55 (by decide) ?_
                cases hf
                exact zr_ret (some (zi (1 : Int32))) rfl dX4_canBe_59
          · rw [if_neg hc6] at hf
            refine zr_tabOut (tgt := 60) dX4_canBe_1 (fun q => by have n0 := zne (n := 0) hc1 (by decide); have n1 := zne (n := 1) hc3 (by decide); have n2 := zne (n := 2) hc4 (by decide); have n3 := zne (n := 3) hc5 (by decide); have n4 := zne (n := 4) hc6 (by decide); omega) (by decide) ?_
            refine zr_iconst (v := (0 : Int32)) dX4_canBe_60 (by decide) ?_
            cases hf
            exact zr_ret (some (zi (0 : Int32))) rfl dX4_canBe_61
theorem c_X4_canBe {g : zG} (hg : g.2.1.map (fun q => q.2) = zty) {N : Nat} {l0 : Int32} {l1 : Int32} {l2 : Int32} {h : zH} {r : Int32} (hf : f_X4_canBe N l0 l1 l2 h = some r) : zCa g jX4_canBe [zi l0, zi l1, zi l2] h (some (zi r)) h :=
  zCa.of hg (by decide +kernel) (by decide) (s_X4_canBe hg N l0 l1 l2 h r hf)
theorem dX4_add_0 : decode cX4_add 0 = .ok (.aload_n 0, 1) := by decide +kernel
theorem dX4_add_1 : decode cX4_add 1 = .ok (.getfield 21, 3) := by decide +kernel
theorem dX4_add_4 : decode cX4_add 4 = .ok (.bipush 6, 2) := by decide +kernel
theorem dX4_add_6 : decode cX4_add 6 = .ok (.if_icmp .ge 12, 3) := by decide +kernel
theorem dX4_add_9 : decode cX4_add 9 = .ok (.iload_n 1, 1) := by decide +kernel
theorem dX4_add_10 : decode cX4_add 10 = .ok (.iload_n 2, 1) := by decide +kernel
theorem dX4_add_11 : decode cX4_add 11 = .ok (.iload_n 3, 1) := by decide +kernel
theorem dX4_add_12 : decode cX4_add 12 = .ok (.invokestatic 28, 3) := by decide +kernel
theorem dX4_add_15 : decode cX4_add 15 = .ok (.ifCond .ne 5, 3) := by decide +kernel
theorem dX4_add_18 : decode cX4_add 18 = .ok (.iconst 0, 1) := by decide +kernel
theorem dX4_add_19 : decode cX4_add 19 = .ok (.ireturn, 1) := by decide +kernel
theorem dX4_add_20 : decode cX4_add 20 = .ok (.aload_n 0, 1) := by decide +kernel
theorem dX4_add_21 : decode cX4_add 21 = .ok (.getfield 11, 3) := by decide +kernel
theorem dX4_add_24 : decode cX4_add 24 = .ok (.aload_n 0, 1) := by decide +kernel
theorem dX4_add_25 : decode cX4_add 25 = .ok (.getfield 21, 3) := by decide +kernel
theorem dX4_add_28 : decode cX4_add 28 = .ok (.iload_n 1, 1) := by decide +kernel
theorem dX4_add_29 : decode cX4_add 29 = .ok (.iastore, 1) := by decide +kernel
theorem dX4_add_30 : decode cX4_add 30 = .ok (.aload_n 0, 1) := by decide +kernel
theorem dX4_add_31 : decode cX4_add 31 = .ok (.getfield 15, 3) := by decide +kernel
theorem dX4_add_34 : decode cX4_add 34 = .ok (.aload_n 0, 1) := by decide +kernel
theorem dX4_add_35 : decode cX4_add 35 = .ok (.getfield 21, 3) := by decide +kernel
theorem dX4_add_38 : decode cX4_add 38 = .ok (.iload_n 2, 1) := by decide +kernel
theorem dX4_add_39 : decode cX4_add 39 = .ok (.iastore, 1) := by decide +kernel
theorem dX4_add_40 : decode cX4_add 40 = .ok (.aload_n 0, 1) := by decide +kernel
theorem dX4_add_41 : decode cX4_add 41 = .ok (.getfield 18, 3) := by decide +kernel
theorem dX4_add_44 : decode cX4_add 44 = .ok (.aload_n 0, 1) := by decide +kernel
theorem dX4_add_45 : decode cX4_add 45 = .ok (.getfield 21, 3) := by decide +kernel
theorem dX4_add_48 : decode cX4_add 48 = .ok (.iload_n 3, 1) := by decide +kernel
theorem dX4_add_49 : decode cX4_add 49 = .ok (.iastore, 1) := by decide +kernel
theorem dX4_add_50 : decode cX4_add 50 = .ok (.aload_n 0, 1) := by decide +kernel
theorem dX4_add_51 : decode cX4_add 51 = .ok (.dup, 1) := by decide +kernel
theorem dX4_add_52 : decode cX4_add 52 = .ok (.getfield 21, 3) := by decide +kernel
theorem dX4_add_55 : decode cX4_add 55 = .ok (.iconst 1, 1) := by decide +kernel
theorem dX4_add_56 : decode cX4_add 56 = .ok (.iadd, 1) := by decide +kernel
theorem dX4_add_57 : decode cX4_add 57 = .ok (.putfield 21, 3) := by decide +kernel
theorem dX4_add_60 : decode cX4_add 60 = .ok (.iconst 1, 1) := by decide +kernel
theorem dX4_add_61 : decode cX4_add 61 = .ok (.ireturn, 1) := by decide +kernel
def f_X4_add (N : Nat) (l0 : Nat) (l1 : Int32) (l2 : Int32) (l3 : Int32) (h : zH) : Option (Int32 × zH) := (zgI h 4 (some l0) 3).bind fun x1 => if (6 : Int32) ≤ x1 then some ((0 : Int32), h) else (f_X4_canBe N l1 l2 l3 h).bind fun x2 => if x2 = 0 then some ((0 : Int32), h) else (zgR h 4 (some l0) 0).bind fun x3 => (zgI h 4 (some l0) 3).bind fun x4 => (zst h 0 x3 x4 l1).bind fun h1 => (zgR h1 4 (some l0) 1).bind fun x5 => (zgI h1 4 (some l0) 3).bind fun x6 => (zst h1 0 x5 x6 l2).bind fun h2 => (zgR h2 4 (some l0) 2).bind fun x7 => (zgI h2 4 (some l0) 3).bind fun x8 => (zst h2 0 x7 x8 l3).bind fun h3 => (zgI h3 4 (some l0) 3).bind fun x9 => (zpu h3 4 (some l0) 3 (zi (x9 + (1 : Int32)))).bind fun h4 => some ((1 : Int32), h4)
set_option maxHeartbeats 4000000 in
set_option maxRecDepth 100000 in
theorem s_X4_add {g : zG} (hg : g.2.1.map (fun q => q.2) = zty) {h0 : zH} (N : Nat) (l0 : Nat) (l1 : Int32) (l2 : Int32) (l3 : Int32) (h : zH) (r : Int32) (h' : zH) (hf : f_X4_add N l0 l1 l2 l3 h = some (r, h')) : zR g jX4_add h0 0 [some (zr (some l0)), some (zi l1), some (zi l2), some (zi l3)] [] h (some (zi r)) h' := by
  unfold f_X4_add at hf
  refine zr_aload_n (v := .inl (some l0)) dX4_add_0 rfl rfl ?_
  obtain ⟨x1, e_x1, hf⟩ := zbd hf
  refine zq_getI kg_94 dX4_add_1 e_x1 ?_
  refine zr_bipush (v := (6 : Int32)) dX4_add_4 (by decide) ?_
  by_cases hc1 : (6 : Int32) ≤ x1
  · rw [if_pos hc1] at hf
    refine zr_icge_t (tgt := 18) dX4_add_6 (by decide) hc1 ?_
    refine zr_iconst (v := (0 : Int32)) dX4_add_18 (by decide) ?_
    cases hf
    exact zr_ret (some (zi (0 : Int32))) rfl dX4_add_19
  · rw [if_neg hc1] at hf
    refine zr_icge_f 18 dX4_add_6 (by decide) hc1 ?_
    refine zr_iload_n (x := l1) dX4_add_9 rfl rfl ?_
    refine zr_iload_n (x := l2) dX4_add_10 rfl rfl ?_
    refine zr_iload_n (x := l3) dX4_add_11 rfl rfl ?_
    obtain ⟨x2, e_x2, hf⟩ := zbd hf
    refine zq_callS (J' := jX4_canBe) (as := [zi l1, zi l2, zi l3]) (rest := []) (r1 := (some (zi x2))) kw_145 km_X4_canBe kt_96 dX4_add_12 rfl (by decide) rfl (c_X4_canBe hg e_x2) ?_
    by_cases hc2 : x2 = 0
    · rw [if_pos hc2] at hf
      refine zr_ifne_f 20 dX4_add_15 (by decide) hc2 ?_
      refine zr_iconst (v := (0 : Int32)) dX4_add_18 (by decide) ?_
      cases hf
      exact zr_ret (some (zi (0 : Int32))) rfl dX4_add_19
    · rw [if_neg hc2] at hf
      refine zr_ifne_t (tgt := 20) dX4_add_15 (by decide) hc2 ?_
      refine zr_aload_n (v := .inl (some l0)) dX4_add_20 rfl rfl ?_
      obtain ⟨x3, e_x3, hf⟩ := zbd hf
      refine zq_getR kg_97 dX4_add_21 e_x3 ?_
      refine zr_aload_n (v := .inl (some l0)) dX4_add_24 rfl rfl ?_
      obtain ⟨x4, e_x4, hf⟩ := zbd hf
      refine zq_getI kg_94 dX4_add_25 e_x4 ?_
      refine zr_iload_n (x := l1) dX4_add_28 rfl rfl ?_
      obtain ⟨h1, e_h1, hf⟩ := zbd hf
      refine zq_iast dX4_add_29 e_h1 ?_
      refine zr_aload_n (v := .inl (some l0)) dX4_add_30 rfl rfl ?_
      obtain ⟨x5, e_x5, hf⟩ := zbd hf
      refine zq_getR kg_98 dX4_add_31 e_x5 ?_
      refine zr_aload_n (v := .inl (some l0)) dX4_add_34 rfl rfl ?_
      obtain ⟨x6, e_x6, hf⟩ := zbd hf
      refine zq_getI kg_94 dX4_add_35 e_x6 ?_
      refine zr_iload_n (x := l2) dX4_add_38 rfl rfl ?_
      obtain ⟨h2, e_h2, hf⟩ := zbd hf
      refine zq_iast dX4_add_39 e_h2 ?_
      refine zr_aload_n (v := .inl (some l0)) dX4_add_40 rfl rfl ?_
      obtain ⟨x7, e_x7, hf⟩ := zbd hf
      refine zq_getR kg_99 dX4_add_41 e_x7 ?_
      refine zr_aload_n (v := .inl (some l0)) dX4_add_44 rfl rfl ?_
      obtain ⟨x8, e_x8, hf⟩ := zbd hf
      refine zq_getI kg_94 dX4_add_45 e_x8 ?_
      refine zr_iload_n (x := l3) dX4_add_48 rfl rfl ?_
      obtain ⟨h3, e_h3, hf⟩ := zbd hf
      refine zq_iast dX4_add_49 e_h3 ?_
      refine zr_aload_n (v := .inl (some l0)) dX4_add_50 rfl rfl ?_
      refine zr_dup dX4_add_51 ?_
      obtain ⟨x9, e_x9, hf⟩ := zbd hf
      refine zq_getI kg_94 dX4_add_52 e_x9 ?_
      refine zr_iconst (v := (1 : Int32)) dX4_add_55 (by decide) ?_
      refine zr_iadd dX4_add_56 ?_
      obtain ⟨h4, e_h4, hf⟩ := zbd hf
      refine zq_put (kp_100 _) dX4_add_57 (zn_i _) e_h4 ?_
      refine zr_iconst (v := (1 : Int32)) dX4_add_60 (by decide) ?_
      cases hf
      exact zr_ret (some (zi (1 : Int32))) rfl dX4_add_61
theorem c_X4_add {g : zG} (hg : g.2.1.map (fun q => q.2) = zty) {N : Nat} {l0 : Nat} {l1 : Int32} {l2 : Int32} {l3 : Int32} {h : zH} {r : Int32} {h' : zH} (hf : f_X4_add N l0 l1 l2 l3 h = some (r, h')) : zCa g jX4_add [zr (some l0), zi l1, zi l2, zi l3] h (some (zi r)) h' :=
  zCa.of hg (by decide +kernel) (by decide) (s_X4_add hg N l0 l1 l2 l3 h r h' hf)
theorem dX4_empty_0 : decode cX4_empty 0 = .ok (.aload_n 0, 1) := by decide +kernel
theorem dX4_empty_1 : decode cX4_empty 1 = .ok (.getfield 21, 3) := by decide +kernel
theorem dX4_empty_4 : decode cX4_empty 4 = .ok (.istore_n 1, 1) := by decide +kernel
theorem dX4_empty_5 : decode cX4_empty 5 = .ok (.aload_n 0, 1) := by decide +kernel
theorem dX4_empty_6 : decode cX4_empty 6 = .ok (.iconst 0, 1) := by decide +kernel
theorem dX4_empty_7 : decode cX4_empty 7 = .ok (.putfield 21, 3) := by decide +kernel
theorem dX4_empty_10 : decode cX4_empty 10 = .ok (.iload_n 1, 1) := by decide +kernel
theorem dX4_empty_11 : decode cX4_empty 11 = .ok (.ireturn, 1) := by decide +kernel
def f_X4_empty (N : Nat) (l0 : Nat) (h : zH) : Option (Int32 × zH) := (zgI h 4 (some l0) 3).bind fun x1 => (zpu h 4 (some l0) 3 (zi (0 : Int32))).bind fun h1 => some (x1, h1)
set_option maxHeartbeats 4000000 in
set_option maxRecDepth 100000 in
theorem s_X4_empty {g : zG} (hg : g.2.1.map (fun q => q.2) = zty) {h0 : zH} (N : Nat) (l0 : Nat) (h : zH) (r : Int32) (h' : zH) (hf : f_X4_empty N l0 h = some (r, h')) : zR g jX4_empty h0 0 [some (zr (some l0)), none] [] h (some (zi r)) h' := by
  unfold f_X4_empty at hf
  refine zr_aload_n (v := .inl (some l0)) dX4_empty_0 rfl rfl ?_
  obtain ⟨x1, e_x1, hf⟩ := zbd hf
  refine zq_getI kg_94 dX4_empty_1 e_x1 ?_
  refine zq_istore_n (x := x1) (L' := [some (zr (some l0)), some (zi x1)]) dX4_empty_4 rfl (by decide) rfl ?_
  refine zr_aload_n (v := .inl (some l0)) dX4_empty_5 rfl rfl ?_
  refine zr_iconst (v := (0 : Int32)) dX4_empty_6 (by decide) ?_
  obtain ⟨h1, e_h1, hf⟩ := zbd hf
  refine zq_put kp_100 dX4_empty_7 (zn_i _) e_h1 ?_
  refine zr_iload_n (x := x1) dX4_empty_10 rfl rfl ?_
  cases hf
  exact zr_ret (some (zi x1)) rfl dX4_empty_11
theorem c_X4_empty {g : zG} (hg : g.2.1.map (fun q => q.2) = zty) {N : Nat} {l0 : Nat} {h : zH} {r : Int32} {h' : zH} (hf : f_X4_empty N l0 h = some (r, h')) : zCa g jX4_empty [zr (some l0)] h (some (zi r)) h' :=
  zCa.of hg (by decide +kernel) (by decide) (s_X4_empty hg N l0 h r h' hf)
theorem dX6_isSet_0 : decode cX6_isSet 0 = .ok (.iload_n 1, 1) := by decide +kernel
theorem dX6_isSet_1 : decode cX6_isSet 1 = .ok (.ifCond .lt 26, 3) := by decide +kernel
theorem dX6_isSet_4 : decode cX6_isSet 4 = .ok (.iload_n 1, 1) := by decide +kernel
theorem dX6_isSet_5 : decode cX6_isSet 5 = .ok (.aload_n 0, 1) := by decide +kernel
theorem dX6_isSet_6 : decode cX6_isSet 6 = .ok (.getfield 43, 3) := by decide +kernel
theorem dX6_isSet_9 : decode cX6_isSet 9 = .ok (.arraylength, 1) := by decide +kernel
theorem dX6_isSet_10 : decode cX6_isSet 10 = .ok (.if_icmp .ge 17, 3) := by decide +kernel
theorem dX6_isSet_13 : decode cX6_isSet 13 = .ok (.aload_n 0, 1) := by decide +kernel
theorem dX6_isSet_14 : decode cX6_isSet 14 = .ok (.getfield 43, 3) := by decide +kernel
theorem dX6_isSet_17 : decode cX6_isSet 17 = .ok (.iload_n 1, 1) := by decide +kernel
theorem dX6_isSet_18 : decode cX6_isSet 18 = .ok (.iaload, 1) := by decide +kernel
theorem dX6_isSet_19 : decode cX6_isSet 19 = .ok (.iconst (-1), 1) := by decide +kernel
theorem dX6_isSet_20 : decode cX6_isSet 20 = .ok (.if_icmp .eq 7, 3) := by decide +kernel
theorem dX6_isSet_23 : decode cX6_isSet 23 = .ok (.iconst 1, 1) := by decide +kernel
theorem dX6_isSet_24 : decode cX6_isSet 24 = .ok (.goto 4, 3) := by decide +kernel
theorem dX6_isSet_27 : decode cX6_isSet 27 = .ok (.iconst 0, 1) := by decide +kernel
theorem dX6_isSet_28 : decode cX6_isSet 28 = .ok (.ireturn, 1) := by decide +kernel
def f_X6_isSet (N : Nat) (l0 : Nat) (l1 : Int32) (h : zH) : Option Int32 := if l1 < 0 then some (0 : Int32) else (zgR h 6 (some l0) 10).bind fun x1 => (zlen h x1).bind fun x2 => if x2 ≤ l1 then some (0 : Int32) else (zgR h 6 (some l0) 10).bind fun x3 => (zld h 0 x3 l1).bind fun x4 => if x4 = ((-1) : Int32) then some (0 : Int32) else some (1 : Int32)
set_option maxHeartbeats 4000000 in
set_option maxRecDepth 100000 in
theorem s_X6_isSet {g : zG} (hg : g.2.1.map (fun q => q.2) = zty) {h0 : zH} (N : Nat) (l0 : Nat) (l1 : Int32) (h : zH) (r : Int32) (hf : f_X6_isSet N l0 l1 h = some r) : zR g jX6_isSet h0 0 [some (zr (some l0)), some (zi l1)] [] h (some (zi r)) h := by
  unfold f_X6_isSet at hf
  refine zr_iload_n (x := l1) dX6_isSet_0 rfl rfl ?_
  by_cases hc1 : l1 < 0
  · rw [if_pos hc1] at hf
    refine zr_iflt_t (tgt := 27) dX6_isSet_1 (by decide) hc1 ?_
    refine zr_iconst (v := (0 : Int32)) dX6_isSet_27 (by decide) ?_
    cases hf
    exact zr_ret (some (zi (0 : Int32))) rfl dX6_isSet_28
  · rw [if_neg hc1] at hf
    refine zr_iflt_f 27 dX6_isSet_1 (by decide) hc1 ?_
    refine zr_iload_n (x := l1) dX6_isSet_4 rfl rfl ?_
    refine zr_aload_n (v := .inl (some l0)) dX6_isSet_5 rfl rfl ?_
    obtain ⟨x1, e_x1, hf⟩ := zbd hf
    refine zq_getR kg_101 dX6_isSet_6 e_x1 ?_
    obtain ⟨x2, e_x2, hf⟩ := zbd hf
    refine zq_alen dX6_isSet_9 e_x2 ?_
    by_cases hc2 : x2 ≤ l1
    · rw [if_pos hc2] at hf
      refine zr_icge_t (tgt := 27) dX6_isSet_10 (by decide) hc2 ?_
      refine zr_iconst (v := (0 : Int32)) dX6_isSet_27 (by decide) ?_
      cases hf
      exact zr_ret (some (zi (0 : Int32))) rfl dX6_isSet_28
    · rw [if_neg hc2] at hf
      refine zr_icge_f 27 dX6_isSet_10 (by decide) hc2 ?_
      refine zr_aload_n (v := .inl (some l0)) dX6_isSet_13 rfl rfl ?_
      obtain ⟨x3, e_x3, hf⟩ := zbd hf
      refine zq_getR kg_101 dX6_isSet_14 e_x3 ?_
      refine zr_iload_n (x := l1) dX6_isSet_17 rfl rfl ?_
      obtain ⟨x4, e_x4, hf⟩ := zbd hf
      refine zq_iald dX6_isSet_18 e_x4 ?_
      refine zr_iconst (v := ((-1) : Int32)) dX6_isSet_19 (by decide) ?_
      by_cases hc3 : x4 = ((-1) : Int32)
      · rw [if_pos hc3] at hf
        refine zr_iceq_t (tgt := 27) dX6_isSet_20 (by decide) hc3 ?_
        refine zr_iconst (v := (0 : Int32)) dX6_isSet_27 (by decide) ?_
        cases hf
        exact zr_ret (some (zi (0 : Int32))) rfl dX6_isSet_28
      · rw [if_neg hc3] at hf
        refine zr_iceq_f 27 dX6_isSet_20 (by decide) hc3 ?_
        refine zr_iconst (v := (1 : Int32)) dX6_isSet_23 (by decide) ?_
        refine zr_goto (tgt := 28) dX6_isSet_24 (by decide) ?_
        cases hf
        exact zr_ret (some (zi (1 : Int32))) rfl dX6_isSet_28
theorem c_X6_isSet {g : zG} (hg : g.2.1.map (fun q => q.2) = zty) {N : Nat} {l0 : Nat} {l1 : Int32} {h : zH} {r : Int32} (hf : f_X6_isSet N l0 l1 h = some r) : zCa g jX6_isSet [zr (some l0), zi l1] h (some (zi r)) h :=
  zCa.of hg (by decide +kernel) (by decide) (s_X6_isSet hg N l0 l1 h r hf)
