/-! ===== rows that read and write the heap ===== -/
theorem zRA_eq {s : State} {c1 c2 : ClassId} {ty : FieldType} (h1 : va_RA s c1 ty) (h2 : va_RA s c2 ty) : c1 = c2 := by
  cases ty with
  | object C =>
    obtain ⟨_, _, -, -, -, a⟩ := h1
    obtain ⟨_, _, -, -, -, b⟩ := h2
    exact Option.some.inj (a.symm.trans b)
  | _ => exact Option.some.inj (Eq.trans (Eq.symm h1) h2)
def zFg (own : String) (idx ci k : Nat) : Prop := ∃ (C : String) (T : u_T) (N : Nat), vwCl[ci]? = some (C, T, N) ∧ k < N ∧ (∀ w ∈ u_ws C T N, w ∈ zWd) ∧ (Cond.fieldLink own idx (T k).1 (T k).2.1 (T k).2.2.1 ∈ zWd ∨ ∃ host, Cond.fieldLinkNest own idx (T k).1 (T k).2.1 (T k).2.2.1 host ∈ zNw)
def zFp (own nm : String) (idx ci k : Nat) (ty : FieldType) : Prop := ∃ (C : String) (T : u_T) (N : Nat) (ty0 : Nat → FieldType), vwCl[ci]? = some (C, T, N) ∧ k < N ∧ (∀ w ∈ u_ws C T N, w ∈ zWd) ∧ (∀ k, k < N → parseFieldDescriptor (T k).2.2.1 = some (ty0 k)) ∧ (∀ a, a < N → ∀ b, b < N → a ≠ b → (T a).2.1 ≠ (T b).2.1) ∧ parseFieldDescriptor (T k).2.2.1 = some ty ∧
  (((T k).2.2.2 = false ∧ Cond.fieldLink own idx (T k).1 (T k).2.1 (T k).2.2.1 ∈ zWd) ∨ ((T k).2.2.2 = false ∧ ∃ host, Cond.fieldLinkNest own idx (T k).1 (T k).2.1 (T k).2.2.1 host ∈ zNw) ∨ ((T k).2.2.2 = true ∧ nm = "<init>" ∧ (T k).1 = own ∧ Cond.fieldLink own idx (T k).1 (T k).2.1 (T k).2.2.1 ∈ zWd))
def zFn (own : String) (idx ci : Nat) (fs : List zV) : Prop := ∃ (C : String) (T : u_T) (N : Nat) (ty : Nat → FieldType), vwCl[ci]? = some (C, T, N) ∧ (∀ w ∈ u_ws C T N, w ∈ zWd) ∧ (∀ k, k < N → parseFieldDescriptor (T k).2.2.1 = some (ty k)) ∧ Cond.classLink own idx C ∈ zWd ∧ Cond.instantiable C N ∈ zWd ∧ Cond.initialized C ∈ zWd ∧ fs.length = N ∧ ∀ (g : zG) (j : Nat), j < N → defaultValue (ty j) = vp_V (fs.map (zv g)) j
section zheap
variable {g : zG} {J : zJ} {h0 : zH} {pc : Nat} {L : List (Option zV)} {st : List zV} {h : zH} {r : Option zV} {h' : zH}
theorem zr_get {idx ci k a : Nat} {fs : List zV} {v : zV} (hf : zFg J.1.cls idx ci k) (hd : decode J.2.1 pc = .ok (.getfield idx, 3)) (ha : h[a]? = some (.inr (ci, fs))) (hv : fs[k]? = some v) (kk : zR g J h0 (pc + 3) L (v :: st) h r h') : zR g J h0 pc L (zr (some a) :: st) h r h' := by
  obtain ⟨C, T, N, hc, hk, hin, hl⟩ := hf
  refine zR.step (fun X _ _ _ _ hT hL kk => ?_) kk
  have hv2 : (fs.map (zv g))[k]? = some (zv g v) := by rw [List.getElem?_map, hv]; rfl
  rcases hl with hl | ⟨host, hl⟩
  · exact va_get (D := g.1) (ci := ci) (v := zv g v) (C := C) (T := T) (N := N) X.1 X.2.1 X.2.2.2.2.1 hin X.2.2.2.1 X.2.2.2.2.2.2.1.1 hT.2.1 a (zw_get ha) hc k hk (X.2.2.2.2.1 _ hl) (fun _ h9 => h9) hv2 hd (kk _ hL)
  · exact va_getN (D := g.1) (ci := ci) (v := zv g v) (C := C) (T := T) (N := N) (host := host) X.1 X.2.1 X.2.2.2.2.1 hin X.2.2.2.1 X.2.2.2.2.2.2.1.1 hT.2.1 a (zw_get ha) hc k hk (va_Nw.use rfl (X.2.2.2.2.2.2.1.2.1 _ hl)) (fun _ h9 => h9) hv2 hd (kk _ hL)
theorem zr_put {idx ci k a : Nat} {ty : FieldType} {fs : List zV} {v : zV} (hf : zFp J.1.cls J.1.name idx ci k ty) (hd : decode J.2.1 pc = .ok (.putfield idx, 3)) (ha : h[a]? = some (.inr (ci, fs))) (hlen : k < fs.length) (hn : ∀ g : zG, narrow ty (zv g v) = zv g v ∧ fits ty (zv g v) = true) (kk : zR g J h0 (pc + 3) L st (h.set a (.inr (ci, fs.set k v))) r h') : zR g J h0 pc L (v :: zr (some a) :: st) h r h' := by
  obtain ⟨C, T, N, ty0, hc, hk, hin, hty, hnm, hpd, hl⟩ := hf
  refine zR.stepS (List.length_set ..) (zsl_set h a _ _ ha (by simp [zsz])) (fun {p l e R s m args below meth c Q H locs cells slots ls} X _ _ hT hL kk => ?_) kk
  have hlen2 : k < (fs.map (zv g)).length := by simpa using hlen
  have he : (zw g h).set a (g.2.2.1 + a, .inr (ci, (fs.map (zv g)).set k (zv g v))) = zw g (h.set a (.inr (ci, fs.set k v))) := by
    rw [← zw_set]
    simp only [zc, List.map_set]
  rcases hl with ⟨hfin, hl⟩ | ⟨hfin, host, hl⟩ | ⟨hfin, hnam, hdecl, hl⟩
  · refine va_put (D := g.1) (ci := ci) (v := zv g v) (ty := ty) (C := C) (T := T) (N := N) X.1 X.2.1 X.2.2.2.2.1 hin ty0 hty hnm X.2.2.2.1 X.2.2.2.2.2.2.1.1 hT.2.1 (zw_D g h) hT.2.2 a (zw_get ha) hc k hk (X.2.2.2.2.1 _ hl) (fun _ h9 => h9) hfin hpd (hn g).1 (hn g).2 hlen2 hd (fun H1 locs1 hP hD hS => ?_)
    rw [he] at hP
    exact kk H1 locs1 ls hP hS hL
  · refine va_putN (D := g.1) (ci := ci) (v := zv g v) (ty := ty) (C := C) (T := T) (N := N) (host := host) X.1 X.2.1 X.2.2.2.2.1 hin ty0 hty hnm X.2.2.2.1 X.2.2.2.2.2.2.1.1 hT.2.1 (zw_D g h) hT.2.2 a (zw_get ha) hc k hk (va_Nw.use rfl (X.2.2.2.2.2.2.1.2.1 _ hl)) (fun _ h9 => h9) hfin hpd (hn g).1 (hn g).2 hlen2 hd (fun H1 locs1 hP hD hS => ?_)
    rw [he] at hP
    exact kk H1 locs1 ls hP hS hL
  · refine va_putF (D := g.1) (ci := ci) (v := zv g v) (ty := ty) (C := C) (T := T) (N := N) X.1 X.2.1 X.2.2.2.2.1 hin ty0 hty hnm X.2.2.2.1 X.2.2.2.2.2.2.1.1 hT.2.1 (zw_D g h) hT.2.2 a (zw_get ha) hc k hk (X.2.2.2.2.1 _ hl) (fun _ h9 => h9) hfin (X.2.2.2.2.2.1 hnam) hdecl hpd (hn g).1 (hn g).2 hlen2 hd (fun H1 locs1 hP hD hS => ?_)
    rw [he] at hP
    exact kk H1 locs1 ls hP hS hL
theorem zn_i (x : Int32) (g : zG) : narrow .int (zv g (zi x)) = zv g (zi x) ∧ fits .int (zv g (zi x)) = true := ⟨rfl, rfl⟩
theorem zn_o (C : String) (o : Option Nat) (g : zG) : narrow (.object C) (zv g (zr o)) = zv g (zr o) ∧ fits (.object C) (zv g (zr o)) = true := by cases o <;> exact ⟨rfl, rfl⟩
theorem zn_a (t : FieldType) (o : Option Nat) (g : zG) : narrow (.array t) (zv g (zr o)) = zv g (zr o) ∧ fits (.array t) (zv g (zr o)) = true := by cases o <;> exact ⟨rfl, rfl⟩
theorem zr_alen {a t n : Nat} {ty : FieldType} {x : (Nat → Int32) ⊕ (Nat → Option Nat)} (ht : zty[t]? = some ty) (hd : decode J.2.1 pc = .ok (.arraylength, 1)) (ha : h[a]? = some (.inl (t, n, x))) (kk : zR g J h0 (pc + 1) L (zi (nI n) :: st) h r h') : zR g J h0 pc L (zr (some a) :: st) h r h' := by
  refine zR.step (fun X _ _ _ _ hT hL kk => ?_) kk
  rcases x with f | f
  · exact va_alen (D := g.1) X.1 X.2.1 X.2.2.2.2.2.2.1.1 hT.2.1 a t (zw_get ha) (ztys X.2.2.2.2.2.2.2 ht) rfl hd (kk _ hL)
  · exact va_alen (D := g.1) X.1 X.2.1 X.2.2.2.2.2.2.1.1 hT.2.1 a t (zw_get ha) (ztys X.2.2.2.2.2.2.2 ht) rfl hd (kk _ hL)
theorem zr_iald {a n : Nat} {f : Nat → Int32} {i : Int32} (hd : decode J.2.1 pc = .ok (.iaload, 1)) (ha : h[a]? = some (.inl (0, n, .inl f))) (hin : vp_in i n) (kk : zR g J h0 (pc + 1) L (zi (f i.toNatClampNeg) :: st) h r h') : zR g J h0 pc L (zi i :: zr (some a) :: st) h r h' :=
  zR.step (fun X _ _ _ _ hT hL kk => va_iald (D := g.1) X.1 X.2.1 X.2.2.2.2.2.2.1.1 hT.2.1 a 0 (zw_get ha) (ztys X.2.2.2.2.2.2.2 rfl) hin hd (kk _ hL)) kk
theorem zr_bald {a n : Nat} {f : Nat → Int32} {i : Int32} (hd : decode J.2.1 pc = .ok (.baload, 1)) (ha : h[a]? = some (.inl (1, n, .inl f))) (hin : vp_in i n) (kk : zR g J h0 (pc + 1) L (zi (f i.toNatClampNeg) :: st) h r h') : zR g J h0 pc L (zi i :: zr (some a) :: st) h r h' :=
  zR.step (fun X _ _ _ _ hT hL kk => va_bald (D := g.1) X.1 X.2.1 X.2.2.2.2.2.2.1.1 hT.2.1 a 1 (zw_get ha) (ztys X.2.2.2.2.2.2.2 rfl) hin hd (kk _ hL)) kk
theorem zr_cald {a n : Nat} {f : Nat → Int32} {i : Int32} (hd : decode J.2.1 pc = .ok (.caload, 1)) (ha : h[a]? = some (.inl (2, n, .inl f))) (hin : vp_in i n) (kk : zR g J h0 (pc + 1) L (zi (f i.toNatClampNeg) :: st) h r h') : zR g J h0 pc L (zi i :: zr (some a) :: st) h r h' :=
  zR.step (fun X _ _ _ _ hT hL kk => va_cald (D := g.1) X.1 X.2.1 X.2.2.2.2.2.2.1.1 hT.2.1 a 2 (zw_get ha) (ztys X.2.2.2.2.2.2.2 rfl) hin hd (kk _ hL)) kk
theorem zr_zald {a n : Nat} {f : Nat → Int32} {i : Int32} (hd : decode J.2.1 pc = .ok (.baload, 1)) (ha : h[a]? = some (.inl (3, n, .inl f))) (hin : vp_in i n) (kk : zR g J h0 (pc + 1) L (zi (f i.toNatClampNeg) :: st) h r h') : zR g J h0 pc L (zi i :: zr (some a) :: st) h r h' :=
  zR.step (fun X _ _ _ _ hT hL kk => va_zald (D := g.1) X.1 X.2.1 X.2.2.2.2.2.2.1.1 hT.2.1 a 3 (zw_get ha) (ztys X.2.2.2.2.2.2.2 rfl) hin hd (kk _ hL)) kk
theorem zr_aald {a t n : Nat} {C : String} {f : Nat → Option Nat} {i : Int32} (ht : zty[t]? = some (.object C)) (hd : decode J.2.1 pc = .ok (.aaload, 1)) (ha : h[a]? = some (.inl (t, n, .inr f))) (hin : vp_in i n) (kk : zR g J h0 (pc + 1) L (zr (f i.toNatClampNeg) :: st) h r h') : zR g J h0 pc L (zi i :: zr (some a) :: st) h r h' :=
  zR.step (fun X _ _ _ _ hT hL kk => va_aldq (D := g.1) X.1 X.2.1 X.2.2.2.2.2.2.1.1 hT.2.1 a t (zw_get ha) (ztys X.2.2.2.2.2.2.2 ht) hin hd (kk _ hL)) kk
theorem zr_iast {a n : Nat} {f : Nat → Int32} {i x : Int32} (hd : decode J.2.1 pc = .ok (.iastore, 1)) (ha : h[a]? = some (.inl (0, n, .inl f))) (hin : vp_in i n) (kk : zR g J h0 (pc + 1) L st (h.set a (.inl (0, n, .inl (upd f i.toNatClampNeg x)))) r h') : zR g J h0 pc L (zi x :: zi i :: zr (some a) :: st) h r h' := by
  refine zR.stepS (List.length_set ..) (zsl_set h a _ _ ha (by rfl)) (fun {p l e R s m args below meth c Q H locs cells slots ls} X _ _ hT hL kk => ?_) kk
  refine va_iast (D := g.1) X.1 X.2.1 X.2.2.2.2.2.2.1.1 hT.2.1 (zw_D g h) hT.2.2 a 0 (zw_get ha) (ztys X.2.2.2.2.2.2.2 rfl) hin hd (fun H1 locs1 hP hD hS => ?_)
  exact kk H1 locs1 ls (by rw [← zw_set]; exact hP) hS hL
theorem zr_bast {a n : Nat} {f : Nat → Int32} {i x : Int32} (hd : decode J.2.1 pc = .ok (.bastore, 1)) (ha : h[a]? = some (.inl (1, n, .inl f))) (hin : vp_in i n) (kk : zR g J h0 (pc + 1) L st (h.set a (.inl (1, n, .inl (upd f i.toNatClampNeg (vp_nar .byte x))))) r h') : zR g J h0 pc L (zi x :: zi i :: zr (some a) :: st) h r h' := by
  refine zR.stepS (List.length_set ..) (zsl_set h a _ _ ha (by rfl)) (fun {p l e R s m args below meth c Q H locs cells slots ls} X _ _ hT hL kk => ?_) kk
  refine va_bast (D := g.1) X.1 X.2.1 X.2.2.2.2.2.2.1.1 hT.2.1 (zw_D g h) hT.2.2 a 1 (zw_get ha) (ztys X.2.2.2.2.2.2.2 rfl) hin hd (fun H1 locs1 hP hD hS => ?_)
  exact kk H1 locs1 ls (by rw [← zw_set]; exact hP) hS hL
theorem zr_cast {a n : Nat} {f : Nat → Int32} {i x : Int32} (hd : decode J.2.1 pc = .ok (.castore, 1)) (ha : h[a]? = some (.inl (2, n, .inl f))) (hin : vp_in i n) (kk : zR g J h0 (pc + 1) L st (h.set a (.inl (2, n, .inl (upd f i.toNatClampNeg (vp_nar .char x))))) r h') : zR g J h0 pc L (zi x :: zi i :: zr (some a) :: st) h r h' := by
  refine zR.stepS (List.length_set ..) (zsl_set h a _ _ ha (by rfl)) (fun {p l e R s m args below meth c Q H locs cells slots ls} X _ _ hT hL kk => ?_) kk
  refine va_cast (D := g.1) X.1 X.2.1 X.2.2.2.2.2.2.1.1 hT.2.1 (zw_D g h) hT.2.2 a 2 (zw_get ha) (ztys X.2.2.2.2.2.2.2 rfl) hin hd (fun H1 locs1 hP hD hS => ?_)
  exact kk H1 locs1 ls (by rw [← zw_set]; exact hP) hS hL
theorem zr_zast {a n : Nat} {f : Nat → Int32} {i x : Int32} (hd : decode J.2.1 pc = .ok (.bastore, 1)) (ha : h[a]? = some (.inl (3, n, .inl f))) (hin : vp_in i n) (kk : zR g J h0 (pc + 1) L st (h.set a (.inl (3, n, .inl (upd f i.toNatClampNeg (vp_nar .boolean x))))) r h') : zR g J h0 pc L (zi x :: zi i :: zr (some a) :: st) h r h' := by
  refine zR.stepS (List.length_set ..) (zsl_set h a _ _ ha (by rfl)) (fun {p l e R s m args below meth c Q H locs cells slots ls} X _ _ hT hL kk => ?_) kk
  refine va_zast (D := g.1) X.1 X.2.1 X.2.2.2.2.2.2.1.1 hT.2.1 (zw_D g h) hT.2.2 a 3 (zw_get ha) (ztys X.2.2.2.2.2.2.2 rfl) hin hd (fun H1 locs1 hP hD hS => ?_)
  exact kk H1 locs1 ls (by rw [← zw_set]; exact hP) hS hL
theorem zr_aast {a t n ci : Nat} {rr : vw_C} {f : Nat → Option Nat} {i : Int32} {o : Option Nat} (ht : zty[t]? = some (.object rr.1)) (hc : vwCl[ci]? = some rr) (hd : decode J.2.1 pc = .ok (.aastore, 1)) (ha : h[a]? = some (.inl (t, n, .inr f))) (ho : ∀ v, o = some v → ∃ vs, h[v]? = some (.inr (ci, vs))) (hin : vp_in i n) (kk : zR g J h0 (pc + 1) L st (h.set a (.inl (t, n, .inr (va_up f i.toNatClampNeg o)))) r h') : zR g J h0 pc L (zr o :: zi i :: zr (some a) :: st) h r h' := by
  refine zR.stepS (List.length_set ..) (zsl_set h a _ _ ha (by rfl)) (fun {p l e R s m args below meth c Q H locs cells slots ls} X _ _ hT hL kk => ?_) kk
  have e9 : ∀ x : Option Nat, (fun j => ((va_up f i.toNatClampNeg x) j).map (fun a => g.2.2.1 + a)) = va_up (fun j => (f j).map (fun a => g.2.2.1 + a)) i.toNatClampNeg (x.map (fun a => g.2.2.1 + a)) := by
    intro x
    funext j
    by_cases hj : j = i.toNatClampNeg <;> simp [va_up, hj]
  cases o with
  | none =>
    refine va_astqN (D := g.1) X.1 X.2.1 X.2.2.2.2.2.2.1.1 hT.2.1 (zw_D g h) hT.2.2 a t (zw_get ha) (ztys X.2.2.2.2.2.2.2 ht) hin hd (fun H1 locs1 hP hD hS => ?_)
    exact kk H1 locs1 ls (by rw [← zw_set]; simp only [zc, e9]; exact hP) hS hL
  | some v =>
    obtain ⟨vs, hv⟩ := ho v rfl
    refine va_astq (D := g.1) X.1 X.2.1 X.2.2.2.2.2.2.1.1 hT.2.1 (zw_D g h) hT.2.2 a t v ci (zw_get ha) (ztys X.2.2.2.2.2.2.2 ht) (zw_get hv) hc hin hd (fun H1 locs1 hP hD hS => ?_)
    exact kk H1 locs1 ls (by rw [← zw_set]; simp only [zc, e9]; exact hP) hS hL
theorem zr_new {idx ci : Nat} {fs : List zV} (hf : zFn J.1.cls idx ci fs) (hd : decode J.2.1 pc = .ok (.new idx, 3)) (kk : zR g J h0 (pc + 3) L (zr (some h.length) :: st) (h ++ [.inr (ci, fs)]) r h') : zR g J h0 pc L st h r h' := by
  obtain ⟨C, T, N, ty, hc, hin, hty, w1, w2, w3, hlen, hdf⟩ := hf
  refine zR.stepA (e1 := .inr (ci, fs)) (fun {p l e R s m args below meth c Q H locs cells slots ls} X _ _ b1 b2 hT hL hb kk => ?_) kk
  have hs9 : zsz (.inr (ci, fs)) = N := hlen
  rw [hs9] at b2
  refine va_new (D := g.1) (ci := ci) (fs := fs.map (zv g)) (C := C) (T := T) (N := N) X.1 X.2.1 X.2.2.2.2.1 hin ty hty X.2.2.2.1 (X.2.2.2.2.1 _ w1) (X.2.2.2.2.1 _ w2) (X.2.2.2.2.1 _ w3) X.2.2.2.2.2.2.1.1 hT.2.1 (zw_D g h) hT.2.2 (fun q hq => Nat.le_trans hb hq) hc (hdf g) b1 b2 hd (fun q H1 hP hD hS => ?_)
  have := kk H1 locs q hP hD hS
  rw [hs9] at this
  exact this
theorem zr_newa {atype : ArrayType} {t : Nat} {n : Int32} (hw : Cond.arrayClass (newarray.typeOf atype) ∈ zWd) (ht : zty[t]? = some (newarray.typeOf atype)) (hz : ∀ (cA : ClassId) (N : Nat), vp_cell cA (N, .inl (fun _ => 0)) = arrV cA N (fun _ => defaultValue (newarray.typeOf atype))) (hd : decode J.2.1 pc = .ok (.newarray atype, 2)) (hn : ¬ n < 0) (hb9 : n.toNatClampNeg * componentBytes (newarray.typeOf atype) ≤ 536870912)
    (kk : zR g J h0 (pc + 2) L (zr (some h.length) :: st) (h ++ [.inl (t, n.toNatClampNeg, .inl (fun _ => 0))]) r h') : zR g J h0 pc L (zi n :: st) h r h' := by
  refine zR.stepA (e1 := .inl (t, n.toNatClampNeg, .inl (fun _ => 0))) (fun {p l e R s m args below meth c Q H locs cells slots ls} X _ _ b1 b2 hT hL hb kk => ?_) kk
  refine va_newa (D := g.1) X.1 X.2.1 (X.2.2.2.2.1 _ hw) rfl X.2.2.2.2.2.2.1.1 hT.2.1 (zw_D g h) hT.2.2 (fun q hq => Nat.le_trans hb hq) (a0 := (n.toNatClampNeg, .inl (fun _ => 0))) (fun cA => hz cA _) hn rfl hb9 b1 b2 hd (fun q cA H1 hK hP hD hS => ?_)
  have hcA : cA = zca g t := zRA_eq (hK.2 g.2.1.length (cA, _) (by simp)).2 (X.2.2.2.2.2.2.1.1.2 t _ (ztys X.2.2.2.2.2.2.2 ht)).2
  subst hcA
  exact kk H1 locs q hP hD hS
theorem zr_newq {idx t : Nat} {C : String} {n : Int32} (hw : Cond.classLink J.1.cls idx C ∈ zWd) (ho : C = RX0 ∨ C = RX9) (ht : zty[t]? = some (.object C)) (hd : decode J.2.1 pc = .ok (.anewarray idx, 3)) (hn : ¬ n < 0) (hb9 : n.toNatClampNeg * 4 ≤ 536870912)
    (kk : zR g J h0 (pc + 3) L (zr (some h.length) :: st) (h ++ [.inl (t, n.toNatClampNeg, .inr (fun _ => none))]) r h') : zR g J h0 pc L (zi n :: st) h r h' := by
  refine zR.stepA (e1 := .inl (t, n.toNatClampNeg, .inr (fun _ => none))) (fun {p l e R s m args below meth c Q H locs cells slots ls} X _ _ b1 b2 hT hL hb kk => ?_) kk
  have hao : va_AO C s := by
    rcases ho with rfl | rfl
    · exact X.2.2.2.2.2.2.1.2.2.1
    · exact X.2.2.2.2.2.2.1.2.2.2.1
  refine va_newq (D := g.1) X.1 X.2.1 X.2.2.2.1 (X.2.2.2.2.1 _ hw) hao X.2.2.2.2.2.2.1.1 hT.2.1 (zw_D g h) hT.2.2 (fun q hq => Nat.le_trans hb hq) hn rfl hb9 b1 b2 hd (fun q cA H1 hK hP hD hS => ?_)
  have hcA : cA = zca g t := zRA_eq (hK.2 g.2.1.length (cA, _) (by simp)).2 (X.2.2.2.2.2.2.1.1.2 t _ (ztys X.2.2.2.2.2.2.2 ht)).2
  subst hcA
  exact kk H1 locs q hP hD hS
end zheap
