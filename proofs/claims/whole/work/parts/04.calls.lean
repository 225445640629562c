/-! ===== contracts and calls ===== -/
def zWs (J : zJ) : List Cond := Cond.code J.1 J.2.1 J.2.2.1 J.2.2.2.1 :: zWd
def zB (g : zG) (h : zH) (U : State) : Prop := U.heap.size = g.2.2.1 + h.length ∧ va_P g.1 vwCl (zw g h) U.heap ∧ zU g U
def zRm (J : zJ) (c s : Nat) : Room := { frames := J.2.2.2.2.1, cells := c, slots := s, locals := J.2.2.2.2.2 }
def zCa (g : zG) (J : zJ) (as : List zV) (h : zH) (r : Option zV) (h' : zH) : Prop :=
  (h.length ≤ h'.length ∧ zsl h ≤ zsl h') ∧ ∀ l : Launch, Met l J.1 (zWs J) (zRm J (h'.length - h.length) (zsl h' - zsl h)) (va_Pc (as.map (zv g)) (zB g h)) (fun _ => zQ3 g r h') (h'.length - h.length) (zsl h' - zsl h) (zA g)
theorem zlg (g : zG) : ∀ as : List zV, lg_sl (as.map (zv g)) = as.map (fun v => Slot.val (zv g v))
  | [] => rfl
  | v :: as => by
    have := zlg g as
    simp only [lg_sl] at this
    simp [lg_sl, zv_cat, this]
theorem zarg (g : zG) : ∀ (as : List zV) (k n : Nat), zas g k (as.map some ++ List.replicate n none) = lv_args k (as.map (zv g))
  | [], k, n => by
    induction n generalizing k with
    | zero => simp [zas, lv_args]
    | succ n ih =>
      simp only [List.map_nil, List.nil_append] at ih ⊢
      rw [List.replicate_succ, zas, ih]
      simp [lv_args]
  | v :: as, k, n => by
    simp only [List.map_cons, List.cons_append, zas, lv_args, zv_cat]
    rw [zarg g as (k + 1) n, if_neg (by decide)]
theorem zCa.of {g : zG} {J : zJ} {as : List zV} {h : zH} {r : Option zV} {h' : zH} (hty : g.2.1.map (fun q => q.2) = zty) (hy : plainName J.1.cls = true) (hn : as.length ≤ J.2.2.1) (k : zR g J h 0 (as.map some ++ List.replicate (J.2.2.1 - as.length) none) [] h r h') : zCa g J as h r h' := by
  have hok := k.2.1
  refine ⟨k.1, fun l => ?_⟩
  refine Met.ofW (cc := J.2.1) (maxL := J.2.2.1) (ret := J.2.2.2.1) hy rfl ?_
  intro p e s m args below meth c s₁ B hml hv
  obtain ⟨rfl, hsz, hP, hu⟩ := hv
  have hts := atoms_spec (ws := zWs J) B.pre
  have X : zX g J p s m (as.map (zv g)).toArray meth c := ⟨B.exec, B.bytes, hml, findClass_of_methodNamed B.named, fun w hw => hts w (List.mem_cons_of_mem _ hw), fun q => (name_of_methodNamed B.named B.method).1.trans q, hu, hty⟩
  have hlen : (lg_sl (as.map (zv g))).length = as.length := by rw [zlg]; simp
  have hl := lv_entry (as.map (zv g)) (n := J.2.2.1) (by rw [hlen]; exact hn)
  rw [lg_entry_eq]
  generalize (lg_sl (as.map (zv g)) ++ List.replicate (J.2.2.1 - (lg_sl (as.map (zv g))).length) Slot.unset).toArray = ls at hl ⊢
  have hL : zL g ls J.2.2.1 (as.map some ++ List.replicate (J.2.2.1 - as.length) none) := by
    unfold zL
    rw [zarg]
    exact hl
  have hk := k.2.2 (Nat.le_refl _) (Nat.le_refl _) p l e (zRm J (h'.length - h.length) (zsl h' - zsl h)) s m (as.map (zv g)).toArray below meth c (MQ below (fun _ => zQ3 g r h') (as.map (zv g)).toArray s (h'.length - h.length) (zsl h' - zsl h) (zA g)) X hsz (Nat.le_refl _) (Nat.le_refl _) (Nat.le_refl _) (Nat.le_refl _) ?_ s.heap [] ls ⟨hsz, hP, va_S.rf⟩ hL
  · rw [Nat.sub_self, Nat.sub_self] at hk
    exact hk
  · intro pc' ls2 H locs hT hd
    have hr := B.returns
    have hlocks := B.notSynchronized
    have hq : ∀ t : State, t.heap = H → s.WarmedH t.vm → zQ3 g r h' s (.returned (r.map (zv g))) t := fun t ht hW => ⟨⟨rfl, by rw [ht]; exact hT.2.1⟩, hT.2.2.F ht⟩
    revert hok hr
    generalize J.2.2.2.1 = rt
    intro hok hr
    rcases r with _ | (x | (o | q))
    · cases rt with
      | none => exact W.vret (Qc := fun _ => zQ3 g none h') B.exec B.bytes hr hq hT.2.2.2.2 hd hlocks
      | some ty => exact hok.elim
    · cases rt with
      | none => exact hok.elim
      | some ty => exact W.zret (Qc := fun _ => zQ3 g (some (.inl x)) h') (v := x) B.exec B.bytes hr hok hq hT.2.2.2.2 hd hlocks
    · cases rt with
      | none => exact hok.elim
      | some ty => exact W.aret (Qc := fun _ => zQ3 g (some (.inr (.inl o))) h') (v := zv g (.inr (.inl o))) B.exec B.bytes hr hok (by cases o with
          | none => exact Or.inl rfl
          | some a => exact Or.inr ⟨_, rfl⟩) hq hT.2.2.2.2 hd hlocks
    · cases rt with
      | none => exact hok.elim
      | some ty => exact hok.elim
theorem zgood {ws : List Cond} (h : ∀ w ∈ ws, w ∈ zWd) : GoodIn zWd ws := fun w hw => zWd_good (h w hw)
theorem zblind (g : zG) (h : zH) (as : List zV) : FrameBlind (va_Pc (as.map (zv g)) (zB g h)) := fun a U f mk q => ⟨q.1, q.2.1, q.2.2.1, q.2.2.2.call f mk a⟩
theorem zsum (g : zG) : ∀ rest : List zV, ((rest.map (zv g)).map (fun v => v.category)).sum = rest.length
  | [] => rfl
  | v :: rest => by
    have := zsum g rest
    simp only [List.map_cons, List.sum_cons, zv_cat, this, List.length_cons]
    omega
def zMp (J : zJ) (n : Nat) : Prop := J.1.cls ≠ "java/lang/invoke/MethodHandle" ∧ J.1.cls ≠ "java/lang/invoke/VarHandle" ∧ (parseMethodDescriptor J.1.desc).map (fun d => d.parameters.length) = some n
def zMv (J : zJ) (n : Nat) : Prop := (Cond.instanceMethod J.1 ∈ zWd ∧ Cond.selects J.1.cls J.1 J.1 ∈ zWd ∧ Cond.initialized J.1.cls ∈ zWd ∧ Cond.code J.1 J.2.1 J.2.2.1 J.2.2.2.1 ∈ zWd) ∧ zMp J n
def zMs (J : zJ) (n : Nat) : Prop := (Cond.static J.1 ∈ zWd ∧ Cond.initialized J.1.cls ∈ zWd ∧ Cond.code J.1 J.2.1 J.2.2.1 J.2.2.2.1 ∈ zWd) ∧ zMp J n
def zMc (J : zJ) (n : Nat) : Prop := (Cond.instanceMethod J.1 ∈ zWd ∧ Cond.initialized J.1.cls ∈ zWd ∧ Cond.code J.1 J.2.1 J.2.2.1 J.2.2.2.1 ∈ zWd) ∧ J.1.name = "<init>" ∧ J.2.2.2.1 = none ∧ zMp J n
def zFits (J J' : zJ) : Prop := J'.2.2.2.2.1 + 1 ≤ J.2.2.2.2.1 ∧ 8 + (J'.2.2.1 + 11) + J'.2.2.2.2.2 ≤ J.2.2.2.2.2
section zcalls
variable {g : zG} {J J' : zJ} {h0 : zH} {pc idx n : Nat} {L : List (Option zV)} {rest as : List zV} {h h1 : zH} {r r1 : Option zV} {h' : zH}
theorem zpre {p : Program} {s : State} {m : MethodId} {args : Array Value} {meth : Method} {c : Code} {H : Heap} {locs : List Loc} (X : zX g J p s m args meth c) (hT : zT g s h H locs) (U : State) (hU : U.heap = H) (hW : s.WarmedH U.vm) : va_Pc (as.map (zv g)) (zB g h) (as.map (zv g)).toArray U :=
  ⟨rfl, by rw [hU]; exact hT.1, by rw [hU]; exact hT.2.1, zU.warm X.2.2.2.2.2.2.1 hW (fun a h1 h2 => by rw [hU]; exact hT.2.2.2.1 a h1 h2)⟩
theorem zstk (st : List zV) (a : Nat) : ((as.reverse ++ zr (some a) :: rest).map (zv g)) = (as.map (zv g)).reverse ++ .ref (g.2.2.1 + a) :: rest.map (zv g) := by
  simp [List.map_reverse, zv, va_rf]
theorem zr_callV {a ci : Nat} {fs : List zV} {q : vw_C} (hl : Cond.methodLink J.1.cls idx J'.1 ∈ zWd) (hM : zMv J' n) (hF : zFits J J') (hd : decode J.2.1 pc = .ok (.invokevirtual idx, 3)) (hn : as.length = n) (hrest : rest.length ≤ 8) (hq : vwCl[ci]? = some q) (hq1 : q.1 = J'.1.cls) (ha : h[a]? = some (.inr (ci, fs))) (hc : zCa g J' (zr (some a) :: as) h r1 h1)
    (kk : zR g J h0 (pc + 3) L (r1.toList ++ rest) h1 r h') : zR g J h0 pc L (as.reverse ++ zr (some a) :: rest) h r h' := by
  refine zR.stepC hc.1 (fun {p l e R s m args below meth c H locs cells slots ls} X b1 b2 hT hL b3 b4 => ?_) kk
  obtain ⟨⟨m1, m2, m3, m4⟩, m5, m6, m7⟩ := hM
  have hgood : GoodIn zWd (wsV J.1.cls idx J'.1.cls J'.1 (zWs J')) := zgood (fun w hw => by
    simp only [wsV, zWs, List.cons_append, List.nil_append, List.mem_cons] at hw
    rcases hw with rfl | rfl | rfl | rfl | rfl | hw
    · exact hl
    · exact m1
    · exact m2
    · exact m3
    · exact m4
    · exact hw)
  have hrec := va_recv X.2.2.2.2.2.2.1.1 hT.2.1 hq (zw_get ha)
  rw [hq1] at hrec
  rw [zstk []]
  exact va_runV (As := as.map (zv g)) (rest := rest.map (zv g)) (b := g.2.2.1 + a) ⟨X.1, X.2.1, X.2.2.1, X.2.2.2.1, X.2.2.2.2.1⟩ (hc.2 l) (cwV n X.2.2.2.2.1 hgood rfl rfl rfl ⟨rfl, m5, m6, m7⟩ ⟨Nat.le_trans hF.1 b1, Nat.le_trans hF.2 b2⟩) ⟨zblind g h _, hrec, fun U hU hW => zpre X hT U hU hW⟩ rfl (by simpa using hn) hL.1 rfl (lv_room (by rw [zsum]; exact hrest)) hd ⟨b3, b4⟩
theorem zr_callS (hl : Cond.methodLink J.1.cls idx J'.1 ∈ zWd) (hM : zMs J' n) (hF : zFits J J') (hd : decode J.2.1 pc = .ok (.invokestatic idx, 3)) (hn : as.length = n) (hrest : rest.length ≤ 8) (hc : zCa g J' as h r1 h1)
    (kk : zR g J h0 (pc + 3) L (r1.toList ++ rest) h1 r h') : zR g J h0 pc L (as.reverse ++ rest) h r h' := by
  refine zR.stepC hc.1 (fun {p l e R s m args below meth c H locs cells slots ls} X b1 b2 hT hL b3 b4 => ?_) kk
  obtain ⟨⟨m1, m3, m4⟩, m5, m6, m7⟩ := hM
  have hgood : GoodIn zWd (va_wsS J.1.cls idx J'.1 (zWs J')) := zgood (fun w hw => by
    simp only [va_wsS, zWs, List.cons_append, List.nil_append, List.mem_cons] at hw
    rcases hw with rfl | rfl | rfl | rfl | hw
    · exact hl
    · exact m1
    · exact m3
    · exact m4
    · exact hw)
  rw [List.map_append, List.map_reverse]
  exact va_runS (As := as.map (zv g)) (rest := rest.map (zv g)) ⟨X.1, X.2.1, X.2.2.1, X.2.2.2.1, X.2.2.2.2.1⟩ (hc.2 l) (va_cwS n X.2.2.2.2.1 hgood rfl rfl rfl ⟨m5, m6, m7⟩ ⟨Nat.le_trans hF.1 b1, Nat.le_trans hF.2 b2⟩) ⟨zblind g h _, fun U hU hW => zpre X hT U hU hW⟩ rfl (by simpa using hn) hL.1 rfl (lv_room (by rw [zsum]; exact hrest)) hd ⟨b3, b4⟩
theorem zr_callI {a : Nat} (hl : Cond.methodLink J.1.cls idx J'.1 ∈ zWd) (hM : zMc J' n) (hF : zFits J J') (hd : decode J.2.1 pc = .ok (.invokespecial idx, 3)) (hn : as.length = n) (hrest : rest.length ≤ 8) (hc : zCa g J' (zr (some a) :: as) h r1 h1)
    (kk : zR g J h0 (pc + 3) L (r1.toList ++ rest) h1 r h') : zR g J h0 pc L (as.reverse ++ zr (some a) :: rest) h r h' := by
  refine zR.stepC hc.1 (fun {p l e R s m args below meth c H locs cells slots ls} X b1 b2 hT hL b3 b4 => ?_) kk
  obtain ⟨⟨m1, m3, m4⟩, m8, m9, m5, m6, m7⟩ := hM
  have hgood : GoodIn zWd (zWs J') := zgood (fun w hw => by
    simp only [zWs, List.mem_cons] at hw
    rcases hw with rfl | hw
    · exact m4
    · exact hw)
  rw [zstk []]
  exact va_runI (As := as.map (zv g)) (rest := rest.map (zv g)) (b := g.2.2.1 + a) ⟨X.1, X.2.1, X.2.2.1, X.2.2.2.1, X.2.2.2.2.1⟩ (hc.2 l) (cwI n X.2.2.2.2.1 hgood (ws' := zWd) (bytes := J'.2.1) (maxL := J'.2.2.1) (by rw [zWs, m9]) rfl rfl (X.2.2.2.2.1 _ m3) (X.2.2.2.2.1 _ hl) (X.2.2.2.2.1 _ m1) m8 ⟨m5, m6, m7⟩ ⟨Nat.le_trans hF.1 b1, Nat.le_trans hF.2 b2⟩) ⟨zblind g h _, fun U hU hW => zpre (as := zr (some a) :: as) X hT U hU hW⟩ rfl (by simpa using hn) hL.1 rfl (lv_room (by rw [zsum]; exact hrest)) hd ⟨b3, b4⟩
theorem zr_callIN {a : Nat} {host : String} (hl : Cond.methodLinkNest J.1.cls idx J'.1 host ∈ zNw) (hM : zMc J' n) (hF : zFits J J') (hd : decode J.2.1 pc = .ok (.invokespecial idx, 3)) (hn : as.length = n) (hrest : rest.length ≤ 8) (hc : zCa g J' (zr (some a) :: as) h r1 h1)
    (kk : zR g J h0 (pc + 3) L (r1.toList ++ rest) h1 r h') : zR g J h0 pc L (as.reverse ++ zr (some a) :: rest) h r h' := by
  refine zR.stepC hc.1 (fun {p l e R s m args below meth c H locs cells slots ls} X b1 b2 hT hL b3 b4 => ?_) kk
  obtain ⟨⟨m1, m3, m4⟩, m8, m9, m5, m6, m7⟩ := hM
  have hgood : GoodIn zWd (zWs J') := zgood (fun w hw => by
    simp only [zWs, List.mem_cons] at hw
    rcases hw with rfl | hw
    · exact m4
    · exact hw)
  rw [zstk []]
  exact va_runIN (host := host) (As := as.map (zv g)) (rest := rest.map (zv g)) (b := g.2.2.1 + a) ⟨X.1, X.2.1, X.2.2.1, X.2.2.2.1, X.2.2.2.2.1⟩ (hc.2 l) ⟨va_cnB n X.2.2.2.2.1 hgood (ws' := zWd) (bytes := J'.2.1) (maxL := J'.2.2.1) (by rw [zWs, m9]) rfl rfl (X.2.2.2.2.2.2.1.2.1 _ hl) (X.2.2.2.2.1 _ m3) ⟨m5, m6, m7⟩ ⟨Nat.le_trans hF.1 b1, Nat.le_trans hF.2 b2⟩, m8, X.2.2.2.2.1 _ m1⟩ ⟨zblind g h _, fun U hU hW => zpre (as := zr (some a) :: as) X hT U hU hW⟩ rfl (by simpa using hn) hL.1 rfl (lv_room (by rw [zsum]; exact hrest)) hd ⟨b3, b4⟩
theorem zr_callSN {host : String} (hl : Cond.methodLinkNest J.1.cls idx J'.1 host ∈ zNw) (hM : zMs J' n) (hF : zFits J J') (hd : decode J.2.1 pc = .ok (.invokestatic idx, 3)) (hn : as.length = n) (hrest : rest.length ≤ 8) (hc : zCa g J' as h r1 h1)
    (kk : zR g J h0 (pc + 3) L (r1.toList ++ rest) h1 r h') : zR g J h0 pc L (as.reverse ++ rest) h r h' := by
  refine zR.stepC hc.1 (fun {p l e R s m args below meth c H locs cells slots ls} X b1 b2 hT hL b3 b4 => ?_) kk
  obtain ⟨⟨m1, m3, m4⟩, m5, m6, m7⟩ := hM
  have hgood : GoodIn zWd (zWs J') := zgood (fun w hw => by
    simp only [zWs, List.mem_cons] at hw
    rcases hw with rfl | hw
    · exact m4
    · exact hw)
  rw [List.map_append, List.map_reverse]
  exact va_runSN (host := host) (As := as.map (zv g)) (rest := rest.map (zv g)) ⟨X.1, X.2.1, X.2.2.1, X.2.2.2.1, X.2.2.2.2.1⟩ (hc.2 l) ⟨va_cnB n X.2.2.2.2.1 hgood rfl rfl rfl (X.2.2.2.2.2.2.1.2.1 _ hl) (X.2.2.2.2.1 _ m3) ⟨m5, m6, m7⟩ ⟨Nat.le_trans hF.1 b1, Nat.le_trans hF.2 b2⟩, X.2.2.2.2.1 _ m1, trivial⟩ ⟨zblind g h _, fun U hU hW => zpre X hT U hU hW⟩ rfl (by simpa using hn) hL.1 rfl (lv_room (by rw [zsum]; exact hrest)) hd ⟨b3, b4⟩
theorem zr_objInit {a : Nat} (hl : Cond.methodLink J.1.cls idx objectInit ∈ zWd) (h1 : Cond.instanceMethod objectInit ∈ zWd) (h2 : Cond.code objectInit ⟨#[0xb1]⟩ 1 none ∈ zWd) (hf : 1 ≤ J.2.2.2.2.1 ∧ rest.length + 12 ≤ J.2.2.2.2.2) (hd : decode J.2.1 pc = .ok (.invokespecial idx, 3)) (kk : zR g J h0 (pc + 3) L rest h r h') : zR g J h0 pc L (zr (some a) :: rest) h r h' := by
  refine zR.step (fun {p l e R s m args below meth c Q H locs cells slots ls} X b1 b2 _ _ hT hL kk => ?_) kk
  exact W.objInit (a := g.2.2.1 + a) (rest := rest.map (zv g)) X.1 X.2.1 X.2.2.2.1 (X.2.2.2.2.1 _ hl) (X.2.2.2.2.1 _ h1) (X.2.2.2.2.1 _ h2) rfl (by rw [X.2.2.1]; exact hL.1) rfl hd (Nat.le_trans hf.1 b1) (by show 2 * 0 + _ + 12 ≤ _; rw [zsum]; have := hf.2; omega) (kk _ hL)
theorem zr_mmax {x y : Int32} (w1 : Cond.methodLink J.1.cls idx Lib.Math.max.name ∈ zWd) (w2 : Cond.static Lib.Math.max.name ∈ zWd) (w3 : Cond.initialized "java/lang/Math" ∈ zWd) (w4 : Cond.code Lib.Math.max.name Lib.Math.max.code 2 (some .int) ∈ zWd) (hf : 1 ≤ J.2.2.2.2.1 ∧ rest.length + 13 ≤ J.2.2.2.2.2) (hd : decode J.2.1 pc = .ok (.invokestatic idx, 3)) (kk : zR g J h0 (pc + 3) L (zi (if x < y then y else x) :: rest) h r h') : zR g J h0 pc L (zi y :: zi x :: rest) h r h' := by
  refine zR.step (fun {p l e R s m args below meth c Q H locs cells slots ls} X b1 b2 b3 b4 hT hL kk => ?_) kk
  exact va_mmax X.1 X.2.1 (by rw [X.2.2.1]; exact hL.1.symm) X.2.2.2.1 (X.2.2.2.2.1 _ w1) (X.2.2.2.2.1 _ w2) (X.2.2.2.2.1 _ w3) (X.2.2.2.2.1 _ w4) (Nat.le_trans hf.1 b1) (by rw [zsum]; have := hf.2; omega) b3 b4 hd (kk _ hL)
theorem zr_mmin {x y : Int32} (w1 : Cond.methodLink J.1.cls idx Lib.Math.min.name ∈ zWd) (w2 : Cond.static Lib.Math.min.name ∈ zWd) (w3 : Cond.initialized "java/lang/Math" ∈ zWd) (w4 : Cond.code Lib.Math.min.name Lib.Math.min.code 2 (some .int) ∈ zWd) (hf : 1 ≤ J.2.2.2.2.1 ∧ rest.length + 13 ≤ J.2.2.2.2.2) (hd : decode J.2.1 pc = .ok (.invokestatic idx, 3)) (kk : zR g J h0 (pc + 3) L (zi (if y < x then y else x) :: rest) h r h') : zR g J h0 pc L (zi y :: zi x :: rest) h r h' := by
  refine zR.step (fun {p l e R s m args below meth c Q H locs cells slots ls} X b1 b2 b3 b4 hT hL kk => ?_) kk
  exact va_mmin X.1 X.2.1 (by rw [X.2.2.1]; exact hL.1.symm) X.2.2.2.1 (X.2.2.2.2.1 _ w1) (X.2.2.2.2.1 _ w2) (X.2.2.2.2.1 _ w3) (X.2.2.2.2.1 _ w4) (Nat.le_trans hf.1 b1) (by rw [zsum]; have := hf.2; omega) b3 b4 hd (kk _ hL)
/-- clone of an array, and the cast behind it -/
def zMk (own : String) (idx : Nat) (ad : String) : Prop := Cond.methodLink own idx ⟨ad, "clone", "()Ljava/lang/Object;"⟩ ∈ zWd ∧ Cond.sameMethod ad "java/lang/Object" "clone" "()Ljava/lang/Object;" ∈ zWd ∧ Cond.native ⟨"java/lang/Object", "clone", "()Ljava/lang/Object;"⟩ ∈ zWd ∧ Cond.instanceMethod ⟨"java/lang/Object", "clone", "()Ljava/lang/Object;"⟩ ∈ zWd ∧ Cond.selects ad ⟨ad, "clone", "()Ljava/lang/Object;"⟩ ⟨"java/lang/Object", "clone", "()Ljava/lang/Object;"⟩ ∈ zWd ∧ Cond.castable ad "java/lang/Cloneable" ∈ zNw
theorem znm {s : State} {cA : ClassId} {ty : FieldType} {ad : String} (h : va_RA s cA ty) (he : "[" ++ ty.toString = ad) : s.vm.findClass ad = some cA := by
  subst he
  cases ty with
  | object C => exact h.choose_spec.choose_spec.2.2.2
  | _ => exact h
theorem zr_clone {a t nn : Nat} {ty : FieldType} {ad : String} {x : (Nat → Int32) ⊕ (Nat → Option Nat)} (hk : zMk J.1.cls idx ad) (ht : zty[t]? = some ty) (had : "[" ++ ty.toString = ad) (hx : match x with | .inl _ => ty = .int | .inr _ => ∃ C, ty = .object C) (hf : 1 ≤ J.2.2.2.2.1 ∧ rest.length + 14 ≤ J.2.2.2.2.2) (hd : decode J.2.1 pc = .ok (.invokevirtual idx, 3)) (ha : h[a]? = some (.inl (t, nn, x)))
    (kk : zR g J h0 (pc + 3) L (zr (some h.length) :: rest) (h ++ [.inl (t, nn, x)]) r h') : zR g J h0 pc L (zr (some a) :: rest) h r h' := by
  obtain ⟨w1, w2, w3, w4, w5, w6⟩ := hk
  refine zR.stepA (e1 := .inl (t, nn, x)) (fun {p l e R s m args below meth c Q H locs cells slots ls} X c1 c2 b1 b2 hT hL hb kk => ?_) kk
  have hK := X.2.2.2.2.2.2.1.1
  have hty := ztys X.2.2.2.2.2.2.2 ht
  have hl9 : ((rest.map (zv g)).map fun v => v.category).sum + 14 ≤ R.locals := by rw [zsum]; have := hf.2; omega
  rcases x with f | f
  · subst hx
    refine va_clone (D := g.1) X.1 X.2.1 (by rw [X.2.2.1]; exact hL.1.symm) X.2.2.2.1 (X.2.2.2.2.1 _ w1) (X.2.2.2.2.1 _ w2) (X.2.2.2.2.1 _ w3) (X.2.2.2.2.1 _ w4) (X.2.2.2.2.1 _ w5) (X.2.2.2.2.2.2.1.2.1 _ w6) hK hT.2.1 (zw_D g h) hT.2.2 (fun q hq => Nat.le_trans hb hq) a t (zw_get ha) hty (znm (hK.2 t _ hty).2 had) (fun i v hv => va_fit (cA := zca g t) (n := nn) (F := fun j => .int (f j)) (ty := .int) (fun _ _ => rfl) i v hv) (Nat.le_trans hf.1 c1) hl9 b1 b2 hd (fun q H1 hK1 hP hD hS => ?_)
    exact kk H1 locs q hP hD hS
  · obtain ⟨C, rfl⟩ := hx
    refine va_clone (D := g.1) X.1 X.2.1 (by rw [X.2.2.1]; exact hL.1.symm) X.2.2.2.1 (X.2.2.2.2.1 _ w1) (X.2.2.2.2.1 _ w2) (X.2.2.2.2.1 _ w3) (X.2.2.2.2.1 _ w4) (X.2.2.2.2.1 _ w5) (X.2.2.2.2.2.2.1.2.1 _ w6) hK hT.2.1 (zw_D g h) hT.2.2 (fun q hq => Nat.le_trans hb hq) a t (zw_get ha) hty (znm (hK.2 t _ hty).2 had) (fun i v hv => va_fit (cA := zca g t) (n := nn) (F := fun j => va_rf ((f j).map (fun a => g.2.2.1 + a))) (ty := .object C) (fun j _ => by cases f j <;> rfl) i v hv) (Nat.le_trans hf.1 c1) hl9 b1 b2 hd (fun q H1 hK1 hP hD hS => ?_)
    exact kk H1 locs q hP hD hS
theorem zr_castA {a t nn : Nat} {ty : FieldType} {ad : String} {x : (Nat → Int32) ⊕ (Nat → Option Nat)} (hl : Cond.classLink J.1.cls idx ad ∈ zWd) (ht : zty[t]? = some ty) (had : "[" ++ ty.toString = ad) (hd : decode J.2.1 pc = .ok (.checkcast idx, 3)) (ha : h[a]? = some (.inl (t, nn, x))) (kk : zR g J h0 (pc + 3) L (zr (some a) :: rest) h r h') : zR g J h0 pc L (zr (some a) :: rest) h r h' := by
  refine zR.step (fun {p l e R s m args below meth c Q H locs cells slots ls} X b1 b2 b3 b4 hT hL kk => ?_) kk
  have hK := X.2.2.2.2.2.2.1.1
  have hty := ztys X.2.2.2.2.2.2.2 ht
  rcases x with f | f
  · exact va_castA (D := g.1) X.1 X.2.1 X.2.2.2.1 (X.2.2.2.2.1 _ hl) hT.2.1 a (zw_get ha) (znm (hK.2 t _ hty).2 had) hd (kk _ hL)
  · exact va_castA (D := g.1) X.1 X.2.1 X.2.2.2.1 (X.2.2.2.2.1 _ hl) hT.2.1 a (zw_get ha) (znm (hK.2 t _ hty).2 had) hd (kk _ hL)
theorem zr_copyi {a0 a n0 n1 : Nat} {f f1 : Nat → Int32} {sp dp n : Int32} (w1 : Cond.methodLink J.1.cls idx arraycopyName ∈ zWd) (w2 : Cond.native arraycopyName ∈ zWd) (w3 : Cond.static arraycopyName ∈ zWd) (w4 : Cond.initialized "java/lang/System" ∈ zWd) (hf : 1 ≤ J.2.2.2.2.1 ∧ rest.length + (nativeFrameWords "java/lang/System" "arraycopy" 5 + 11) ≤ J.2.2.2.2.2) (hd : decode J.2.1 pc = .ok (.invokestatic idx, 3)) (ha0 : h[a0]? = some (.inl (0, n0, .inl f))) (ha : h[a]? = some (.inl (0, n1, .inl f1)))
    (h1 : ¬ sp < 0) (h2 : ¬ dp < 0) (h3 : ¬ n < 0) (h4 : sp.toNatClampNeg + n.toNatClampNeg ≤ n0) (h5 : dp.toNatClampNeg + n.toNatClampNeg ≤ n1)
    (kk : zR g J h0 (pc + 3) L rest (h.set a (.inl (0, n1, .inl (va_cpy f f1 sp.toNatClampNeg dp.toNatClampNeg n.toNatClampNeg)))) r h') : zR g J h0 pc L (zi n :: zi dp :: zr (some a) :: zi sp :: zr (some a0) :: rest) h r h' := by
  refine zR.stepS (List.length_set ..) (zsl_set h a _ _ ha (by rfl)) (fun {p l e R s m args below meth c Q H locs cells slots ls} X b1 b2 hT hL kk => ?_) kk
  have hl9 : ((rest.map (zv g)).map fun v => v.category).sum + (nativeFrameWords "java/lang/System" "arraycopy" 5 + 11) ≤ R.locals := by rw [zsum]; have := hf.2; omega
  refine va_copyi (D := g.1) X.1 X.2.1 (by rw [X.2.2.1]; exact hL.1.symm) X.2.2.2.1 (X.2.2.2.2.1 _ w1) (X.2.2.2.2.1 _ w2) (X.2.2.2.2.1 _ w3) (X.2.2.2.2.1 _ w4) X.2.2.2.2.2.2.1.1 hT.2.1 (zw_D g h) hT.2.2 a0 a 0 0 (zw_get ha0) (zw_get ha) (ztys X.2.2.2.2.2.2.2 rfl) (ztys X.2.2.2.2.2.2.2 rfl) rfl h1 h2 h3 h4 h5 (fun _ _ => rfl) (Nat.le_trans hf.1 b1) hl9 hd (fun H1 locs1 hP hD hS => ?_)
  exact kk H1 locs1 ls (by rw [← zw_set]; exact hP) hS hL
end zcalls
