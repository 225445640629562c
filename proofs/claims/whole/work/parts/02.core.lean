/-! ===== the abstract machine: values, cells, a heap as a list from a base on ===== -/
abbrev zV : Type := Int32 ⊕ (Option Nat ⊕ Nat)
abbrev zi (x : Int32) : zV := Sum.inl x
abbrev zr (o : Option Nat) : zV := Sum.inr (Sum.inl o)
abbrev zs (k : Nat) : zV := Sum.inr (Sum.inr k)
abbrev zE : Type := (Nat × Nat × ((Nat → Int32) ⊕ (Nat → Option Nat))) ⊕ (Nat × List zV)
abbrev zH : Type := List zE
/-- slots of the classes, array classes, the base, the addresses of constants (0 .. 7 texts, 8 the script, 16 .. the texts' bytes, 32 the formatter), nothing, the script's length and ints -/
abbrev zG : Type := va_G × List (ClassId × FieldType) × Nat × (Nat → Nat) × (Nat → Nat) × Nat × (Nat → Int32)
abbrev zJ : Type := MethodName × ByteArray × Nat × Option FieldType × Nat × Nat
def zv (g : zG) (v : zV) : Value := match v with
  | .inl x => .int x
  | .inr (.inl o) => va_rf (o.map (fun a => g.2.2.1 + a))
  | .inr (.inr k) => .ref (g.2.2.2.1 k)
theorem zv_cat (g : zG) (v : zV) : (zv g v).category = 1 := by
  rcases v with x | o | k
  · rfl
  · cases o <;> rfl
  · rfl
def zty : List FieldType := [.int, .byte, .char, .boolean, .object RX0, .object RX9]
def zca (g : zG) (t : Nat) : ClassId := (g.2.1.getD t (0, .int)).1
def zc (g : zG) (e : zE) : va_E := match e with
  | .inl (t, n, .inl f) => .inl (zca g t, n, .inl f)
  | .inl (t, n, .inr f) => .inl (zca g t, n, .inr (.inr (.inr (.inr (fun j => (f j).map (fun a => g.2.2.1 + a))))))
  | .inr (ci, fs) => .inr (ci, fs.map (zv g))
def zw (g : zG) (h : zH) : va_W := h.mapIdx (fun k e => (g.2.2.1 + k, zc g e))
def zA (g : zG) : Nat → Prop := fun q => g.2.2.1 ≤ q
def zsz (e : zE) : Nat := match e with
  | .inl (_, n, _) => n
  | .inr (_, fs) => fs.length
def zsl : zH → Nat
  | [] => 0
  | e :: h => zsz e + zsl h
theorem zw_get {g : zG} {h : zH} {a : Nat} {e : zE} (ha : h[a]? = some e) : (zw g h)[a]? = some (g.2.2.1 + a, zc g e) := by
  simp only [zw, List.getElem?_mapIdx, ha, Option.map_some]
theorem zw_get' {g : zG} {h : zH} {k : Nat} {q : Nat × va_E} (hk : (zw g h)[k]? = some q) : ∃ e, h[k]? = some e ∧ q = (g.2.2.1 + k, zc g e) := by
  simp only [zw, List.getElem?_mapIdx, Option.map_eq_some_iff] at hk
  obtain ⟨e, h1, h2⟩ := hk
  exact ⟨e, h1, h2.symm⟩
theorem zw_set {g : zG} {h : zH} {a : Nat} {e : zE} : (zw g h).set a (g.2.2.1 + a, zc g e) = zw g (h.set a e) := by
  apply List.ext_getElem?
  intro i
  simp only [zw, List.getElem?_mapIdx, List.getElem?_set, List.length_mapIdx]
  by_cases hi : a = i
  · subst hi
    by_cases hl : a < h.length
    · simp [hl]
    · simp [hl]
  · simp [hi]
theorem zw_push {g : zG} {h : zH} {e : zE} : zw g (h ++ [e]) = zw g h ++ [(g.2.2.1 + h.length, zc g e)] := by
  simp [zw, List.mapIdx_append]
theorem zw_D (g : zG) (h : zH) : va_D (zA g) (zw g h) := by
  refine ⟨fun i j p q hi hj hpq => ?_, fun k q hk => ?_⟩
  · obtain ⟨e1, -, rfl⟩ := zw_get' hi
    obtain ⟨e2, -, rfl⟩ := zw_get' hj
    exact Nat.add_left_cancel hpq
  · obtain ⟨e1, -, rfl⟩ := zw_get' hk
    exact Nat.le_add_right _ _
theorem zsl_push (h : zH) (e : zE) : zsl (h ++ [e]) = zsl h + zsz e := by
  induction h with
  | nil => simp [zsl]
  | cons x h ih => simp only [List.cons_append, zsl, ih]; omega
theorem zsl_set : ∀ (h : zH) (a : Nat) (e0 e : zE), h[a]? = some e0 → zsz e = zsz e0 → zsl (h.set a e) = zsl h
  | [], a, e0, e, h1, h2 => by simp at h1
  | x :: h, 0, e0, e, h1, h2 => by
    simp only [List.getElem?_cons_zero, Option.some.injEq] at h1
    subst h1
    simp only [List.set_cons_zero, zsl, h2]
  | x :: h, a + 1, e0, e, h1, h2 => by
    simp only [List.getElem?_cons_succ] at h1
    simp only [List.set_cons_succ, zsl, zsl_set h a e0 e h1 h2]
/-! the locals -/
def zas (g : zG) : Nat → List (Option zV) → List (Nat × Value)
  | _, [] => []
  | k, none :: L => zas g (k + 1) L
  | k, some v :: L => (k, zv g v) :: zas g (k + 1) L
theorem zas_mem {g : zG} : ∀ {k : Nat} {L : List (Option zV)} {q : Nat × Value}, q ∈ zas g k L ↔ ∃ i v, L[i]? = some (some v) ∧ q = (k + i, zv g v)
  | k, [], q => by simp [zas]
  | k, none :: L, q => by
    rw [zas, zas_mem]
    constructor
    · rintro ⟨i, v, h1, h2⟩
      exact ⟨i + 1, v, by simpa using h1, by rw [h2]; congr 1; omega⟩
    · rintro ⟨i, v, h1, h2⟩
      cases i with
      | zero => simp at h1
      | succ i => exact ⟨i, v, by simpa using h1, by rw [h2]; congr 1; omega⟩
  | k, some w :: L, q => by
    rw [zas, List.mem_cons, zas_mem]
    constructor
    · rintro (h | ⟨i, v, h1, h2⟩)
      · exact ⟨0, w, by simp, by rw [h]; congr 1⟩
      · exact ⟨i + 1, v, by simpa using h1, by rw [h2]; congr 1; omega⟩
    · rintro ⟨i, v, h1, h2⟩
      cases i with
      | zero =>
        simp only [List.getElem?_cons_zero, Option.some.injEq] at h1
        subst h1
        exact Or.inl (by rw [h2]; congr 1)
      | succ i => exact Or.inr ⟨i, v, by simpa using h1, by rw [h2]; congr 1; omega⟩
def zL (g : zG) (ls : Array Slot) (nL : Nat) (L : List (Option zV)) : Prop := lv_has ls nL (zas g 0 L)
theorem zL_get {g : zG} {ls : Array Slot} {nL i : Nat} {L : List (Option zV)} {v : zV} (h : zL g ls nL L) (hl : L[i]? = some (some v)) : ls[i]? = some (.val (zv g v)) :=
  h.2.2 (i, zv g v) (zas_mem.mpr ⟨i, v, hl, by rw [Nat.zero_add]⟩)
theorem zL_set {g : zG} {ls : Array Slot} {nL i : Nat} {L : List (Option zV)} {v : zV} {w : Value} (hw : zv g v = w) (h : lv_has ls nL ((i, w) :: (zas g 0 L).filter (fun q => !(q.1 == i) && !(q.1 + 1 == i && q.2.category == 2)))) : zL g ls nL (L.set i (some v)) := by
  subst hw
  refine ⟨h.1, h.2.1, fun q hq => ?_⟩
  obtain ⟨j, w, hj, rfl⟩ := zas_mem.mp hq
  rw [Nat.zero_add]
  by_cases hij : i = j
  · subst hij
    have hl : i < L.length := by
      have := (List.getElem?_eq_some_iff.mp hj).1
      simpa using this
    rw [List.getElem?_set_self hl] at hj
    cases hj
    exact h.2.2 _ List.mem_cons_self
  · rw [List.getElem?_set_ne hij] at hj
    refine h.2.2 (j, zv g w) (List.mem_cons_of_mem _ (List.mem_filter.mpr ⟨zas_mem.mpr ⟨j, w, hj, by rw [Nat.zero_add]⟩, ?_⟩))
    have hji : ¬ j = i := fun z => hij z.symm
    simp [hji, zv_cat]
/-! what is known of the machine's state -/
def zWd : List Cond := lw_tbl.filter goodWord
def zNwB : Cond → Bool
  | .fieldLinkNest _ _ _ _ _ _ => true
  | .methodLinkNest _ _ _ _ => true
  | .castable _ _ => true
  | _ => false
def zNw : List Cond := lw_tbl.filter zNwB
theorem zWd_mem {w : Cond} (h : w ∈ lw_tbl) (h2 : goodWord w = true) : w ∈ zWd := List.mem_filter.mpr ⟨h, h2⟩
theorem zNw_mem {w : Cond} (h : w ∈ lw_tbl) (h2 : zNwB w = true) : w ∈ zNw := List.mem_filter.mpr ⟨h, h2⟩
theorem zWd_good {w : Cond} (h : w ∈ zWd) : w ∈ zWd ∧ ((w.onTables && w.keeps) = true ∨ ∃ ty, w = .arrayClass ty) := ⟨h, good_of_word (List.mem_filter.mp h).2⟩
def zSt : List (Nat × String) := [(65, "face"), (75, "leg"), (80, "most"), (91, "last"), (93, "nearest"), (95, "bounced"), (101, "passed"), (103, "shaft")]
def zSl : List Nat := [4, 3, 4, 4, 7, 7, 6, 5]
def zSb : List (List Int32) := [[102, 97, 99, 101], [108, 101, 103], [109, 111, 115, 116], [108, 97, 115, 116], [110, 101, 97, 114, 101, 115, 116], [98, 111, 117, 110, 99, 101, 100], [112, 97, 115, 115, 101, 100], [115, 104, 97, 102, 116]]
def zFo : String × String × String := ("jdk/internal/util/Preconditions", "SIOOBE_FORMATTER", "Ljava/util/function/BiFunction;")
def zStr (g : zG) (U : State) : Prop := va_Z "java/lang/String" "COMPACT_STRINGS" "Z" (.int 1) (zA g) U U.heap ∧ (∀ i, i < 8 → vk_R RX5 (zSt.getD i (0, "")).1 (zSt.getD i (0, "")).2 (g.2.2.2.1 i) U) ∧ vk_S 8 zSl zSb g.2.2.2.1 (fun k => g.2.2.2.1 (16 + k)) (zA g) U U.heap ∧ va_X (g.2.2.2.1 8) g.2.2.2.2.2.1 g.2.2.2.2.2.2 U U.heap ∧ ¬ zA g (g.2.2.2.1 8) ∧ (va_Z zFo.1 zFo.2.1 zFo.2.2 .null (zA g) U U.heap ∨ va_Z zFo.1 zFo.2.1 zFo.2.2 (.ref (g.2.2.2.1 32)) (zA g) U U.heap)
def zU (g : zG) (U : State) : Prop := va_K g.1 vwCl g.2.1 U ∧ (∀ w ∈ zNw, va_Nw w U) ∧ va_AO RX0 U ∧ va_AO RX9 U ∧ zStr g U
theorem zX.moved {b L : Nat} {xs : Nat → Int32} {u U : State} {H : Heap} (hvm : u.vm.Alike U.vm) (h : va_X b L xs u H) : va_X b L xs U H := by
  obtain ⟨scr, h1, h2, h3, h4, h5⟩ := h
  exact ⟨scr, h1, State.isArrayOf_alike hvm h2, h3, h4, h5⟩
theorem zX.kept {b L : Nat} {xs : Nat → Int32} {A : Nat → Prop} {U : State} {H H1 : Heap} (h : va_X b L xs U H) (hA : ¬ A b) (hq : ∀ a : Nat, a < H.size → ¬ A a → H1[a]? = H[a]?) : va_X b L xs U H1 := by
  obtain ⟨scr, h1, h2, h3, h4, h5⟩ := h
  exact ⟨scr, by rw [hq b (Array.getElem?_eq_some_iff.mp h1).1 hA]; exact h1, h2, h3, h4, h5⟩
theorem zNw_on {w : Cond} (h : zNwB w = true) : w.onTables = true := by
  cases w <;> first | rfl | (exfalso; simp [zNwB] at h; done)
theorem zU.call {g : zG} {U : State} (h : zU g U) (f : JFrame) (mk : MethodId) (a : Array Value) : zU g (U.calling f mk a) := by
  obtain ⟨h1, h2, h3, h4, h5, h6, h7, h8, h9, h10⟩ := h
  refine ⟨va_K.moved (u := U) (Vm.Alike.refl U.vm) h1, fun w hw => va_Nw.same (zNw_on (List.mem_filter.mp hw).2) (u := U) rfl (h2 w hw), va_AO.moved (u := U) (Vm.Alike.refl U.vm) h3, va_AO.moved (u := U) (Vm.Alike.refl U.vm) h4, ?_, fun i hi => vk_R.same (u := U) rfl (h6 i hi), ?_, zX.moved (u := U) (Vm.Alike.refl U.vm) h8, h9, h10.imp (va_Z.moved (u := U) (Vm.Alike.refl U.vm)) (va_Z.moved (u := U) (Vm.Alike.refl U.vm))⟩
  · exact va_Z.moved (u := U) (Vm.Alike.refl U.vm) h5
  · exact vk_S.moved (u := U) (Vm.Alike.refl U.vm) h7
theorem zU.warm {g : zG} {s U : State} (h : zU g s) (hW : s.WarmedH U.vm) (hk : ∀ a : Nat, a < s.heap.size → ¬ zA g a → U.heap[a]? = s.heap[a]?) : zU g U := by
  obtain ⟨h1, h2, h3, h4, h5, h6, h7, h8, h9, h10⟩ := h
  refine ⟨va_K.moved hW.alike h1, fun w hw => ?_, va_AO.moved hW.alike h3, va_AO.moved hW.alike h4, (va_Z.moved hW.alike h5).kept hk, fun i hi => vk_R.warm hW (h6 i hi), (vk_S.moved hW.alike h7).kept hk, zX.kept (zX.moved hW.alike h8) h9 hk, h9, h10.imp (fun q => (va_Z.moved hW.alike q).kept hk) (fun q => (va_Z.moved hW.alike q).kept hk)⟩
  have hb := (List.mem_filter.mp hw).2
  have h0 := h2 w hw
  cases w <;> first
    | exact va_Nw.warmF hW h0
    | exact va_Nw.warmM hW h0
    | exact va_Nw.warmC hW h0
    | (exfalso; simp [zNwB] at hb; done)
def zX (g : zG) (J : zJ) (p : Program) (s : State) (m : MethodId) (args : Array Value) (meth : Method) (c : Code) : Prop :=
  p.tables.exec = Jvm.exec ∧ c.code = J.2.1 ∧ c.maxLocals = J.2.2.1 ∧ s.vm.findClass J.1.cls = some m.cls ∧ (∀ w ∈ zWd, w.before args s = true) ∧ (J.1.name = "<init>" → meth.name = "<init>") ∧ zU g s ∧ g.2.1.map (fun q => q.2) = zty
def zT (g : zG) (s : State) (h : zH) (H : Heap) (locs : List Loc) : Prop := H.size = g.2.2.1 + h.length ∧ va_P g.1 vwCl (zw g h) H ∧ va_S (zA g) s.heap H locs
def zret (r : Option zV) : Instr := match r with
  | none => .return_
  | some (.inl _) => .ireturn
  | some (.inr _) => .areturn
def zok (ret : Option FieldType) (r : Option zV) : Prop := match ret, r with
  | none, none => True
  | some ty, some (.inl x) => narrow ty (.int x) = .int x
  | some ty, some (.inr (.inl _)) => (∃ n, ty = .object n) ∨ ∃ t, ty = .array t
  | _, _ => False
/-- from pc on, with these locals, this stack and this heap the method comes to its end with the answer r and the heap h' -/
def zR (g : zG) (J : zJ) (h0 : zH) (pc : Nat) (L : List (Option zV)) (st : List zV) (h : zH) (r : Option zV) (h' : zH) : Prop :=
  (h.length ≤ h'.length ∧ zsl h ≤ zsl h') ∧ zok J.2.2.2.1 r ∧ (h0.length ≤ h.length → zsl h0 ≤ zsl h →
    ∀ (p : Program) (l : Launch) (e : Env) (R : Room) (s : State) (m : MethodId) (args : Array Value) (below : List Frame) (meth : Method) (c : Code) (Q : State → Prop), zX g J p s m args meth c → s.heap.size = g.2.2.1 + h0.length →
      J.2.2.2.2.1 ≤ R.frames → J.2.2.2.2.2 ≤ R.locals → h'.length - h0.length ≤ R.cells → zsl h' - zsl h0 ≤ R.slots →
      (∀ (pc' : Nat) (ls : Array Slot) (H : Heap) (locs : List Loc), zT g s h' H locs → decode J.2.1 pc' = .ok (zret r, 1) → W p l e R s m args below meth c H locs (h'.length - h0.length) (zsl h' - zsl h0) Q (F0 m pc' ls (r.toList.map (zv g)))) →
      ∀ (H : Heap) (locs : List Loc) (ls : Array Slot), zT g s h H locs → zL g ls J.2.2.1 L → W p l e R s m args below meth c H locs (h.length - h0.length) (zsl h - zsl h0) Q (F0 m pc ls (st.map (zv g))))
theorem zfix {p : Program} {l : Launch} {e : Env} {R : Room} {s : State} {m : MethodId} {args : Array Value} {below : List Frame} {meth : Method} {c : Code} {Q : State → Prop} {g : zG} {h0 h : zH} {H : Heap} {locs : List Loc} {slots : Nat} {f : JFrame} (hs : s.heap.size = g.2.2.1 + h0.length) (hl : h0.length ≤ h.length) (hP : va_P g.1 vwCl (zw g h) H) (hS : va_S (zA g) s.heap H locs)
    (k : zT g s h H locs → W p l e R s m args below meth c H locs (h.length - h0.length) slots Q f) : W p l e R s m args below meth c H locs (h.length - h0.length) slots Q f := by
  intro T hT X
  have hz := X.heapSize
  rw [hT] at hz
  refine k ⟨?_, hP, hS⟩ T hT X
  have h1 : g.2.2.1 + h.length ≤ H.size := by
    by_cases hn : h.length = 0
    · have := hS.1
      omega
    · have hlt : h.length - 1 < h.length := by omega
      have h2 := hP (h.length - 1) _ (zw_get (List.getElem?_eq_getElem hlt))
      have h3 := h2.lt
      show g.2.2.1 + h.length ≤ H.size
      have h4 : g.2.2.1 + (h.length - 1) < H.size := h3
      omega
  omega
/-! ===== steps ===== -/
theorem zR.step {g : zG} {J : zJ} {h0 : zH} {pc pc' : Nat} {L L' : List (Option zV)} {st st' : List zV} {h : zH} {r : Option zV} {h' : zH}
    (hw : ∀ {p : Program} {l : Launch} {e : Env} {R : Room} {s : State} {m : MethodId} {args : Array Value} {below : List Frame} {meth : Method} {c : Code} {Q : State → Prop} {H : Heap} {locs : List Loc} {cells slots : Nat} {ls : Array Slot}, zX g J p s m args meth c → J.2.2.2.2.1 ≤ R.frames → J.2.2.2.2.2 ≤ R.locals → cells ≤ R.cells → slots ≤ R.slots → zT g s h H locs → zL g ls J.2.2.1 L →
      (∀ ls' : Array Slot, zL g ls' J.2.2.1 L' → W p l e R s m args below meth c H locs cells slots Q (F0 m pc' ls' (st'.map (zv g)))) → W p l e R s m args below meth c H locs cells slots Q (F0 m pc ls (st.map (zv g))))
    (k : zR g J h0 pc' L' st' h r h') : zR g J h0 pc L st h r h' :=
  ⟨k.1, k.2.1, fun a1 a2 p l e R s m args below meth c Q X hs f1 f2 f3 f4 hr H locs ls hT hL => hw X f1 f2 (by have := k.1.1; omega) (by have := k.1.2; omega) hT hL (fun ls' hL' => k.2.2 a1 a2 p l e R s m args below meth c Q X hs f1 f2 f3 f4 hr H locs ls' hT hL')⟩
theorem zR.stepS {g : zG} {J : zJ} {h0 : zH} {pc pc' : Nat} {L L' : List (Option zV)} {st st' : List zV} {h h1 : zH} {r : Option zV} {h' : zH} (hl : h1.length = h.length) (hz : zsl h1 = zsl h)
    (hw : ∀ {p : Program} {l : Launch} {e : Env} {R : Room} {s : State} {m : MethodId} {args : Array Value} {below : List Frame} {meth : Method} {c : Code} {Q : State → Prop} {H : Heap} {locs : List Loc} {cells slots : Nat} {ls : Array Slot}, zX g J p s m args meth c → J.2.2.2.2.1 ≤ R.frames → J.2.2.2.2.2 ≤ R.locals → zT g s h H locs → zL g ls J.2.2.1 L →
      (∀ (H1 : Heap) (locs1 : List Loc) (ls' : Array Slot), va_P g.1 vwCl (zw g h1) H1 → va_S (zA g) s.heap H1 locs1 → zL g ls' J.2.2.1 L' → W p l e R s m args below meth c H1 locs1 cells slots Q (F0 m pc' ls' (st'.map (zv g)))) → W p l e R s m args below meth c H locs cells slots Q (F0 m pc ls (st.map (zv g))))
    (k : zR g J h0 pc' L' st' h1 r h') : zR g J h0 pc L st h r h' := by
  refine ⟨⟨hl ▸ k.1.1, hz ▸ k.1.2⟩, k.2.1, fun a1 a2 p l e R s m args below meth c Q X hs f1 f2 f3 f4 hr H locs ls hT hL => hw X f1 f2 hT hL (fun H1 locs1 ls' hP1 hS1 hL1 => ?_)⟩
  have hk := k.2.2 (by omega) (by omega) p l e R s m args below meth c Q X hs f1 f2 f3 f4 hr H1 locs1 ls'
  rw [← hl, ← hz]
  exact zfix hs (by omega) hP1 hS1 (fun hT1 => hk hT1 hL1)
theorem zR.stepA {g : zG} {J : zJ} {h0 : zH} {pc pc' : Nat} {L : List (Option zV)} {st st' : List zV} {h : zH} {e1 : zE} {r : Option zV} {h' : zH}
    (hw : ∀ {p : Program} {l : Launch} {e : Env} {R : Room} {s : State} {m : MethodId} {args : Array Value} {below : List Frame} {meth : Method} {c : Code} {Q : State → Prop} {H : Heap} {locs : List Loc} {cells slots : Nat} {ls : Array Slot}, zX g J p s m args meth c → J.2.2.2.2.1 ≤ R.frames → J.2.2.2.2.2 ≤ R.locals → cells + 1 ≤ R.cells → slots + zsz e1 ≤ R.slots → zT g s h H locs → zL g ls J.2.2.1 L → g.2.2.1 ≤ s.heap.size →
      (∀ (H1 : Heap) (locs1 : List Loc) (q : Nat), va_P g.1 vwCl (zw g h ++ [(q, zc g e1)]) H1 → va_D (zA g) (zw g h ++ [(q, zc g e1)]) → va_S (zA g) s.heap H1 locs1 → W p l e R s m args below meth c H1 locs1 (cells + 1) (slots + zsz e1) Q (F0 m pc' ls (.ref q :: st'.map (zv g)))) → W p l e R s m args below meth c H locs cells slots Q (F0 m pc ls (st.map (zv g))))
    (k : zR g J h0 pc' L (zr (some h.length) :: st') (h ++ [e1]) r h') : zR g J h0 pc L st h r h' := by
  have hl : (h ++ [e1]).length = h.length + 1 := by simp
  have hz := zsl_push h e1
  have k1 := k.1
  rw [hl, hz] at k1
  refine ⟨⟨by omega, by omega⟩, k.2.1, fun a1 a2 p l e R s m args below meth c Q X hs f1 f2 f3 f4 hr H locs ls hT hL => hw X f1 f2 (by omega) (by omega) hT hL (by omega) (fun H1 locs1 q hP1 hD1 hS1 => ?_)⟩
  have hk := k.2.2 (by omega) (by omega) p l e R s m args below meth c Q X hs f1 f2 f3 f4 hr H1 locs1 ls
  rw [hl, hz] at hk
  intro T hT2 X2
  have hsz := X2.heapSize
  rw [hT2] at hsz
  have hq1 : (zw g h ++ [(q, zc g e1)])[h.length]? = some (q, zc g e1) := by
    rw [List.getElem?_append_right (by simp [zw])]
    simp [zw]
  have hlt : q < H1.size := (hP1 h.length _ hq1).lt
  have hge : g.2.2.1 ≤ q := hD1.2 h.length _ hq1
  have hne : ∀ j, j < h.length → q ≠ g.2.2.1 + j := by
    intro j hj hqj
    have hg1 : (zw g h ++ [(q, zc g e1)])[j]? = some (g.2.2.1 + j, zc g h[j]) := by
      rw [List.getElem?_append_left (by simpa [zw] using hj)]
      exact zw_get (List.getElem?_eq_getElem hj)
    have := hD1.1 h.length j _ _ hq1 hg1 hqj
    omega
  have hq : q = g.2.2.1 + h.length := by
    have h2 : ¬ q < g.2.2.1 + h.length := fun hc => hne (q - g.2.2.1) (by omega) (by omega)
    omega
  subst hq
  rw [← zw_push] at hP1
  have hT1 : zT g s (h ++ [e1]) H1 locs1 := ⟨by rw [hl]; omega, hP1, hS1⟩
  have hk2 := hk hT1 hL
  have c1 : h.length + 1 - h0.length = h.length - h0.length + 1 := by omega
  have c2 : zsl h + zsz e1 - zsl h0 = zsl h - zsl h0 + zsz e1 := by omega
  rw [c1, c2] at hk2
  exact hk2 T hT2 X2
def zQ3 (g : zG) (r : Option zV) (h' : zH) : State → Outcome → State → Prop := fun st oc t => (oc = .returned (r.map (zv g)) ∧ va_P g.1 vwCl (zw g h') t.heap) ∧ va_F (zA g) st t
theorem zR.stepC {g : zG} {J : zJ} {h0 : zH} {pc : Nat} {L : List (Option zV)} {st rest : List zV} {h h1 : zH} {r1 r : Option zV} {h' : zH} (hm : h.length ≤ h1.length ∧ zsl h ≤ zsl h1)
    (hw : ∀ {p : Program} {l : Launch} {e : Env} {R : Room} {s : State} {m : MethodId} {args : Array Value} {below : List Frame} {meth : Method} {c : Code} {H : Heap} {locs : List Loc} {cells slots : Nat} {ls : Array Slot}, zX g J p s m args meth c → J.2.2.2.2.1 ≤ R.frames → J.2.2.2.2.2 ≤ R.locals → zT g s h H locs → zL g ls J.2.2.1 L → cells + (h1.length - h.length) ≤ R.cells → slots + (zsl h1 - zsl h) ≤ R.slots →
      va_Run p l e R s m args below meth c H locs cells slots (h1.length - h.length) (zsl h1 - zsl h) (F0 m pc ls (st.map (zv g))) (rest.map (zv g)) (zQ3 g r1 h1) (zA g))
    (k : zR g J h0 (pc + 3) L (r1.toList ++ rest) h1 r h') : zR g J h0 pc L st h r h' := by
  have k1 := k.1
  refine ⟨⟨by omega, by omega⟩, k.2.1, fun a1 a2 p l e R s m args below meth c Q X hs f1 f2 f3 f4 hr H locs ls hT hL => ?_⟩
  have hk := k.2.2 (by omega) (by omega) p l e R s m args below meth c Q X hs f1 f2 f3 f4 hr
  have hrun := hw (below := below) (e := e) (l := l) X f1 f2 hT hL (cells := h.length - h0.length) (slots := zsl h - zsl h0) (by omega) (by omega)
  intro T hT2 X2
  obtain ⟨v, st₀, t, T', L9, e0, X', hL9, e1, e2, ⟨⟨hv, hP1⟩, hz, hkk⟩, stp⟩ := hrun T hT2 X2
  have hv2 : v = r1.map (zv g) := by injection hv
  subst hv2
  rw [e0] at hz hkk
  have c1 : h.length - h0.length + (h1.length - h.length) = h1.length - h0.length := by omega
  have c2 : zsl h - zsl h0 + (zsl h1 - zsl h) = zsl h1 - zsl h0 := by omega
  rw [c1, c2] at X'
  have hS := hT.2.2
  have hS1 : va_S (zA g) s.heap T'.heap (locs ++ L9) := ⟨Nat.le_trans hS.1 (by rw [e1]; exact hz), fun q g1 g2 => by rw [e1, hkk q (Nat.lt_of_lt_of_le g1 hS.1) g2]; exact hS.2.1 q g1 g2, fun q hq => by
      rcases List.mem_append.mp hq with h | h
      · exact hS.2.2 q h
      · exact hL9 q h⟩
  obtain ⟨t2, a, b⟩ := zfix (locs := locs ++ L9) hs (by omega) (by rw [e1]; exact hP1) hS1 (fun hT1 => hk T'.heap (locs ++ L9) ls hT1 hL) T' rfl X'
  refine ⟨t2, stp t2 ?_, b⟩
  have c3 : (r1.toList ++ rest).map (zv g) = (r1.map (zv g)).toList ++ rest.map (zv g) := by cases r1 <;> simp
  rw [c3] at a
  exact a
theorem zr_ret {g : zG} {J : zJ} {h0 : zH} {pc : Nat} {L : List (Option zV)} {h : zH} (r : Option zV) (hok : zok J.2.2.2.1 r) (hd : decode J.2.1 pc = .ok (zret r, 1)) : zR g J h0 pc L r.toList h r h :=
  ⟨⟨Nat.le_refl _, Nat.le_refl _⟩, hok, fun _ _ _ _ _ _ _ _ _ _ _ _ _ _ _ _ _ _ _ hr H locs ls hT _ => hr pc ls H locs hT hd⟩
theorem ztys {g : zG} (h : g.2.1.map (fun q => q.2) = zty) {t : Nat} {ty : FieldType} (ht : zty[t]? = some ty) : g.2.1[t]? = some (zca g t, ty) := by
  rw [← h, List.getElem?_map, Option.map_eq_some_iff] at ht
  obtain ⟨q, h1, h2⟩ := ht
  rw [h1]
  simp [zca, List.getD_eq_getElem?_getD, h1, ← h2]
/-! ===== one row an instruction ===== -/
section zrows
variable {g : zG} {J : zJ} {h0 : zH} {pc : Nat} {L : List (Option zV)} {st : List zV} {h : zH} {r : Option zV} {h' : zH}
theorem zr_iconst {n : Int} {v : Int32} (hd : decode J.2.1 pc = .ok (.iconst n, 1)) (hv : Int32.ofInt n = v) (k : zR g J h0 (pc + 1) L (zi v :: st) h r h') : zR g J h0 pc L st h r h' :=
  zR.step (fun X _ _ _ _ _ hL kk => lv_iconst X.1 X.2.1 hd hv (kk _ hL)) k
theorem zr_bipush {n : Int} {v : Int32} (hd : decode J.2.1 pc = .ok (.bipush n, 2)) (hv : (Int8.ofInt n).toInt32 = v) (k : zR g J h0 (pc + 2) L (zi v :: st) h r h') : zR g J h0 pc L st h r h' :=
  zR.step (fun X _ _ _ _ _ hL kk => lv_bipush X.1 X.2.1 hd hv (kk _ hL)) k
theorem zr_sipush {n : Int} {v : Int32} (hd : decode J.2.1 pc = .ok (.sipush n, 3)) (hv : (Int16.ofInt n).toInt32 = v) (k : zR g J h0 (pc + 3) L (zi v :: st) h r h') : zR g J h0 pc L st h r h' :=
  zR.step (fun X _ _ _ _ _ hL kk => lv_sipush X.1 X.2.1 hd hv (kk _ hL)) k
theorem zr_ldc {index : Nat} {v : Int32} (hc : Cond.constant J.1.cls index v ∈ zWd) (hd : decode J.2.1 pc = .ok (.ldc index, 2)) (k : zR g J h0 (pc + 2) L (zi v :: st) h r h') : zR g J h0 pc L st h r h' :=
  zR.step (fun X _ _ _ _ _ hL kk => lv_ldc X.1 X.2.1 X.2.2.2.1 (X.2.2.2.2.1 _ hc) hd (kk _ hL)) k
theorem zr_ldcw {index : Nat} {v : Int32} (hc : Cond.constant J.1.cls index v ∈ zWd) (hd : decode J.2.1 pc = .ok (.ldc_w index, 3)) (k : zR g J h0 (pc + 3) L (zi v :: st) h r h') : zR g J h0 pc L st h r h' :=
  zR.step (fun X _ _ _ _ _ hL kk => lv_ldcw X.1 X.2.1 X.2.2.2.1 (X.2.2.2.2.1 _ hc) hd (kk _ hL)) k
theorem zr_ldcS {index i : Nat} {tx : String} (hi : i < 8) (ht : zSt.getD i (0, "") = (index, tx)) (ho : J.1.cls = RX5) (hd : decode J.2.1 pc = .ok (.ldc index, 2)) (k : zR g J h0 (pc + 2) L (zs i :: st) h r h') : zR g J h0 pc L st h r h' :=
  zR.step (fun X _ _ _ _ _ hL kk => va_ldcS (own := RX5) (tx := tx) (q := g.2.2.2.1 i) X.1 X.2.1 (by rw [← ho]; exact X.2.2.2.1) (by have := X.2.2.2.2.2.2.1.2.2.2.2.2.1 i hi; rw [ht] at this; exact this) hd (kk _ hL)) k
theorem zr_null (hd : decode J.2.1 pc = .ok (.aconst_null, 1)) (k : zR g J h0 (pc + 1) L (zr none :: st) h r h') : zR g J h0 pc L st h r h' :=
  zR.step (fun X _ _ _ _ _ hL kk => lv_null X.1 X.2.1 hd (kk _ hL)) k
theorem zr_iload_n {k : Fin 4} {i : Nat} {x : Int32} (hd : decode J.2.1 pc = .ok (.iload_n k, 1)) (hi : (k : Nat) = i) (hl : L[i]? = some (some (zi x))) (kk : zR g J h0 (pc + 1) L (zi x :: st) h r h') : zR g J h0 pc L st h r h' :=
  zR.step (fun X _ _ _ _ _ hL kk => lv_iload_n X.1 X.2.1 hd hi (zL_get hL hl) (kk _ hL)) kk
theorem zr_iload {i : Nat} {x : Int32} (hd : decode J.2.1 pc = .ok (.iload i, 2)) (hl : L[i]? = some (some (zi x))) (kk : zR g J h0 (pc + 2) L (zi x :: st) h r h') : zR g J h0 pc L st h r h' :=
  zR.step (fun X _ _ _ _ _ hL kk => lv_iload X.1 X.2.1 hd (zL_get hL hl) (kk _ hL)) kk
theorem zr_aload_n {k : Fin 4} {i : Nat} {v : Option Nat ⊕ Nat} (hd : decode J.2.1 pc = .ok (.aload_n k, 1)) (hi : (k : Nat) = i) (hl : L[i]? = some (some (.inr v))) (kk : zR g J h0 (pc + 1) L (.inr v :: st) h r h') : zR g J h0 pc L st h r h' := by
  refine zR.step (fun X _ _ _ _ _ hL kk => ?_) kk
  have h1 := zL_get hL hl
  rcases v with (_ | a) | q
  · exact lv_aload_nN X.1 X.2.1 hd hi h1 (kk _ hL)
  · exact lv_aload_n X.1 X.2.1 hd hi h1 (kk _ hL)
  · exact lv_aload_n X.1 X.2.1 hd hi h1 (kk _ hL)
theorem zr_aload {i : Nat} {v : Option Nat ⊕ Nat} (hd : decode J.2.1 pc = .ok (.aload i, 2)) (hl : L[i]? = some (some (.inr v))) (kk : zR g J h0 (pc + 2) L (.inr v :: st) h r h') : zR g J h0 pc L st h r h' := by
  refine zR.step (fun X _ _ _ _ _ hL kk => ?_) kk
  have h1 := zL_get hL hl
  rcases v with (_ | a) | q
  · exact lv_aloadN X.1 X.2.1 hd h1 (kk _ hL)
  · exact lv_aload X.1 X.2.1 hd h1 (kk _ hL)
  · exact lv_aload X.1 X.2.1 hd h1 (kk _ hL)
theorem zr_istore_n {k : Fin 4} {i : Nat} {x : Int32} (hd : decode J.2.1 pc = .ok (.istore_n k, 1)) (hi : (k : Nat) = i) (hn : i < J.2.2.1) (kk : zR g J h0 (pc + 1) (L.set i (some (zi x))) st h r h') : zR g J h0 pc L (zi x :: st) h r h' :=
  zR.step (fun X _ _ _ _ _ hL kk => lv_istore_n X.1 X.2.1 hd hi hL hn rfl (fun ls' hl => kk ls' (zL_set rfl hl))) kk
theorem zr_istore {i : Nat} {x : Int32} (hd : decode J.2.1 pc = .ok (.istore i, 2)) (hn : i < J.2.2.1) (kk : zR g J h0 (pc + 2) (L.set i (some (zi x))) st h r h') : zR g J h0 pc L (zi x :: st) h r h' :=
  zR.step (fun X _ _ _ _ _ hL kk => lv_istore X.1 X.2.1 hd hL hn rfl (fun ls' hl => kk ls' (zL_set rfl hl))) kk
theorem zr_astore_n {k : Fin 4} {i : Nat} {v : Option Nat ⊕ Nat} (hd : decode J.2.1 pc = .ok (.astore_n k, 1)) (hi : (k : Nat) = i) (hn : i < J.2.2.1) (kk : zR g J h0 (pc + 1) (L.set i (some (.inr v))) st h r h') : zR g J h0 pc L (.inr v :: st) h r h' := by
  refine zR.step (fun X _ _ _ _ _ hL kk => ?_) kk
  rcases v with (_ | a) | q
  · exact lv_astore_nN X.1 X.2.1 hd hi hL hn rfl (fun ls' hl => kk ls' (zL_set rfl hl))
  · exact lv_astore_n X.1 X.2.1 hd hi hL hn rfl (fun ls' hl => kk ls' (zL_set rfl hl))
  · exact lv_astore_n X.1 X.2.1 hd hi hL hn rfl (fun ls' hl => kk ls' (zL_set rfl hl))
theorem zr_astore {i : Nat} {v : Option Nat ⊕ Nat} (hd : decode J.2.1 pc = .ok (.astore i, 2)) (hn : i < J.2.2.1) (kk : zR g J h0 (pc + 2) (L.set i (some (.inr v))) st h r h') : zR g J h0 pc L (.inr v :: st) h r h' := by
  refine zR.step (fun X _ _ _ _ _ hL kk => ?_) kk
  rcases v with (_ | a) | q
  · exact lv_astoreN X.1 X.2.1 hd hL hn rfl (fun ls' hl => kk ls' (zL_set rfl hl))
  · exact lv_astore X.1 X.2.1 hd hL hn rfl (fun ls' hl => kk ls' (zL_set rfl hl))
  · exact lv_astore X.1 X.2.1 hd hL hn rfl (fun ls' hl => kk ls' (zL_set rfl hl))
theorem zr_iinc {i : Nat} {n : Int} {x y : Int32} (hd : decode J.2.1 pc = .ok (.iinc i n, 3)) (hl : L[i]? = some (some (zi x))) (hy : Int32.ofInt n = y) (hn : i < J.2.2.1) (kk : zR g J h0 (pc + 3) (L.set i (some (zi (x + y)))) st h r h') : zR g J h0 pc L st h r h' := by
  refine zR.step (fun X _ _ _ _ _ hL kk => ?_) kk
  obtain ⟨j, hj⟩ := List.getElem?_of_mem (zas_mem.mpr ⟨i, zi x, hl, rfl⟩ : ((0 + i, zv g (zi x)) ∈ zas g 0 L))
  rw [Nat.zero_add] at hj
  exact lv_iinc (k := j) X.1 X.2.1 hd hL hj (by rw [hy]) hn rfl (fun ls' hl => kk ls' (zL_set rfl hl))
theorem zr_iadd {x y : Int32} (hd : decode J.2.1 pc = .ok (.iadd, 1)) (k : zR g J h0 (pc + 1) L (zi (x + y) :: st) h r h') : zR g J h0 pc L (zi y :: zi x :: st) h r h' :=
  zR.step (fun X _ _ _ _ _ hL kk => lv_iadd X.1 X.2.1 hd (kk _ hL)) k
theorem zr_isub {x y : Int32} (hd : decode J.2.1 pc = .ok (.isub, 1)) (k : zR g J h0 (pc + 1) L (zi (x - y) :: st) h r h') : zR g J h0 pc L (zi y :: zi x :: st) h r h' :=
  zR.step (fun X _ _ _ _ _ hL kk => lv_isub X.1 X.2.1 hd (kk _ hL)) k
theorem zr_imul {x y : Int32} (hd : decode J.2.1 pc = .ok (.imul, 1)) (k : zR g J h0 (pc + 1) L (zi (x * y) :: st) h r h') : zR g J h0 pc L (zi y :: zi x :: st) h r h' :=
  zR.step (fun X _ _ _ _ _ hL kk => lv_imul X.1 X.2.1 hd (kk _ hL)) k
theorem zr_iand {x y : Int32} (hd : decode J.2.1 pc = .ok (.iand, 1)) (k : zR g J h0 (pc + 1) L (zi (x &&& y) :: st) h r h') : zR g J h0 pc L (zi y :: zi x :: st) h r h' :=
  zR.step (fun X _ _ _ _ _ hL kk => lv_iand X.1 X.2.1 hd (kk _ hL)) k
theorem zr_ixor {x y : Int32} (hd : decode J.2.1 pc = .ok (.ixor, 1)) (k : zR g J h0 (pc + 1) L (zi (x ^^^ y) :: st) h r h') : zR g J h0 pc L (zi y :: zi x :: st) h r h' :=
  zR.step (fun X _ _ _ _ _ hL kk => lv_ixor X.1 X.2.1 hd (kk _ hL)) k
theorem zr_ishr {x y : Int32} (hd : decode J.2.1 pc = .ok (.ishr, 1)) (k : zR g J h0 (pc + 1) L (zi (x >>> (y &&& 31)) :: st) h r h') : zR g J h0 pc L (zi y :: zi x :: st) h r h' :=
  zR.step (fun X _ _ _ _ _ hL kk => lv_ishr X.1 X.2.1 hd (kk _ hL)) k
theorem zr_idiv {x y : Int32} (hne : ¬ y = 0) (hd : decode J.2.1 pc = .ok (.idiv, 1)) (k : zR g J h0 (pc + 1) L (zi (x / y) :: st) h r h') : zR g J h0 pc L (zi y :: zi x :: st) h r h' :=
  zR.step (fun X _ _ _ _ _ hL kk => lv_idiv X.1 X.2.1 hd hne (kk _ hL)) k
theorem zr_irem {x y : Int32} (hne : ¬ y = 0) (hd : decode J.2.1 pc = .ok (.irem, 1)) (k : zR g J h0 (pc + 1) L (zi (x - x / y * y) :: st) h r h') : zR g J h0 pc L (zi y :: zi x :: st) h r h' :=
  zR.step (fun X _ _ _ _ _ hL kk => lv_irem X.1 X.2.1 hd hne (kk _ hL)) k
theorem zr_i2b {x : Int32} (hd : decode J.2.1 pc = .ok (.i2b, 1)) (k : zR g J h0 (pc + 1) L (zi x.toInt8.toInt32 :: st) h r h') : zR g J h0 pc L (zi x :: st) h r h' :=
  zR.step (fun X _ _ _ _ _ hL kk => lv_i2b X.1 X.2.1 hd rfl (kk _ hL)) k
theorem zr_dup {v : zV} (hd : decode J.2.1 pc = .ok (.dup, 1)) (k : zR g J h0 (pc + 1) L (v :: v :: st) h r h') : zR g J h0 pc L (v :: st) h r h' :=
  zR.step (fun X _ _ _ _ _ hL kk => lv_dup X.1 X.2.1 hd (zv_cat g v) (kk _ hL)) k
theorem zr_pop {v : zV} (hd : decode J.2.1 pc = .ok (.pop, 1)) (k : zR g J h0 (pc + 1) L st h r h') : zR g J h0 pc L (v :: st) h r h' :=
  zR.step (fun X _ _ _ _ _ hL kk => lv_pop X.1 X.2.1 hd (zv_cat g v) (kk _ hL)) k
theorem zr_dup2 {v w : zV} (hd : decode J.2.1 pc = .ok (.dup2, 1)) (k : zR g J h0 (pc + 1) L (v :: w :: v :: w :: st) h r h') : zR g J h0 pc L (v :: w :: st) h r h' :=
  zR.step (fun X _ _ _ _ _ hL kk => lv_dup2_11 X.1 X.2.1 hd (zv_cat g v) (zv_cat g w) (kk _ hL)) k
theorem zr_goto {off : Int} {tgt : Nat} (hd : decode J.2.1 pc = .ok (.goto off, 3)) (ht : (pc : Int) + off = (tgt : Int)) (k : zR g J h0 tgt L st h r h') : zR g J h0 pc L st h r h' :=
  zR.step (fun X _ _ _ _ _ hL kk => lv_goto X.1 X.2.1 hd ht (kk _ hL)) k
theorem zr_ifeq_t {x : Int32} {off : Int} {tgt : Nat} (hd : decode J.2.1 pc = .ok (.ifCond .eq off, 3)) (ht : (pc : Int) + off = (tgt : Int)) (hc : x = 0) (k : zR g J h0 tgt L st h r h') : zR g J h0 pc L (zi x :: st) h r h' :=
  zR.step (fun X _ _ _ _ _ hL kk => lv_if_eq X.1 X.2.1 hd ht (fun _ => kk _ hL) (fun n => absurd hc n)) k
theorem zr_ifeq_f {x : Int32} {off : Int} (tgt : Nat) (hd : decode J.2.1 pc = .ok (.ifCond .eq off, 3)) (ht : (pc : Int) + off = (tgt : Int)) (hc : ¬ x = 0) (k : zR g J h0 (pc + 3) L st h r h') : zR g J h0 pc L (zi x :: st) h r h' :=
  zR.step (fun X _ _ _ _ _ hL kk => lv_if_eq X.1 X.2.1 hd ht (fun n => absurd n hc) (fun _ => kk _ hL)) k
theorem zr_ifne_t {x : Int32} {off : Int} {tgt : Nat} (hd : decode J.2.1 pc = .ok (.ifCond .ne off, 3)) (ht : (pc : Int) + off = (tgt : Int)) (hc : ¬ x = 0) (k : zR g J h0 tgt L st h r h') : zR g J h0 pc L (zi x :: st) h r h' :=
  zR.step (fun X _ _ _ _ _ hL kk => lv_if_ne X.1 X.2.1 hd ht (fun _ => kk _ hL) (fun n => absurd n hc)) k
theorem zr_ifne_f {x : Int32} {off : Int} (tgt : Nat) (hd : decode J.2.1 pc = .ok (.ifCond .ne off, 3)) (ht : (pc : Int) + off = (tgt : Int)) (hc : x = 0) (k : zR g J h0 (pc + 3) L st h r h') : zR g J h0 pc L (zi x :: st) h r h' :=
  zR.step (fun X _ _ _ _ _ hL kk => lv_if_ne X.1 X.2.1 hd ht (fun n => absurd hc n) (fun _ => kk _ hL)) k
theorem zr_iflt_t {x : Int32} {off : Int} {tgt : Nat} (hd : decode J.2.1 pc = .ok (.ifCond .lt off, 3)) (ht : (pc : Int) + off = (tgt : Int)) (hc : x < 0) (k : zR g J h0 tgt L st h r h') : zR g J h0 pc L (zi x :: st) h r h' :=
  zR.step (fun X _ _ _ _ _ hL kk => lv_if_lt X.1 X.2.1 hd ht (fun _ => kk _ hL) (fun n => absurd hc n)) k
theorem zr_iflt_f {x : Int32} {off : Int} (tgt : Nat) (hd : decode J.2.1 pc = .ok (.ifCond .lt off, 3)) (ht : (pc : Int) + off = (tgt : Int)) (hc : ¬ x < 0) (k : zR g J h0 (pc + 3) L st h r h') : zR g J h0 pc L (zi x :: st) h r h' :=
  zR.step (fun X _ _ _ _ _ hL kk => lv_if_lt X.1 X.2.1 hd ht (fun n => absurd n hc) (fun _ => kk _ hL)) k
theorem zr_ifge_t {x : Int32} {off : Int} {tgt : Nat} (hd : decode J.2.1 pc = .ok (.ifCond .ge off, 3)) (ht : (pc : Int) + off = (tgt : Int)) (hc : 0 ≤ x) (k : zR g J h0 tgt L st h r h') : zR g J h0 pc L (zi x :: st) h r h' :=
  zR.step (fun X _ _ _ _ _ hL kk => lv_if_ge X.1 X.2.1 hd ht (fun _ => kk _ hL) (fun n => absurd hc n)) k
theorem zr_ifge_f {x : Int32} {off : Int} (tgt : Nat) (hd : decode J.2.1 pc = .ok (.ifCond .ge off, 3)) (ht : (pc : Int) + off = (tgt : Int)) (hc : ¬ 0 ≤ x) (k : zR g J h0 (pc + 3) L st h r h') : zR g J h0 pc L (zi x :: st) h r h' :=
  zR.step (fun X _ _ _ _ _ hL kk => lv_if_ge X.1 X.2.1 hd ht (fun n => absurd n hc) (fun _ => kk _ hL)) k
theorem zr_ifgt_t {x : Int32} {off : Int} {tgt : Nat} (hd : decode J.2.1 pc = .ok (.ifCond .gt off, 3)) (ht : (pc : Int) + off = (tgt : Int)) (hc : 0 < x) (k : zR g J h0 tgt L st h r h') : zR g J h0 pc L (zi x :: st) h r h' :=
  zR.step (fun X _ _ _ _ _ hL kk => lv_if_gt X.1 X.2.1 hd ht (fun _ => kk _ hL) (fun n => absurd hc n)) k
theorem zr_ifgt_f {x : Int32} {off : Int} (tgt : Nat) (hd : decode J.2.1 pc = .ok (.ifCond .gt off, 3)) (ht : (pc : Int) + off = (tgt : Int)) (hc : ¬ 0 < x) (k : zR g J h0 (pc + 3) L st h r h') : zR g J h0 pc L (zi x :: st) h r h' :=
  zR.step (fun X _ _ _ _ _ hL kk => lv_if_gt X.1 X.2.1 hd ht (fun n => absurd n hc) (fun _ => kk _ hL)) k
theorem zr_ifle_t {x : Int32} {off : Int} {tgt : Nat} (hd : decode J.2.1 pc = .ok (.ifCond .le off, 3)) (ht : (pc : Int) + off = (tgt : Int)) (hc : x ≤ 0) (k : zR g J h0 tgt L st h r h') : zR g J h0 pc L (zi x :: st) h r h' :=
  zR.step (fun X _ _ _ _ _ hL kk => lv_if_le X.1 X.2.1 hd ht (fun _ => kk _ hL) (fun n => absurd hc n)) k
theorem zr_ifle_f {x : Int32} {off : Int} (tgt : Nat) (hd : decode J.2.1 pc = .ok (.ifCond .le off, 3)) (ht : (pc : Int) + off = (tgt : Int)) (hc : ¬ x ≤ 0) (k : zR g J h0 (pc + 3) L st h r h') : zR g J h0 pc L (zi x :: st) h r h' :=
  zR.step (fun X _ _ _ _ _ hL kk => lv_if_le X.1 X.2.1 hd ht (fun n => absurd n hc) (fun _ => kk _ hL)) k
theorem zr_iceq_t {x y : Int32} {off : Int} {tgt : Nat} (hd : decode J.2.1 pc = .ok (.if_icmp .eq off, 3)) (ht : (pc : Int) + off = (tgt : Int)) (hc : x = y) (k : zR g J h0 tgt L st h r h') : zR g J h0 pc L (zi y :: zi x :: st) h r h' :=
  zR.step (fun X _ _ _ _ _ hL kk => lv_icmp_eq X.1 X.2.1 hd ht (fun _ => kk _ hL) (fun n => absurd hc n)) k
theorem zr_iceq_f {x y : Int32} {off : Int} (tgt : Nat) (hd : decode J.2.1 pc = .ok (.if_icmp .eq off, 3)) (ht : (pc : Int) + off = (tgt : Int)) (hc : ¬ x = y) (k : zR g J h0 (pc + 3) L st h r h') : zR g J h0 pc L (zi y :: zi x :: st) h r h' :=
  zR.step (fun X _ _ _ _ _ hL kk => lv_icmp_eq X.1 X.2.1 hd ht (fun n => absurd n hc) (fun _ => kk _ hL)) k
theorem zr_icne_t {x y : Int32} {off : Int} {tgt : Nat} (hd : decode J.2.1 pc = .ok (.if_icmp .ne off, 3)) (ht : (pc : Int) + off = (tgt : Int)) (hc : ¬ x = y) (k : zR g J h0 tgt L st h r h') : zR g J h0 pc L (zi y :: zi x :: st) h r h' :=
  zR.step (fun X _ _ _ _ _ hL kk => lv_icmp_ne X.1 X.2.1 hd ht (fun _ => kk _ hL) (fun n => absurd n hc)) k
theorem zr_icne_f {x y : Int32} {off : Int} (tgt : Nat) (hd : decode J.2.1 pc = .ok (.if_icmp .ne off, 3)) (ht : (pc : Int) + off = (tgt : Int)) (hc : x = y) (k : zR g J h0 (pc + 3) L st h r h') : zR g J h0 pc L (zi y :: zi x :: st) h r h' :=
  zR.step (fun X _ _ _ _ _ hL kk => lv_icmp_ne X.1 X.2.1 hd ht (fun n => absurd hc n) (fun _ => kk _ hL)) k
theorem zr_iclt_t {x y : Int32} {off : Int} {tgt : Nat} (hd : decode J.2.1 pc = .ok (.if_icmp .lt off, 3)) (ht : (pc : Int) + off = (tgt : Int)) (hc : x < y) (k : zR g J h0 tgt L st h r h') : zR g J h0 pc L (zi y :: zi x :: st) h r h' :=
  zR.step (fun X _ _ _ _ _ hL kk => lv_icmp_lt X.1 X.2.1 hd ht (fun _ => kk _ hL) (fun n => absurd hc n)) k
theorem zr_iclt_f {x y : Int32} {off : Int} (tgt : Nat) (hd : decode J.2.1 pc = .ok (.if_icmp .lt off, 3)) (ht : (pc : Int) + off = (tgt : Int)) (hc : ¬ x < y) (k : zR g J h0 (pc + 3) L st h r h') : zR g J h0 pc L (zi y :: zi x :: st) h r h' :=
  zR.step (fun X _ _ _ _ _ hL kk => lv_icmp_lt X.1 X.2.1 hd ht (fun n => absurd n hc) (fun _ => kk _ hL)) k
theorem zr_icge_t {x y : Int32} {off : Int} {tgt : Nat} (hd : decode J.2.1 pc = .ok (.if_icmp .ge off, 3)) (ht : (pc : Int) + off = (tgt : Int)) (hc : y ≤ x) (k : zR g J h0 tgt L st h r h') : zR g J h0 pc L (zi y :: zi x :: st) h r h' :=
  zR.step (fun X _ _ _ _ _ hL kk => lv_icmp_ge X.1 X.2.1 hd ht (fun _ => kk _ hL) (fun n => absurd hc n)) k
theorem zr_icge_f {x y : Int32} {off : Int} (tgt : Nat) (hd : decode J.2.1 pc = .ok (.if_icmp .ge off, 3)) (ht : (pc : Int) + off = (tgt : Int)) (hc : ¬ y ≤ x) (k : zR g J h0 (pc + 3) L st h r h') : zR g J h0 pc L (zi y :: zi x :: st) h r h' :=
  zR.step (fun X _ _ _ _ _ hL kk => lv_icmp_ge X.1 X.2.1 hd ht (fun n => absurd n hc) (fun _ => kk _ hL)) k
theorem zr_icgt_t {x y : Int32} {off : Int} {tgt : Nat} (hd : decode J.2.1 pc = .ok (.if_icmp .gt off, 3)) (ht : (pc : Int) + off = (tgt : Int)) (hc : y < x) (k : zR g J h0 tgt L st h r h') : zR g J h0 pc L (zi y :: zi x :: st) h r h' :=
  zR.step (fun X _ _ _ _ _ hL kk => lv_icmp_gt X.1 X.2.1 hd ht (fun _ => kk _ hL) (fun n => absurd hc n)) k
theorem zr_icgt_f {x y : Int32} {off : Int} (tgt : Nat) (hd : decode J.2.1 pc = .ok (.if_icmp .gt off, 3)) (ht : (pc : Int) + off = (tgt : Int)) (hc : ¬ y < x) (k : zR g J h0 (pc + 3) L st h r h') : zR g J h0 pc L (zi y :: zi x :: st) h r h' :=
  zR.step (fun X _ _ _ _ _ hL kk => lv_icmp_gt X.1 X.2.1 hd ht (fun n => absurd n hc) (fun _ => kk _ hL)) k
theorem zr_icle_t {x y : Int32} {off : Int} {tgt : Nat} (hd : decode J.2.1 pc = .ok (.if_icmp .le off, 3)) (ht : (pc : Int) + off = (tgt : Int)) (hc : x ≤ y) (k : zR g J h0 tgt L st h r h') : zR g J h0 pc L (zi y :: zi x :: st) h r h' :=
  zR.step (fun X _ _ _ _ _ hL kk => lv_icmp_le X.1 X.2.1 hd ht (fun _ => kk _ hL) (fun n => absurd hc n)) k
theorem zr_icle_f {x y : Int32} {off : Int} (tgt : Nat) (hd : decode J.2.1 pc = .ok (.if_icmp .le off, 3)) (ht : (pc : Int) + off = (tgt : Int)) (hc : ¬ x ≤ y) (k : zR g J h0 (pc + 3) L st h r h') : zR g J h0 pc L (zi y :: zi x :: st) h r h' :=
  zR.step (fun X _ _ _ _ _ hL kk => lv_icmp_le X.1 X.2.1 hd ht (fun n => absurd n hc) (fun _ => kk _ hL)) k
theorem zr_ifnull_t {o : Option Nat} {off : Int} {tgt : Nat} (hd : decode J.2.1 pc = .ok (.ifnull off, 3)) (ht : (pc : Int) + off = (tgt : Int)) (hc : o = none) (k : zR g J h0 tgt L st h r h') : zR g J h0 pc L (zr o :: st) h r h' := by
  subst hc
  exact zR.step (fun X _ _ _ _ _ hL kk => lv_ifnullN X.1 X.2.1 hd ht (kk _ hL)) k
theorem zr_ifnull_f {o : Option Nat} {off : Int} (hd : decode J.2.1 pc = .ok (.ifnull off, 3)) (hc : ¬ o = none) (k : zR g J h0 (pc + 3) L st h r h') : zR g J h0 pc L (zr o :: st) h r h' := by
  cases o with
  | none => exact absurd rfl hc
  | some a => exact zR.step (fun X _ _ _ _ _ hL kk => lv_ifnull (x := g.2.2.1 + a) X.1 X.2.1 hd (kk _ hL)) k
theorem zr_ifnonnull_t {o : Option Nat} {off : Int} {tgt : Nat} (hd : decode J.2.1 pc = .ok (.ifnonnull off, 3)) (ht : (pc : Int) + off = (tgt : Int)) (hc : ¬ o = none) (k : zR g J h0 tgt L st h r h') : zR g J h0 pc L (zr o :: st) h r h' := by
  cases o with
  | none => exact absurd rfl hc
  | some a => exact zR.step (fun X _ _ _ _ _ hL kk => lv_ifnonnull (x := g.2.2.1 + a) X.1 X.2.1 hd ht (kk _ hL)) k
theorem zr_ifnonnull_f {o : Option Nat} {off : Int} (hd : decode J.2.1 pc = .ok (.ifnonnull off, 3)) (hc : o = none) (k : zR g J h0 (pc + 3) L st h r h') : zR g J h0 pc L (zr o :: st) h r h' := by
  subst hc
  exact zR.step (fun X _ _ _ _ _ hL kk => lv_ifnonnullN X.1 X.2.1 hd (kk _ hL)) k
theorem zr_tabIn {dflt lo hi : Int} {offs : Array Int} {len : Nat} {x : Int32} {off : Int} {tgt : Nat} (hd : decode J.2.1 pc = .ok (.tableswitch dflt lo hi offs, len)) (h1 : lo ≤ x.toInt ∧ x.toInt ≤ hi) (ho : offs[(x.toInt - lo).toNat]? = some off) (ht : (pc : Int) + off = (tgt : Int)) (k : zR g J h0 tgt L st h r h') : zR g J h0 pc L (zi x :: st) h r h' :=
  zR.step (fun X _ _ _ _ _ hL kk => lv_tableIn X.1 X.2.1 hd (by omega) (by omega) ho ht (kk _ hL)) k
theorem zr_tabOut {dflt lo hi : Int} {offs : Array Int} {len : Nat} {x : Int32} {tgt : Nat} (hd : decode J.2.1 pc = .ok (.tableswitch dflt lo hi offs, len)) (h1 : ¬ (lo ≤ x.toInt ∧ x.toInt ≤ hi)) (ht : (pc : Int) + dflt = (tgt : Int)) (k : zR g J h0 tgt L st h r h') : zR g J h0 pc L (zi x :: st) h r h' :=
  zR.step (fun X _ _ _ _ _ hL kk => lv_tableOut X.1 X.2.1 hd (by omega) ht (kk _ hL)) k
theorem zr_look {dflt : Int} {ps : Array (Int × Int)} {len : Nat} {x : Int32} {off : Int} {tgt : Nat} (hd : decode J.2.1 pc = .ok (.lookupswitch dflt ps, len)) (hp : (ps.toList.zip (ps.toList.drop 1)).all (fun (a, next) => a.1 < next.1) = true) (ho : Op.lookupswitch.offset ps.toList dflt x.toInt = off) (ht : (pc : Int) + off = (tgt : Int)) (k : zR g J h0 tgt L st h r h') : zR g J h0 pc L (zi x :: st) h r h' :=
  zR.step (fun X _ _ _ _ _ hL kk => lv_lookup X.1 X.2.1 hd hp ho ht (kk _ hL)) k
end zrows
