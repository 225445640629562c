/-! THE CLAIM OUT OF ONE WALK OF THE LAW'S BODY. Your part is whole_start (and what it stands on); all else here is the same for every law, but numbers. -/
def R_law : String := "ArcheryFieldLaw"
def lw_P (b : Addr) (xs : List Int32) (args : Array Value) (s : State) : Prop := args = #[.ref b] ∧ s.IntsAt b xs ∧ xs.length ≤ 3072 ∧ (Jvm.Cond.and given_1 narrow_1).before args s = true
def lw_Q (_ : Array Value) (s : State) (o : Outcome) (t : State) : Prop := o = .returned (some (.int 1)) ∧ Framed s o t [] 600000 7302250
def lw_Z (below : List Frame) (a : Array Value) (s : State) : State → Prop := fun t => ∃ o, t.status = .running ∧ Ended t below o ∧ lw_Q a s o t
/-- the law's own end, with 1 on the stack, nothing written that was there before, its room as the claim has it -/
theorem lw_ret {p : Program} {l : Launch} {e : Env} {s : State} {m : MethodId} {below : List Frame} {meth : Method} {c : Code} {b : Nat} (hx : p.tables.exec = Jvm.exec) (hb : c.code = code) (hr : meth.sig.returnType = ret) (hlocks : meth.locks = false) {pc : Nat} {H : Heap} {ls : Array Slot} (hdg : decode code pc = .ok (.ireturn, 1)) : W p l e room_1 s m #[Value.ref b] below meth c H [] 600000 7302250 (lw_Z below #[Value.ref b] s) (F0 m pc ls [.int 1]) := by
  intro T hT X
  obtain ⟨fs, hret, hrun, hended, hW, hframe⟩ := X.leave (v := some (.int 1)) (hlocks := hlocks) (fun h => by rw [hr] at h; cases h)
  have hmeth' : T.vm.method? m = some meth := X.method'
  refine ⟨T.setFrames fs, ?_, .returned (some (.int 1)), hrun, hended, rfl, ⟨_, rfl⟩, hW, hframe⟩
  jvm_step X.here [X.here.top, hx, hb, hdg, hmeth', hr, ret, narrow_b1]
  (try refine ⟨rfl, ?_⟩); (try refine ⟨rfl, ?_⟩)
  first | (intro acts; rw [hret _ acts rfl rfl rfl]) | rw [hret _ _ rfl rfl rfl]
  exact Steps.refl _
/-- what holds at the law's entry: the machine, the code, the tables' words (any of lw_tbl by 'hts w (by decide +kernel)'), the script of L ints xs at the cell b, what the Statement gives of the start (any of its parts by flat_of_before) -/
def lw_At (p : Program) (s : State) (m : MethodId) (meth : Method) (c : Code) (b L : Nat) (xs : Nat → Int32) : Prop :=
  p.tables.exec = Jvm.exec ∧ c.code = code ∧ meth.sig.returnType = ret ∧ c.maxLocals = 4 ∧ s.vm.findClass R_law = some m.cls ∧ (∀ w ∈ lw_tbl, w.before #[Value.ref b] s = true) ∧ va_X b L xs s s.heap ∧ b < s.heap.size ∧ meth.locks = false ∧ (Jvm.Cond.and given_1 narrow_1).before #[Value.ref b] s = true
/-! ===== the law's entry ===== -/
theorem zarr_p {s : State} {args : Array Value} {ty : FieldType} (h : (Cond.arrayClass ty).before args s = true) (hp : ∀ C, ty ≠ .object C) : ∃ cA, ArrOfT s cA ty ∧ va_RA s cA ty := by
  obtain ⟨cA, k, comp, h1, h2, h3⟩ := Cond.arrayClass_spec h
  refine ⟨cA, fun n z => ⟨fun q hq => (by cases hq), k, h2, comp, h3⟩, ?_⟩
  cases ty with
  | object C => exact absurd rfl (hp C)
  | _ => exact h1
theorem zarr_o {s : State} {args : Array Value} {C : String} (h : (Cond.arrayOver (.object C)).before args s = true) : ∃ cA, ArrOfT s cA (.object C) ∧ va_RA s cA (.object C) := by
  obtain ⟨comp, cA, k, h1, -, h2, h3, h4⟩ := Cond.arrayOver_spec h
  exact ⟨cA, fun n z => ⟨fun q hq => (by cases hq), k, h2, comp, h3⟩, k, comp, h2, h3, h1, h4⟩
set_option maxHeartbeats 8000000 in
set_option maxRecDepth 100000 in
/-- the texts of the class file, as the Statement gives them -/
theorem zstrings {s : State} {b : Addr} {A : Nat → Prop} (hgv : (Jvm.Cond.and given_1 narrow_1).before #[Value.ref b] s = true) (hA : ∀ a : Nat, a < s.heap.size → ¬ A a) : ∃ adK adV : Nat → Nat, vk_S 8 zSl zSb adK adV A s s.heap ∧ ∀ i : Nat, i < 8 → (Term.string RX5 (zSt.getD i (0, "")).1).eval #[Value.ref b] s none [] s = some (.ref (adK i)) := by
  have hs := flat_of_before _ hgv
  refine vk_Sof (tm := fun i => Term.string RX5 (zSt.getD i (0, "")).1) ?_ ?_ ?_ ?_ ?_ ?_ ?_ hA
  · decide
  · intro i hi
    rcases (show i = 0 ∨ i = 1 ∨ i = 2 ∨ i = 3 ∨ i = 4 ∨ i = 5 ∨ i = 6 ∨ i = 7 by omega) with rfl | rfl | rfl | rfl | rfl | rfl | rfl | rfl <;> exact hs _ (by decide +kernel)
  · intro i hi
    rcases (show i = 0 ∨ i = 1 ∨ i = 2 ∨ i = 3 ∨ i = 4 ∨ i = 5 ∨ i = 6 ∨ i = 7 by omega) with rfl | rfl | rfl | rfl | rfl | rfl | rfl | rfl <;> exact hs _ (by decide +kernel)
  · intro i hi
    rcases (show i = 0 ∨ i = 1 ∨ i = 2 ∨ i = 3 ∨ i = 4 ∨ i = 5 ∨ i = 6 ∨ i = 7 by omega) with rfl | rfl | rfl | rfl | rfl | rfl | rfl | rfl <;> exact hs _ (by decide +kernel)
  · intro i hi
    rcases (show i = 0 ∨ i = 1 ∨ i = 2 ∨ i = 3 ∨ i = 4 ∨ i = 5 ∨ i = 6 ∨ i = 7 by omega) with rfl | rfl | rfl | rfl | rfl | rfl | rfl | rfl <;> exact hs _ (by decide +kernel)
  · intro i hi
    rcases (show i = 0 ∨ i = 1 ∨ i = 2 ∨ i = 3 ∨ i = 4 ∨ i = 5 ∨ i = 6 ∨ i = 7 by omega) with rfl | rfl | rfl | rfl | rfl | rfl | rfl | rfl
    · intro j hj
      have hj : j < 4 := hj
      rcases (show j = 0 ∨ j = 1 ∨ j = 2 ∨ j = 3 by omega) with rfl | rfl | rfl | rfl <;> exact hs _ (by decide +kernel)
    · intro j hj
      have hj : j < 3 := hj
      rcases (show j = 0 ∨ j = 1 ∨ j = 2 by omega) with rfl | rfl | rfl <;> exact hs _ (by decide +kernel)
    · intro j hj
      have hj : j < 4 := hj
      rcases (show j = 0 ∨ j = 1 ∨ j = 2 ∨ j = 3 by omega) with rfl | rfl | rfl | rfl <;> exact hs _ (by decide +kernel)
    · intro j hj
      have hj : j < 4 := hj
      rcases (show j = 0 ∨ j = 1 ∨ j = 2 ∨ j = 3 by omega) with rfl | rfl | rfl | rfl <;> exact hs _ (by decide +kernel)
    · intro j hj
      have hj : j < 7 := hj
      rcases (show j = 0 ∨ j = 1 ∨ j = 2 ∨ j = 3 ∨ j = 4 ∨ j = 5 ∨ j = 6 by omega) with rfl | rfl | rfl | rfl | rfl | rfl | rfl <;> exact hs _ (by decide +kernel)
    · intro j hj
      have hj : j < 7 := hj
      rcases (show j = 0 ∨ j = 1 ∨ j = 2 ∨ j = 3 ∨ j = 4 ∨ j = 5 ∨ j = 6 by omega) with rfl | rfl | rfl | rfl | rfl | rfl | rfl <;> exact hs _ (by decide +kernel)
    · intro j hj
      have hj : j < 6 := hj
      rcases (show j = 0 ∨ j = 1 ∨ j = 2 ∨ j = 3 ∨ j = 4 ∨ j = 5 by omega) with rfl | rfl | rfl | rfl | rfl | rfl <;> exact hs _ (by decide +kernel)
    · intro j hj
      have hj : j < 5 := hj
      rcases (show j = 0 ∨ j = 1 ∨ j = 2 ∨ j = 3 ∨ j = 4 by omega) with rfl | rfl | rfl | rfl | rfl <;> exact hs _ (by decide +kernel)
  · intro i j hi hj hij
    rcases (show i = 0 ∨ i = 1 ∨ i = 2 ∨ i = 3 ∨ i = 4 ∨ i = 5 ∨ i = 6 ∨ i = 7 by omega) with rfl | rfl | rfl | rfl | rfl | rfl | rfl | rfl <;> rcases (show j = 0 ∨ j = 1 ∨ j = 2 ∨ j = 3 ∨ j = 4 ∨ j = 5 ∨ j = 6 ∨ j = 7 by omega) with rfl | rfl | rfl | rfl | rfl | rfl | rfl | rfl <;> first | exact absurd rfl hij | exact Or.inl (hs _ (by decide +kernel)) | exact Or.inr (hs _ (by decide +kernel))
set_option maxHeartbeats 4000000 in
set_option maxRecDepth 100000 in
theorem whole_start {p : Program} {e : Env} {s : State} {m : MethodId} {below : List Frame} {meth : Method} {c : Code} (l : Launch) {b L : Nat} {xs : Nat → Int32} (hL : L ≤ 3072) (C0 : lw_At p s m meth c b L xs) : W p l e room_1 s m #[Value.ref b] below meth c s.heap [] 0 0 (lw_Z below #[Value.ref b] s) (entryFrame m ([Value.ref b] : List Value).toArray 4) := by
  obtain ⟨hx, hb, hr, hml, hown, hts, hX, hbl, hlocks, hgv⟩ := id C0
  have hz : ∀ w ∈ zWd, w.before #[Value.ref b] s = true := fun w hw => hts w (List.mem_filter.mp hw).1
  have hs := flat_of_before _ hgv
  obtain ⟨c0, i0, hn0⟩ := u_known (C := RX0) (T := TX0) (N := 3) (n := 3) hz inzX0 (hz _ kw_7)
  obtain ⟨c1, i1, hn1⟩ := u_known (C := RX1) (T := TX1) (N := 1) (n := 1) hz inzX1 (hz _ kw_43)
  obtain ⟨c2, i2, hn2⟩ := u_known (C := RX2) (T := TX2) (N := 3) (n := 3) hz inzX2 (hz _ kw_74)
  obtain ⟨c3, i3, hn3⟩ := u_known (C := RX3) (T := TX3) (N := 7) (n := 7) hz inzX3 (hz _ kw_567)
  obtain ⟨c4, i4, hn4⟩ := u_known (C := RX4) (T := TX4) (N := 5) (n := 5) hz inzX4 (hz _ kw_395)
  obtain ⟨c5, i5, hn5⟩ := u_known (C := RX5) (T := TX5) (N := 7) (n := 7) hz inzX5 (hz _ kw_387)
  obtain ⟨c6, i6, hn6⟩ := u_known (C := RX6) (T := TX6) (N := 11) (n := 11) hz inzX6 (hz _ kw_196)
  obtain ⟨c7, i7, hn7⟩ := u_known (C := RX7) (T := TX7) (N := 1) (n := 1) hz inzX7 (hz _ kw_344)
  obtain ⟨c8, i8, hn8⟩ := u_known (C := RX8) (T := TX8) (N := 3) (n := 3) hz inzX8 (hz _ kw_353)
  obtain ⟨c9, i9, hn9⟩ := u_known (C := RX9) (T := TX9) (N := 5) (n := 5) hz inzX9 (hz _ kw_403)
  obtain ⟨c10, i10, hn10⟩ := u_known (C := RX10) (T := TX10) (N := 2) (n := 2) hz inzX10 (hz _ kw_189)
  obtain ⟨c11, i11, hn11⟩ := u_known (C := RX11) (T := TX11) (N := 6) (n := 6) hz inzX11 (hz _ kw_946)
  obtain ⟨c12, i12, hn12⟩ := u_known (C := RX12) (T := TX12) (N := 31) (n := 31) hz inzX12 (hz _ kw_951)
  obtain ⟨dC, dI, hKc⟩ : ∃ (dC : Nat → ClassId) (dI : Nat → Nat → Nat), ∀ (k : Nat) (q : vw_C), vwCl[k]? = some q → u_Kn s q.1 q.2.1 q.2.2 (dC k) (dI k) := by
    refine ⟨fun k => [c0, c1, c2, c3, c4, c5, c6, c7, c8, c9, c10, c11, c12].getD k 0, fun k => [i0, i1, i2, i3, i4, i5, i6, i7, i8, i9, i10, i11, i12].getD k (fun _ => 0), ?_⟩
    intro k q hq
    match k, hq with
    | 0, hq => cases hq; exact hn0
    | 1, hq => cases hq; exact hn1
    | 2, hq => cases hq; exact hn2
    | 3, hq => cases hq; exact hn3
    | 4, hq => cases hq; exact hn4
    | 5, hq => cases hq; exact hn5
    | 6, hq => cases hq; exact hn6
    | 7, hq => cases hq; exact hn7
    | 8, hq => cases hq; exact hn8
    | 9, hq => cases hq; exact hn9
    | 10, hq => cases hq; exact hn10
    | 11, hq => cases hq; exact hn11
    | 12, hq => cases hq; exact hn12
    | k + 13, hq => simp [vwCl] at hq
  obtain ⟨yint, haint, hbint⟩ := zarr_p (ty := .int) (hz _ kw_14) (fun C q => by cases q)
  obtain ⟨ybyte, habyte, hbbyte⟩ := zarr_p (ty := .byte) (hz _ kw_179) (fun C q => by cases q)
  obtain ⟨ychar, hachar, hbchar⟩ := zarr_p (ty := .char) (hz _ kw_598) (fun C q => by cases q)
  obtain ⟨yboolean, haboolean, hbboolean⟩ := zarr_p (ty := .boolean) (hz _ kw_608) (fun C q => by cases q)
  have woar : (Cond.arrayOver (.object RX0)).before #[Value.ref b] s = true := hts _ (zm1 (List.mem_of_getElem? (i := 151) rfl))
  obtain ⟨yar, haar, hbar⟩ := zarr_o woar
  have wost : (Cond.arrayOver (.object RX9)).before #[Value.ref b] s = true := hts _ (zm1 (List.mem_of_getElem? (i := 144) rfl))
  obtain ⟨yst, hast, hbst⟩ := zarr_o wost
  have hA0 : ∀ a : Nat, a < s.heap.size → ¬ (fun q : Nat => s.heap.size ≤ q) a := fun a h1 h2 => Nat.not_le.mpr h1 h2
  obtain ⟨adK, adV, hSS, hSe⟩ := zstrings (A := fun q : Nat => s.heap.size ≤ q) hgv hA0
  have hZc : va_Z "java/lang/String" "COMPACT_STRINGS" "Z" (.int 1) (fun q : Nat => s.heap.size ≤ q) s s.heap := va_Zof (hts _ (zm2 (List.mem_of_getElem? (i := 39) rfl))) (hts _ (zm1 (List.mem_of_getElem? (i := 10) rfl))) (va_eqi (hs _ (by decide +kernel))) hA0
  have hZf : va_Zq zFo.1 zFo.2.1 zFo.2.2 (fun q : Nat => s.heap.size ≤ q) s s.heap := va_Zqof (hts _ (zm2 (List.mem_of_getElem? (i := 55) rfl))) (hts _ (zm1 (List.mem_of_getElem? (i := 12) rfl))) (hs _ (by decide +kernel)) hA0
  obtain ⟨tf, hZf⟩ : ∃ tf : Nat, va_Z zFo.1 zFo.2.1 zFo.2.2 .null (fun q : Nat => s.heap.size ≤ q) s s.heap ∨ va_Z zFo.1 zFo.2.1 zFo.2.2 (.ref tf) (fun q : Nat => s.heap.size ≤ q) s s.heap := by
    rcases hZf with h | ⟨t, h⟩
    · exact ⟨0, Or.inl h⟩
    · exact ⟨t, Or.inr h⟩
  obtain ⟨N, h', hf, hc1, hc2⟩ := zpure L xs hL
  let ad : Nat → Nat := fun k => if k < 8 then adK k else if k = 8 then b else if k = 32 then tf else adV (k - 16)
  let g : zG := ((dC, dI), [(yint, .int), (ybyte, .byte), (ychar, .char), (yboolean, .boolean), (yar, .object RX0), (yst, .object RX9)], s.heap.size, ad, fun _ => 0, L, xs)
  have had : ∀ i, i < 8 → ad i = adK i := fun i hi => by show (if i < 8 then _ else _) = _; rw [if_pos hi]
  have hav : ∀ i, i < 8 → ad (16 + i) = adV i := fun i hi => by
    show (if 16 + i < 8 then _ else if 16 + i = 8 then _ else if 16 + i = 32 then _ else _) = _
    rw [if_neg (by omega), if_neg (by omega), if_neg (by omega)]
    congr 1
    omega
  have hg : g.2.1.map (fun q => q.2) = zty := rfl
  have hSS2 : vk_S 8 zSl zSb ad (fun k => ad (16 + k)) (zA g) s s.heap := by
    refine ⟨fun i hi => ?_, fun i j hi hj hij => ?_⟩
    · have := hSS.1 i hi
      rw [had i hi]
      show va_O _ _ _ _ _ ∧ va_OF _ _ _ _ _ _ _ _ ∧ va_OF _ _ _ (.ref (ad (16 + i))) _ _ _ _ ∧ va_T _ (ad (16 + i)) _ _ _ _ _
      rw [hav i hi]
      exact this
    · rw [had i hi, had j hj] at hij
      exact hSS.2 i j hi hj hij
  have hU : zU g s := by
    refine ⟨⟨hKc, ?_⟩, fun w hw => va_Nw.of (zNw_on (List.mem_filter.mp hw).2) (hts w (List.mem_filter.mp hw).1), va_AO.of woar, va_AO.of wost, hZc, ?_, hSS2, hX, Nat.not_le.mpr hbl, hZf⟩
    · intro k q hq
      match k, hq with
      | 0, hq => cases hq; exact ⟨haint, hbint⟩
      | 1, hq => cases hq; exact ⟨habyte, hbbyte⟩
      | 2, hq => cases hq; exact ⟨hachar, hbchar⟩
      | 3, hq => cases hq; exact ⟨haboolean, hbboolean⟩
      | 4, hq => cases hq; exact ⟨haar, hbar⟩
      | 5, hq => cases hq; exact ⟨hast, hbst⟩
      | k + 6, hq => simp [g] at hq
    · intro i hi
      show vk_R _ _ _ (ad i) _
      rw [had i hi]
      refine vk_R.of ?_ (hSe i hi)
      rcases (show i = 0 ∨ i = 1 ∨ i = 2 ∨ i = 3 ∨ i = 4 ∨ i = 5 ∨ i = 6 ∨ i = 7 by omega) with rfl | rfl | rfl | rfl | rfl | rfl | rfl | rfl
      · exact hts _ (zm2 (List.mem_of_getElem? (i := 25) rfl))
      · exact hts _ (zm2 (List.mem_of_getElem? (i := 109) rfl))
      · exact hts _ (zm2 (List.mem_of_getElem? (i := 119) rfl))
      · exact hts _ (zm2 (List.mem_of_getElem? (i := 133) rfl))
      · exact hts _ (zm2 (List.mem_of_getElem? (i := 134) rfl))
      · exact hts _ (zm2 (List.mem_of_getElem? (i := 135) rfl))
      · exact hts _ (zm2 (List.mem_of_getElem? (i := 148) rfl))
      · exact hts _ (zm2 (List.mem_of_getElem? (i := 149) rfl))
  have k := s_L_law (g := g) hg (h0 := []) N L xs rfl rfl [] 1 h' hf
  have X : zX g jL_law p s m #[Value.ref b] meth c := ⟨hx, hb, hml, hown, hz, fun q => absurd q (by decide), hU, hg⟩
  · have hl := lv_entry ([Value.ref b]) (n := 4) (Nat.le_of_ble_eq_true rfl)
    rw [lg_entry_eq]
    generalize (lg_sl ([Value.ref b]) ++ List.replicate (4 - (lg_sl ([Value.ref b])).length) Slot.unset).toArray = ls at hl ⊢
    have hl : zL g ls 4 [some (zs 8), none, none, none] := hl
    have hk := k.2.2 (Nat.le_refl _) (Nat.le_refl _) p l e room_1 s m #[Value.ref b] below meth c (lw_Z below #[Value.ref b] s) X rfl (by decide) (by decide) (by show h'.length - 0 ≤ 600000; omega) (by show zsl h' - 0 ≤ 7302250; omega) ?_ s.heap [] ls ⟨rfl, fun k q h => by simp [zw] at h, va_S.rf⟩ hl
    · exact hk
    · intro pc' ls2 H locs hT hd
      refine va_forget (fun q hq => hT.2.2.2.2 q hq) ?_
      refine W.widen (k := 600000) (n := 7302250) (by show h'.length - 0 ≤ 600000; omega) (by show zsl h' - 0 ≤ 7302250; omega) ?_
      exact lw_ret hx hb hr hlocks hd
