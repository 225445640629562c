/-! ===== what the shadows read and write; lock-step rows ===== -/
theorem zbd {α β : Type} {x : Option α} {f : α → Option β} {r : β} (h : x.bind f = some r) : ∃ y, x = some y ∧ f y = some r := Option.bind_eq_some_iff.mp h
theorem zbi {α β : Type} {x : Option α} {f : α → Option β} {r : β} {P : Prop} (k : ∀ y, x = some y → f y = some r → P) : x.bind f = some r → P := fun h => by
  obtain ⟨y, a, b⟩ := zbd h
  exact k y a b
def zb2 {α β : Type} (x : Option (α × zH)) (k : α → zH → Option β) : Option β := x.bind fun q => k q.1 q.2
theorem zbi2 {α β : Type} {x : Option (α × zH)} {f : α → zH → Option β} {r : β} {P : Prop} (k : ∀ y h, x = some (y, h) → f y h = some r → P) : zb2 x f = some r → P := fun h => by
  obtain ⟨y, a, b⟩ := zbd h
  exact k y.1 y.2 a b
def zo (h : zH) (ci : Nat) (o : Option Nat) : Option (Nat × List zV) := match o with
  | none => none
  | some a => match h[a]? with
    | some (.inr (c, fs)) => if c = ci then some (a, fs) else none
    | _ => none
def zck (h : zH) (ci : Nat) (o : Option Nat) : Option Nat := (zo h ci o).map (fun q => q.1)
def zgI (h : zH) (ci : Nat) (o : Option Nat) (k : Nat) : Option Int32 := (zo h ci o).bind fun q => match q.2[k]? with
  | some (.inl x) => some x
  | _ => none
def zgR (h : zH) (ci : Nat) (o : Option Nat) (k : Nat) : Option (Option Nat) := (zo h ci o).bind fun q => match q.2[k]? with
  | some (.inr (.inl x)) => some x
  | _ => none
def zpu (h : zH) (ci : Nat) (o : Option Nat) (k : Nat) (v : zV) : Option zH := (zo h ci o).bind fun q => if k < q.2.length then some (h.set q.1 (.inr (ci, q.2.set k v))) else none
def zaI (h : zH) (t : Nat) (o : Option Nat) : Option (Nat × Nat × (Nat → Int32)) := match o with
  | none => none
  | some a => match h[a]? with
    | some (.inl (t', n, .inl f)) => if t' = t then some (a, n, f) else none
    | _ => none
def zaR (h : zH) (t : Nat) (o : Option Nat) : Option (Nat × Nat × (Nat → Option Nat)) := match o with
  | none => none
  | some a => match h[a]? with
    | some (.inl (t', n, .inr f)) => if t' = t then some (a, n, f) else none
    | _ => none
def zlen (h : zH) (o : Option Nat) : Option Int32 := match o with
  | none => none
  | some a => match h[a]? with
    | some (.inl (t, n, _)) => if t < 6 then some (nI n) else none
    | _ => none
def zld (h : zH) (t : Nat) (o : Option Nat) (i : Int32) : Option Int32 := (zaI h t o).bind fun q => if i < 0 ∨ q.2.1 ≤ i.toNatClampNeg then none else some (q.2.2 i.toNatClampNeg)
def zst (h : zH) (t : Nat) (o : Option Nat) (i x : Int32) : Option zH := (zaI h t o).bind fun q => if i < 0 ∨ q.2.1 ≤ i.toNatClampNeg then none else some (h.set q.1 (.inl (t, q.2.1, .inl (upd q.2.2 i.toNatClampNeg x))))
def zldR (h : zH) (t : Nat) (o : Option Nat) (i : Int32) : Option (Option Nat) := (zaR h t o).bind fun q => if i < 0 ∨ q.2.1 ≤ i.toNatClampNeg then none else some (q.2.2 i.toNatClampNeg)
def zstR (h : zH) (t ci : Nat) (o : Option Nat) (i : Int32) (v : Option Nat) : Option zH := (zaR h t o).bind fun q => if i < 0 ∨ q.2.1 ≤ i.toNatClampNeg then none else if v ≠ none ∧ zck h ci v = none then none else some (h.set q.1 (.inl (t, q.2.1, .inr (va_up q.2.2 i.toNatClampNeg v))))
def znw {α : Type} (h : zH) (e : zE) (k : Nat → zH → Option α) : Option α := k h.length (h ++ [e])
def zna {α : Type} (h : zH) (t : Nat) (n : Int32) (k : Nat → zH → Option α) : Option α := if n < 0 ∨ 16777216 < n.toNatClampNeg then none else k h.length (h ++ [.inl (t, n.toNatClampNeg, .inl (fun _ => 0))])
def znq {α : Type} (h : zH) (t : Nat) (n : Int32) (k : Nat → zH → Option α) : Option α := if n < 0 ∨ 16777216 < n.toNatClampNeg then none else k h.length (h ++ [.inl (t, n.toNatClampNeg, .inr (fun _ => none))])
def zcl {α : Type} (h : zH) (t : Nat) (o : Option Nat) (k : Nat → zH → Option α) : Option α := match o with
  | none => none
  | some a => match h[a]? with
    | some (.inl (t', n, .inl f)) => if t' = t ∧ t = 0 then k h.length (h ++ [.inl (t, n, .inl f)]) else none
    | some (.inl (t', n, .inr f)) => if t' = t ∧ t = 4 then k h.length (h ++ [.inl (t, n, .inr f)]) else none
    | _ => none
def zcp (h : zH) (o0 : Option Nat) (sp : Int32) (o : Option Nat) (dp n : Int32) : Option zH := (zaI h 0 o0).bind fun q0 => (zaI h 0 o).bind fun q => if sp < 0 ∨ dp < 0 ∨ n < 0 ∨ q0.2.1 < sp.toNatClampNeg + n.toNatClampNeg ∨ q.2.1 < dp.toNatClampNeg + n.toNatClampNeg then none else some (h.set q.1 (.inl (0, q.2.1, .inl (va_cpy q0.2.2 q.2.2 sp.toNatClampNeg dp.toNatClampNeg n.toNatClampNeg))))
theorem zo_spec {h : zH} {ci : Nat} {o : Option Nat} {q : Nat × List zV} (e : zo h ci o = some q) : o = some q.1 ∧ h[q.1]? = some (.inr (ci, q.2)) := by
  unfold zo at e
  split at e
  · cases e
  · split at e
    · split at e
      · next a c fs h1 h2 => cases e; subst h2; exact ⟨rfl, h1⟩
      · cases e
    · cases e
theorem zaI_spec {h : zH} {t : Nat} {o : Option Nat} {q : Nat × Nat × (Nat → Int32)} (e : zaI h t o = some q) : o = some q.1 ∧ h[q.1]? = some (.inl (t, q.2.1, .inl q.2.2)) := by
  unfold zaI at e
  split at e
  · cases e
  · split at e
    · split at e
      · next a c fs f h1 h2 => cases e; subst h2; exact ⟨rfl, h1⟩
      · cases e
    · cases e
theorem zaR_spec {h : zH} {t : Nat} {o : Option Nat} {q : Nat × Nat × (Nat → Option Nat)} (e : zaR h t o = some q) : o = some q.1 ∧ h[q.1]? = some (.inl (t, q.2.1, .inr q.2.2)) := by
  unfold zaR at e
  split at e
  · cases e
  · split at e
    · split at e
      · next a c fs f h1 h2 => cases e; subst h2; exact ⟨rfl, h1⟩
      · cases e
    · cases e
theorem zck_spec {h : zH} {ci : Nat} {o : Option Nat} {a : Nat} (e : zck h ci o = some a) : o = some a ∧ ∃ fs, h[a]? = some (.inr (ci, fs)) := by
  unfold zck at e
  rw [Option.map_eq_some_iff] at e
  obtain ⟨q, h1, h2⟩ := e
  obtain ⟨h3, h4⟩ := zo_spec h1
  subst h2
  exact ⟨h3, _, h4⟩
section zlock
variable {g : zG} {J J' : zJ} {h0 : zH} {pc idx n : Nat} {L L' : List (Option zV)} {st rest as : List zV} {h h1 : zH} {r r1 : Option zV} {h' : zH}
theorem zr_forget (i : Nat) (hL : L.set i none = L') (k : zR g J h0 pc L' st h r h') : zR g J h0 pc L st h r h' := by
  subst hL
  refine zR.step (fun X _ _ _ _ hT hL kk => kk _ ⟨hL.1, hL.2.1, fun q hq => hL.2.2 q ?_⟩) k
  obtain ⟨j, v, h1, h2⟩ := zas_mem.mp hq
  refine zas_mem.mpr ⟨j, v, ?_, h2⟩
  by_cases hij : i = j
  · subst hij
    by_cases hl : i < L.length
    · rw [List.getElem?_set_self hl] at h1
      cases h1
    · rw [List.getElem?_eq_none (by simpa using hl)] at h1
      cases h1
  · rwa [List.getElem?_set_ne hij] at h1
theorem zq_istore_n {k : Fin 4} {i : Nat} {x : Int32} (hd : decode J.2.1 pc = .ok (.istore_n k, 1)) (hi : (k : Nat) = i) (hn : i < J.2.2.1) (hL : L.set i (some (zi x)) = L') (kk : zR g J h0 (pc + 1) L' st h r h') : zR g J h0 pc L (zi x :: st) h r h' := zr_istore_n hd hi hn (hL ▸ kk)
theorem zq_istore {i : Nat} {x : Int32} (hd : decode J.2.1 pc = .ok (.istore i, 2)) (hn : i < J.2.2.1) (hL : L.set i (some (zi x)) = L') (kk : zR g J h0 (pc + 2) L' st h r h') : zR g J h0 pc L (zi x :: st) h r h' := zr_istore hd hn (hL ▸ kk)
theorem zq_astore_n {k : Fin 4} {i : Nat} {v : Option Nat ⊕ Nat} (hd : decode J.2.1 pc = .ok (.astore_n k, 1)) (hi : (k : Nat) = i) (hn : i < J.2.2.1) (hL : L.set i (some (.inr v)) = L') (kk : zR g J h0 (pc + 1) L' st h r h') : zR g J h0 pc L (.inr v :: st) h r h' := zr_astore_n hd hi hn (hL ▸ kk)
theorem zq_astore {i : Nat} {v : Option Nat ⊕ Nat} (hd : decode J.2.1 pc = .ok (.astore i, 2)) (hn : i < J.2.2.1) (hL : L.set i (some (.inr v)) = L') (kk : zR g J h0 (pc + 2) L' st h r h') : zR g J h0 pc L (.inr v :: st) h r h' := zr_astore hd hn (hL ▸ kk)
theorem zq_iinc {i : Nat} {n : Int} {x y : Int32} (hd : decode J.2.1 pc = .ok (.iinc i n, 3)) (hl : L[i]? = some (some (zi x))) (hy : Int32.ofInt n = y) (hn : i < J.2.2.1) (hL : L.set i (some (zi (x + y))) = L') (kk : zR g J h0 (pc + 3) L' st h r h') : zR g J h0 pc L st h r h' := zr_iinc hd hl hy hn (hL ▸ kk)
theorem zq_getI {ci k : Nat} {o : Option Nat} {x : Int32} (hf : zFg J.1.cls idx ci k) (hd : decode J.2.1 pc = .ok (.getfield idx, 3)) (hx : zgI h ci o k = some x) (kk : zR g J h0 (pc + 3) L (zi x :: st) h r h') : zR g J h0 pc L (zr o :: st) h r h' := by
  obtain ⟨q, h1, h2⟩ := zbd hx
  obtain ⟨rfl, h4⟩ := zo_spec h1
  split at h2
  · next x' h5 => cases h2; exact zr_get hf hd h4 h5 kk
  · cases h2
theorem zq_getR {ci k : Nat} {o x : Option Nat} (hf : zFg J.1.cls idx ci k) (hd : decode J.2.1 pc = .ok (.getfield idx, 3)) (hx : zgR h ci o k = some x) (kk : zR g J h0 (pc + 3) L (zr x :: st) h r h') : zR g J h0 pc L (zr o :: st) h r h' := by
  obtain ⟨q, h1, h2⟩ := zbd hx
  obtain ⟨rfl, h4⟩ := zo_spec h1
  split at h2
  · next x' h5 => cases h2; exact zr_get hf hd h4 h5 kk
  · cases h2
theorem zq_put {ci k : Nat} {ty : FieldType} {o : Option Nat} {v : zV} (hf : zFp J.1.cls J.1.name idx ci k ty) (hd : decode J.2.1 pc = .ok (.putfield idx, 3)) (hn : ∀ g : zG, narrow ty (zv g v) = zv g v ∧ fits ty (zv g v) = true) (hx : zpu h ci o k v = some h1) (kk : zR g J h0 (pc + 3) L st h1 r h') : zR g J h0 pc L (v :: zr o :: st) h r h' := by
  obtain ⟨q, e1, e2⟩ := zbd hx
  obtain ⟨rfl, h4⟩ := zo_spec e1
  split at e2
  · next h5 => cases e2; exact zr_put hf hd h4 h5 hn kk
  · cases e2
theorem zq_alen {o : Option Nat} {x : Int32} (hd : decode J.2.1 pc = .ok (.arraylength, 1)) (hx : zlen h o = some x) (kk : zR g J h0 (pc + 1) L (zi x :: st) h r h') : zR g J h0 pc L (zr o :: st) h r h' := by
  unfold zlen at hx
  split at hx
  · cases hx
  · split at hx
    · split at hx
      · next a t nn y e1 e2 =>
        cases hx
        have ht : ∃ ty, zty[t]? = some ty := by
          have : t < zty.length := e2
          exact ⟨zty[t], List.getElem?_eq_getElem this⟩
        obtain ⟨ty, ht⟩ := ht
        exact zr_alen ht hd e1 kk
      · cases hx
    · cases hx
theorem zld_spec {t : Nat} {o : Option Nat} {i x : Int32} (hx : zld h t o i = some x) : ∃ a nn f, o = some a ∧ h[a]? = some (.inl (t, nn, .inl f)) ∧ vp_in i nn ∧ x = f i.toNatClampNeg := by
  obtain ⟨q, e1, e2⟩ := zbd hx
  obtain ⟨e3, e4⟩ := zaI_spec e1
  split at e2
  · cases e2
  · next hc => cases e2; exact ⟨_, _, _, e3, e4, hc, rfl⟩
theorem zst_spec {t : Nat} {o : Option Nat} {i x : Int32} (hx : zst h t o i x = some h1) : ∃ a nn f, o = some a ∧ h[a]? = some (.inl (t, nn, .inl f)) ∧ vp_in i nn ∧ h1 = h.set a (.inl (t, nn, .inl (upd f i.toNatClampNeg x))) := by
  obtain ⟨q, e1, e2⟩ := zbd hx
  obtain ⟨e3, e4⟩ := zaI_spec e1
  split at e2
  · cases e2
  · next hc => cases e2; exact ⟨_, _, _, e3, e4, hc, rfl⟩
theorem zq_iald {o : Option Nat} {i x : Int32} (hd : decode J.2.1 pc = .ok (.iaload, 1)) (hx : zld h 0 o i = some x) (kk : zR g J h0 (pc + 1) L (zi x :: st) h r h') : zR g J h0 pc L (zi i :: zr o :: st) h r h' := by
  obtain ⟨a, nn, f, rfl, e1, e2, rfl⟩ := zld_spec hx
  exact zr_iald hd e1 e2 kk
theorem zq_bald {o : Option Nat} {i x : Int32} (hd : decode J.2.1 pc = .ok (.baload, 1)) (hx : zld h 1 o i = some x) (kk : zR g J h0 (pc + 1) L (zi x :: st) h r h') : zR g J h0 pc L (zi i :: zr o :: st) h r h' := by
  obtain ⟨a, nn, f, rfl, e1, e2, rfl⟩ := zld_spec hx
  exact zr_bald hd e1 e2 kk
theorem zq_cald {o : Option Nat} {i x : Int32} (hd : decode J.2.1 pc = .ok (.caload, 1)) (hx : zld h 2 o i = some x) (kk : zR g J h0 (pc + 1) L (zi x :: st) h r h') : zR g J h0 pc L (zi i :: zr o :: st) h r h' := by
  obtain ⟨a, nn, f, rfl, e1, e2, rfl⟩ := zld_spec hx
  exact zr_cald hd e1 e2 kk
theorem zq_zald {o : Option Nat} {i x : Int32} (hd : decode J.2.1 pc = .ok (.baload, 1)) (hx : zld h 3 o i = some x) (kk : zR g J h0 (pc + 1) L (zi x :: st) h r h') : zR g J h0 pc L (zi i :: zr o :: st) h r h' := by
  obtain ⟨a, nn, f, rfl, e1, e2, rfl⟩ := zld_spec hx
  exact zr_zald hd e1 e2 kk
theorem zq_iast {o : Option Nat} {i x : Int32} (hd : decode J.2.1 pc = .ok (.iastore, 1)) (hx : zst h 0 o i x = some h1) (kk : zR g J h0 (pc + 1) L st h1 r h') : zR g J h0 pc L (zi x :: zi i :: zr o :: st) h r h' := by
  obtain ⟨a, nn, f, rfl, e1, e2, rfl⟩ := zst_spec hx
  exact zr_iast hd e1 e2 kk
theorem zq_bast {o : Option Nat} {i x : Int32} (hd : decode J.2.1 pc = .ok (.bastore, 1)) (hx : zst h 1 o i (vp_nar .byte x) = some h1) (kk : zR g J h0 (pc + 1) L st h1 r h') : zR g J h0 pc L (zi x :: zi i :: zr o :: st) h r h' := by
  obtain ⟨a, nn, f, rfl, e1, e2, rfl⟩ := zst_spec hx
  exact zr_bast hd e1 e2 kk
theorem zq_cast {o : Option Nat} {i x : Int32} (hd : decode J.2.1 pc = .ok (.castore, 1)) (hx : zst h 2 o i (vp_nar .char x) = some h1) (kk : zR g J h0 (pc + 1) L st h1 r h') : zR g J h0 pc L (zi x :: zi i :: zr o :: st) h r h' := by
  obtain ⟨a, nn, f, rfl, e1, e2, rfl⟩ := zst_spec hx
  exact zr_cast hd e1 e2 kk
theorem zq_zast {o : Option Nat} {i x : Int32} (hd : decode J.2.1 pc = .ok (.bastore, 1)) (hx : zst h 3 o i (vp_nar .boolean x) = some h1) (kk : zR g J h0 (pc + 1) L st h1 r h') : zR g J h0 pc L (zi x :: zi i :: zr o :: st) h r h' := by
  obtain ⟨a, nn, f, rfl, e1, e2, rfl⟩ := zst_spec hx
  exact zr_zast hd e1 e2 kk
theorem zq_aald {t : Nat} {C : String} {o x : Option Nat} {i : Int32} (ht : zty[t]? = some (.object C)) (hd : decode J.2.1 pc = .ok (.aaload, 1)) (hx : zldR h t o i = some x) (kk : zR g J h0 (pc + 1) L (zr x :: st) h r h') : zR g J h0 pc L (zi i :: zr o :: st) h r h' := by
  obtain ⟨q, e1, e2⟩ := zbd hx
  obtain ⟨rfl, e4⟩ := zaR_spec e1
  split at e2
  · cases e2
  · next hc => cases e2; exact zr_aald ht hd e4 hc kk
theorem zq_aast {t ci : Nat} {rr : vw_C} {o v : Option Nat} {i : Int32} (ht : zty[t]? = some (.object rr.1)) (hc : vwCl[ci]? = some rr) (hd : decode J.2.1 pc = .ok (.aastore, 1)) (hx : zstR h t ci o i v = some h1) (kk : zR g J h0 (pc + 1) L st h1 r h') : zR g J h0 pc L (zr v :: zi i :: zr o :: st) h r h' := by
  obtain ⟨q, e1, e2⟩ := zbd hx
  obtain ⟨rfl, e4⟩ := zaR_spec e1
  split at e2
  · cases e2
  · next hc2 =>
    split at e2
    · cases e2
    · next hc3 =>
      cases e2
      refine zr_aast ht hc hd e4 (fun w hw => ?_) hc2 kk
      subst hw
      cases hk : zck h ci (some w) with
      | none => exact absurd ⟨by simp, hk⟩ hc3
      | some a =>
        obtain ⟨e5, fs, e6⟩ := zck_spec hk
        cases e5
        exact ⟨fs, e6⟩
theorem zq_new {ci a : Nat} {fs : List zV} (hf : zFn J.1.cls idx ci fs) (hd : decode J.2.1 pc = .ok (.new idx, 3)) (ha : a = h.length) (hh : h1 = h ++ [.inr (ci, fs)]) (kk : zR g J h0 (pc + 3) L (zr (some a) :: st) h1 r h') : zR g J h0 pc L st h r h' := by
  subst ha; subst hh
  exact zr_new hf hd kk
theorem znw_spec {α : Type} {e : zE} {k : Nat → zH → Option α} {x : α} (e1 : znw h e k = some x) : ∃ a h1, a = h.length ∧ h1 = h ++ [e] ∧ k a h1 = some x := ⟨_, _, rfl, rfl, e1⟩
theorem zna_spec {α : Type} {t : Nat} {nn : Int32} {k : Nat → zH → Option α} {x : α} (e1 : zna h t nn k = some x) : ∃ a h1, (a = h.length ∧ ¬ nn < 0 ∧ nn.toNatClampNeg ≤ 16777216 ∧ h1 = h ++ [.inl (t, nn.toNatClampNeg, .inl (fun _ => 0))]) ∧ k a h1 = some x := by
  unfold zna at e1
  split at e1
  · cases e1
  · next hc => exact ⟨_, _, ⟨rfl, fun q => hc (Or.inl q), Nat.not_lt.mp fun q => hc (Or.inr q), rfl⟩, e1⟩
theorem znq_spec {α : Type} {t : Nat} {nn : Int32} {k : Nat → zH → Option α} {x : α} (e1 : znq h t nn k = some x) : ∃ a h1, (a = h.length ∧ ¬ nn < 0 ∧ nn.toNatClampNeg ≤ 16777216 ∧ h1 = h ++ [.inl (t, nn.toNatClampNeg, .inr (fun _ => none))]) ∧ k a h1 = some x := by
  unfold znq at e1
  split at e1
  · cases e1
  · next hc => exact ⟨_, _, ⟨rfl, fun q => hc (Or.inl q), Nat.not_lt.mp fun q => hc (Or.inr q), rfl⟩, e1⟩
theorem zcl_spec {α : Type} {t : Nat} {o : Option Nat} {k : Nat → zH → Option α} {x : α} (e1 : zcl h t o k = some x) : ∃ a h1, (∃ b nn y, a = h.length ∧ o = some b ∧ h[b]? = some (.inl (t, nn, y)) ∧ (match y with | .inl _ => t = 0 | .inr _ => t = 4) ∧ h1 = h ++ [.inl (t, nn, y)]) ∧ k a h1 = some x := by
  unfold zcl at e1
  split at e1
  · cases e1
  · split at e1
    · split at e1
      · next b x9 t' nn f h2 hc =>
        obtain ⟨rfl, hc⟩ := hc
        exact ⟨_, _, ⟨b, nn, .inl f, rfl, rfl, h2, hc, rfl⟩, e1⟩
      · cases e1
    · split at e1
      · next b x9 t' nn f h2 hc =>
        obtain ⟨rfl, hc⟩ := hc
        exact ⟨_, _, ⟨b, nn, .inr f, rfl, rfl, h2, hc, rfl⟩, e1⟩
      · cases e1
    · cases e1
theorem zq_newa {atype : ArrayType} {t a : Nat} {nn : Int32} (hw : Cond.arrayClass (newarray.typeOf atype) ∈ zWd) (ht : zty[t]? = some (newarray.typeOf atype)) (hz : ∀ (cA : ClassId) (N : Nat), vp_cell cA (N, .inl (fun _ => 0)) = arrV cA N (fun _ => defaultValue (newarray.typeOf atype))) (hb : componentBytes (newarray.typeOf atype) ≤ 32) (hd : decode J.2.1 pc = .ok (.newarray atype, 2))
    (ha : a = h.length ∧ ¬ nn < 0 ∧ nn.toNatClampNeg ≤ 16777216 ∧ h1 = h ++ [.inl (t, nn.toNatClampNeg, .inl (fun _ => 0))]) (kk : zR g J h0 (pc + 2) L (zr (some a) :: st) h1 r h') : zR g J h0 pc L (zi nn :: st) h r h' := by
  obtain ⟨rfl, e1, e2, rfl⟩ := ha
  exact zr_newa hw ht hz hd e1 (Nat.le_trans (Nat.mul_le_mul e2 hb) (by decide)) kk
theorem zq_newq {t a : Nat} {C : String} {nn : Int32} (hw : Cond.classLink J.1.cls idx C ∈ zWd) (ho : C = RX0 ∨ C = RX9) (ht : zty[t]? = some (.object C)) (hd : decode J.2.1 pc = .ok (.anewarray idx, 3)) (ha : a = h.length ∧ ¬ nn < 0 ∧ nn.toNatClampNeg ≤ 16777216 ∧ h1 = h ++ [.inl (t, nn.toNatClampNeg, .inr (fun _ => none))])
    (kk : zR g J h0 (pc + 3) L (zr (some a) :: st) h1 r h') : zR g J h0 pc L (zi nn :: st) h r h' := by
  obtain ⟨rfl, e1, e2, rfl⟩ := ha
  exact zr_newq hw ho ht hd e1 (Nat.le_trans (Nat.mul_le_mul_right 4 e2) (by decide)) kk
theorem zq_clone {a t : Nat} {ty : FieldType} {ad : String} {o : Option Nat} (hk : zMk J.1.cls idx ad) (ht : zty[t]? = some ty) (had : "[" ++ ty.toString = ad) (hty : (t = 0 ∧ ty = .int) ∨ (t = 4 ∧ ∃ C, ty = .object C)) (hf : 1 ≤ J.2.2.2.2.1 ∧ rest.length + 14 ≤ J.2.2.2.2.2) (hd : decode J.2.1 pc = .ok (.invokevirtual idx, 3))
    (hx : ∃ b nn y, a = h.length ∧ o = some b ∧ h[b]? = some (.inl (t, nn, y)) ∧ (match y with | .inl _ => t = 0 | .inr _ => t = 4) ∧ h1 = h ++ [.inl (t, nn, y)]) (kk : zR g J h0 (pc + 3) L (zr (some a) :: rest) h1 r h') : zR g J h0 pc L (zr o :: rest) h r h' := by
  obtain ⟨b, nn, y, rfl, rfl, e1, e2, rfl⟩ := hx
  refine zr_clone hk ht had ?_ hf hd e1 kk
  rcases y with f | f
  · have e2 : t = 0 := e2
    rcases hty with ⟨-, h2⟩ | ⟨h2, -⟩
    · exact h2
    · omega
  · have e2 : t = 4 := e2
    rcases hty with ⟨h2, -⟩ | ⟨-, h2⟩
    · omega
    · exact h2
theorem zq_castA {t : Nat} {ty : FieldType} {ad : String} {o : Option Nat} {x : Option Int32} (hl : Cond.classLink J.1.cls idx ad ∈ zWd) (ht : zty[t]? = some ty) (had : "[" ++ ty.toString = ad) (hd : decode J.2.1 pc = .ok (.checkcast idx, 3)) (hx : ∃ a nn y, o = some a ∧ h[a]? = some (.inl (t, nn, y))) (kk : zR g J h0 (pc + 3) L (zr o :: rest) h r h') : zR g J h0 pc L (zr o :: rest) h r h' := by
  obtain ⟨a, nn, y, rfl, e1⟩ := hx
  exact zr_castA hl ht had hd e1 kk
theorem zq_copyi {o0 o : Option Nat} {sp dp nn : Int32} (w1 : Cond.methodLink J.1.cls idx arraycopyName ∈ zWd) (w2 : Cond.native arraycopyName ∈ zWd) (w3 : Cond.static arraycopyName ∈ zWd) (w4 : Cond.initialized "java/lang/System" ∈ zWd) (hf : 1 ≤ J.2.2.2.2.1 ∧ rest.length + (nativeFrameWords "java/lang/System" "arraycopy" 5 + 11) ≤ J.2.2.2.2.2) (hd : decode J.2.1 pc = .ok (.invokestatic idx, 3))
    (hx : zcp h o0 sp o dp nn = some h1) (kk : zR g J h0 (pc + 3) L rest h1 r h') : zR g J h0 pc L (zi nn :: zi dp :: zr o :: zi sp :: zr o0 :: rest) h r h' := by
  obtain ⟨q0, e1, e2⟩ := zbd hx
  obtain ⟨q, e3, e4⟩ := zbd e2
  obtain ⟨rfl, e5⟩ := zaI_spec e1
  obtain ⟨rfl, e6⟩ := zaI_spec e3
  split at e4
  · cases e4
  · next hc =>
    cases e4
    exact zr_copyi w1 w2 w3 w4 hf hd e5 e6 (fun q => hc (Or.inl q)) (fun q => hc (Or.inr (Or.inl q))) (fun q => hc (Or.inr (Or.inr (Or.inl q)))) (Nat.not_lt.mp fun q => hc (Or.inr (Or.inr (Or.inr (Or.inl q))))) (Nat.not_lt.mp fun q => hc (Or.inr (Or.inr (Or.inr (Or.inr q))))) kk
theorem zq_callV {a ci : Nat} {q : vw_C} {o : Option Nat} (hl : Cond.methodLink J.1.cls idx J'.1 ∈ zWd) (hM : zMv J' n) (hF : zFits J J') (hd : decode J.2.1 pc = .ok (.invokevirtual idx, 3)) (hn : as.length = n) (hrest : rest.length ≤ 8) (hq : vwCl[ci]? = some q) (hq1 : q.1 = J'.1.cls) (ho : zck h ci o = some a) (hst : as.reverse ++ zr o :: rest = st) (hc : zCa g J' (zr (some a) :: as) h r1 h1)
    (kk : zR g J h0 (pc + 3) L (r1.toList ++ rest) h1 r h') : zR g J h0 pc L st h r h' := by
  obtain ⟨rfl, fs, ha⟩ := zck_spec ho
  subst hst
  exact zr_callV hl hM hF hd hn hrest hq hq1 ha hc kk
theorem zq_callS (hl : Cond.methodLink J.1.cls idx J'.1 ∈ zWd) (hM : zMs J' n) (hF : zFits J J') (hd : decode J.2.1 pc = .ok (.invokestatic idx, 3)) (hn : as.length = n) (hrest : rest.length ≤ 8) (hst : as.reverse ++ rest = st) (hc : zCa g J' as h r1 h1) (kk : zR g J h0 (pc + 3) L (r1.toList ++ rest) h1 r h') : zR g J h0 pc L st h r h' := by
  subst hst
  exact zr_callS hl hM hF hd hn hrest hc kk
theorem zq_callSN {host : String} (hl : Cond.methodLinkNest J.1.cls idx J'.1 host ∈ zNw) (hM : zMs J' n) (hF : zFits J J') (hd : decode J.2.1 pc = .ok (.invokestatic idx, 3)) (hn : as.length = n) (hrest : rest.length ≤ 8) (hst : as.reverse ++ rest = st) (hc : zCa g J' as h r1 h1) (kk : zR g J h0 (pc + 3) L (r1.toList ++ rest) h1 r h') : zR g J h0 pc L st h r h' := by
  subst hst
  exact zr_callSN hl hM hF hd hn hrest hc kk
theorem zq_callI {a : Nat} (hl : Cond.methodLink J.1.cls idx J'.1 ∈ zWd) (hM : zMc J' n) (hF : zFits J J') (hd : decode J.2.1 pc = .ok (.invokespecial idx, 3)) (hn : as.length = n) (hrest : rest.length ≤ 8) (hst : as.reverse ++ zr (some a) :: rest = st) (hc : zCa g J' (zr (some a) :: as) h r1 h1) (kk : zR g J h0 (pc + 3) L (r1.toList ++ rest) h1 r h') : zR g J h0 pc L st h r h' := by
  subst hst
  exact zr_callI hl hM hF hd hn hrest hc kk
theorem zq_callIN {a : Nat} {host : String} (hl : Cond.methodLinkNest J.1.cls idx J'.1 host ∈ zNw) (hM : zMc J' n) (hF : zFits J J') (hd : decode J.2.1 pc = .ok (.invokespecial idx, 3)) (hn : as.length = n) (hrest : rest.length ≤ 8) (hst : as.reverse ++ zr (some a) :: rest = st) (hc : zCa g J' (zr (some a) :: as) h r1 h1) (kk : zR g J h0 (pc + 3) L (r1.toList ++ rest) h1 r h') : zR g J h0 pc L st h r h' := by
  subst hst
  exact zr_callIN hl hM hF hd hn hrest hc kk
def zsc (n : Nat) (xs : Nat → Int32) (i : Int32) : Option Int32 := if i < 0 ∨ n ≤ i.toNatClampNeg then none else some (xs i.toNatClampNeg)
theorem zq_sld {i x : Int32} {nS : Nat} {xS : Nat → Int32} (hS1 : g.2.2.2.2.2.1 = nS) (hS2 : g.2.2.2.2.2.2 = xS) (hd : decode J.2.1 pc = .ok (.iaload, 1)) (hx : zsc nS xS i = some x) (kk : zR g J h0 (pc + 1) L (zi x :: st) h r h') : zR g J h0 pc L (zi i :: zs 8 :: st) h r h' := by
  subst hS1; subst hS2
  unfold zsc at hx
  split at hx
  · cases hx
  · next hc =>
    cases hx
    refine zR.step (fun X _ _ _ _ hT hL kk => ?_) kk
    obtain ⟨-, -, -, -, -, -, -, hX, hA, -⟩ := X.2.2.2.2.2.2.1
    obtain ⟨scr, e1, -⟩ := id hX
    exact va_sld X.1 X.2.1 hX (Array.getElem?_eq_some_iff.mp e1).1 hA hT.2.2 hc hd (kk _ hL)
theorem zq_slen {nS : Nat} (hS1 : g.2.2.2.2.2.1 = nS) (hd : decode J.2.1 pc = .ok (.arraylength, 1)) (kk : zR g J h0 (pc + 1) L (zi (nI nS) :: st) h r h') : zR g J h0 pc L (zs 8 :: st) h r h' := by
  subst hS1
  refine zR.step (fun X _ _ _ _ hT hL kk => ?_) kk
  obtain ⟨-, -, -, -, -, -, -, hX, hA, -⟩ := X.2.2.2.2.2.2.1
  obtain ⟨scr, e1, -⟩ := id hX
  exact va_slen X.1 X.2.1 hX (Array.getElem?_eq_some_iff.mp e1).1 hA hT.2.2 hd (kk _ hL)
theorem zok_b {x : Int32} (h : x = 0 ∨ x = 1) : zok (some .boolean) (some (zi x)) := by
  rcases h with rfl | rfl <;> rfl
theorem zne {x k : Int32} {n : Int} (h : ¬ x = k) (hk : k.toInt = n) : x.toInt ≠ n := by
  intro e
  exact h (Int32.toInt_inj.mp (e.trans hk.symm))
end zlock
