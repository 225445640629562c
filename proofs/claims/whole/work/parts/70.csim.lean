/-! ===== layout: the class's search is the search ===== -/
theorem sv.put {st nb : Nat → Int32} {i p P : Nat} {W : Nat → Nat} (w : sv st nb i P W) (hf : fre i p W) : sv (upd st p (nb i)) nb (i + 1) P (va_up W i p) := by
  refine ⟨fun k hk => ?_, fun q hq hfq => ?_⟩
  · by_cases hki : k = i
    · subst hki; rw [vu_at, up_at]
    · rw [vu_ne _ _ hki, up_ne _ _ (hf k (by omega))]
      exact w.1 k (by omega)
  · have h1 : q ≠ p := by
      have := hfq i (by omega)
      rw [vu_at] at this
      exact fun z => this z.symm
    rw [up_ne _ _ h1]
    refine w.2 q hq (fun k hk => ?_)
    have := hfq k (by omega)
    rw [vu_ne _ _ (by omega)] at this
    exact this
theorem sv.lift {st nb : Nat → Int32} {i P : Nat} {W : Nat → Nat} (w : sv st nb (i + 1) P W) (hd : ∀ k k', k < k' → k' < i + 1 → W k ≠ W k') : sv (upd st (W i) (-1)) nb i P W := by
  refine ⟨fun k hk => ?_, fun q hq hfq => ?_⟩
  · rw [up_ne _ _ (hd k i hk (by omega))]
    exact w.1 k (by omega)
  · by_cases hqi : q = W i
    · rw [hqi, up_at]
    · rw [up_ne _ _ hqi]
      refine w.2 q hq (fun k hk => ?_)
      by_cases hki : k = i
      · subst hki; exact fun z => hqi z.symm
      · exact hfq k (by omega)
section csim
variable {h : zH} {KI : Nat → Int32} {KR : Nat → Option Nat} {KA : Nat → Nat → Int32} {KP : Nat → Option Nat} {N P A : Nat} {nb cb : Nat → Int32}
theorem c_sim (hl : 46 ≤ h.length) (hP : P ≤ 16) (he : P % 2 = 0) (hA : A ≤ 16) (hcb : ∀ k, k < A → cb k ≠ -1) (hnb : ∀ k, k < A → nb k ≠ -1) (hN : 20 ≤ N) :
    ∀ (n i p : Nat) (W : Nat → Nat) (t : Nat) (r : Int32) (V : Nat → Nat), SQ P A cb n i p W t r V → sI P A i p W t → i < A → ∀ (pl st sc : Nat → Int32) (s f1 f2 : Nat), (∀ k, k < i → pl k = nI (W k)) → sv st nb i P W → sv sc cb i P W → s + i ≤ 2 * t → n ≤ f1 → P - p < f2 →
    ∃ t' pl' st' sc', zb2 (f_X3_nextPlace_2 N f2 (h.length + 0) (cb i) (nI p) (cp (h ++ plC h P A t nb cb pl st sc) KI KR KA KP)) (sCont N f1 (h.length + 0) (nI i) (nI s)) = some (r, cp (h ++ plC h P A t' nb cb pl' st' sc') KI KR KA KP) ∧ (r = nI A → sv st' nb A P V) := by
  intro n
  induction n with
  | zero => intro i p W t r V e; exact absurd e (by unfold SQ; exact fun z => z)
  | succ n ih =>
    intro i p W t r V e w hi pl st sc s f1 f2 hpl hst hsc hs hf1 hf2
    obtain ⟨w1, w2, w3, w4, w5⟩ := id w
    obtain ⟨f1, rfl⟩ : ∃ m, f1 = m + 1 := ⟨f1 - 1, by omega⟩
    obtain ⟨f2, rfl⟩ : ∃ m, f2 = m + 1 := ⟨f2 - 1, by omega⟩
    have t6 : ∀ {pl st sc : Nat → Int32} {t : Nat}, zgI (cp (h ++ plC h P A t nb cb pl st sc) KI KR KA KP) 3 (some (h.length + 0)) 6 = some (nI t) := n_I hl (i := 0) rfl rfl
    have l4 : ∀ {pl st sc : Nat → Int32} {t : Nat}, zgR (cp (h ++ plC h P A t nb cb pl st sc) KI KR KA KP) 3 (some (h.length + 0)) 4 = some (some (h.length + 4)) := n_R hl (i := 0) rfl rfl
    have ln : ∀ {pl st sc : Nat → Int32} {t : Nat}, zlen (cp (h ++ plC h P A t nb cb pl st sc) KI KR KA KP) (some (h.length + 4)) = some (nI P) := n_ln hl (i := 4) rfl (by omega)
    have ck : ∀ {pl st sc : Nat → Int32} {t : Nat}, zck (cp (h ++ plC h P A t nb cb pl st sc) KI KR KA KP) 3 (some (h.length + 0)) = some (h.length + 0) := n_k hl (i := 0) rfl
    unfold SQ at e
    rcases e with ⟨e1, -⟩ | ⟨e1, e2, e3, e4⟩ | ⟨i', rfl, e1, e2, e3⟩ | ⟨e1, e2, e3, e4⟩ | ⟨e1, e2, e3, e4, e5⟩ | ⟨e1, e2, e3, e4, e5, e6⟩ | ⟨e1, e2, e3, e4, e5, e6⟩
    · omega
    · have hp : p = P := by omega
      subst hp
      subst e3
      refine ⟨t, pl, st, sc, zS (np_end hl hP) (bS t6 (iT ((nI_leI (b := 20000) (by omega) (by omega)).mpr w5) (bS l4 (bS ln (iT (Int32.le_refl _) (iT rfl (by rw [e4]))))))), fun z => ?_⟩
      rw [e4] at z
      exact absurd z.symm (nI_nm (by omega))
    · have hp : p = P := by omega
      subst hp
      have hW := w3 i' (by omega)
      obtain ⟨t', pl', st', sc', x1, x2⟩ := ih i' (W i' + 1) W t r V e3 w.pop (by omega) pl (upd st (W i') (-1)) (upd sc (W i') (-1)) (s + 1) f1 N (fun k hk => hpl k (by omega)) (hst.lift w4) (hsc.lift w4) (by omega) (by omega) (by omega)
      refine ⟨t', pl', st', sc', ?_, x2⟩
      have e0 : nI (i' + 1) + -1 = nI i' := pk_m1 i'
      have pli : ∀ {st sc : Nat → Int32} {t : Nat}, zld (cp (h ++ plC h p A t nb cb pl st sc) KI KR KA KP) 0 (some (h.length + 3)) (nI i') = some (nI (W i')) := by
        intro st sc t
        exact (n_ld hl (i := 3) rfl (by omega) (by omega)).trans (congrArg some (hpl i' (by omega)))
      refine zS (np_end hl hP) (bS t6 (iT ((nI_leI (b := 20000) (by omega) (by omega)).mpr w5) (bS l4 (bS ln (iT (Int32.le_refl _) (iF (nI_ne0 (by omega) (by omega)) ?_))))))
      rw [e0]
      refine bS (n_R hl (i := 0) rfl rfl) (bS pli (bS (n_R hl (i := 0) rfl rfl) (bS pli (bS ck (bS (g_lift hl hP hW) ?_)))))
      rw [la_r, la_r, s6_go hl hA (by omega) (by omega)]
      exact x1
    · obtain ⟨t', pl', st', sc', x1, x2⟩ := ih i (p + 1) W t r V e4 (w.next e2 w5) hi pl st sc s (f1 + 1) f2 hpl hst hsc hs (by omega) (by omega)
      refine ⟨t', pl', st', sc', ?_, x2⟩
      have hne : st p ≠ -1 := by
        intro z
        apply e3
        intro k hk hw
        apply hnb k (by omega)
        rw [← hst.1 k hk, hw, z]
      rw [np_skip hl hP e2 hne]
      exact x1
    · have ht : t = 20000 := by omega
      subst ht
      refine ⟨20001, pl, st, sc, ?_, fun z => ?_⟩
      · rw [np_try hl hP e2 (hst.2 p e2 e3), if_pos (by decide)]
        exact zS rfl (bS t6 (iF (by decide) (by rw [e5])))
      · rw [e5] at z
        have z2 := congrArg Int32.toInt z
        rw [nI_toInt (by omega)] at z2
        have z3 : (-2 : Int32).toInt = -2 := by decide
        omega
    · have nt : ¬ (20000 : Int32) < nI (t + 1) := nI_nlt (b := t + 1) (a := 20000) (by omega) (by omega)
      obtain ⟨v, v1, v2⟩ := g_parted (N := N) (KI := KI) (KR := KR) (KA := KA) (KP := KP) (A := A) (t := t + 1) (nb := nb) (pl := pl) (st := st) hl hP he hsc (hcb i hi) e2 e3 w3
      have v0 : ¬ v = 0 := fun z => v2.mp z e5
      have np : f_X3_nextPlace_2 N (f2 + 1) (h.length + 0) (cb i) (nI p) (cp (h ++ plC h P A t nb cb pl st sc) KI KR KA KP) = some (nI p, cp (h ++ plC h P A (t + 1) nb cb pl st sc) KI KR KA KP) := by
        rw [np_try hl hP e2 (hst.2 p e2 e3), if_neg nt]
        exact bS v1 (iF v0 rfl)
      have pre : ∀ {X}, f_X3_search_6 N (f1 + 1) (h.length + 0) (nI (i + 1)) (0 : Int32) (nI (s + 1)) (cp (h ++ plC h P A (t + 1) nb cb (upd pl i (nI p)) (upd st p (nb i)) (upd sc p (cb i))) KI KR KA KP) = X → zb2 (f_X3_nextPlace_2 N (f2 + 1) (h.length + 0) (cb i) (nI p) (cp (h ++ plC h P A t nb cb pl st sc) KI KR KA KP)) (sCont N (f1 + 1) (h.length + 0) (nI i) (nI s)) = X := by
        intro X hX
        refine zS np (bS t6 (iT ((nI_leI (b := 20000) (by omega) (by omega)).mpr (by omega)) (bS l4 (bS ln (iF (nI_ge e2 (by omega)) (bS ck (bS (g_putP hl hP (by omega) e2) ?_)))))))
        rw [la_r, la_r]
        exact hX
      by_cases hi2 : i + 1 < A
      · obtain ⟨t', pl', st', sc', x1, x2⟩ := ih (i + 1) 0 (va_up W i p) (t + 1) r V e6 (w.put hi e2 e3 e4) hi2 (upd pl i (nI p)) (upd st p (nb i)) (upd sc p (cb i)) (s + 1) f1 N (fun k hk => by
          by_cases hki : k = i
          · subst hki; rw [vu_at, up_at]
          · rw [vu_ne _ _ hki, up_ne _ _ hki]; exact hpl k (by omega)) (hst.put e3) (hsc.put e3) (by omega) (by omega) (by omega)
        refine ⟨t', pl', st', sc', pre ?_, x2⟩
        rw [s6_go hl hA hi2 (by omega)]
        exact x1
      · have hi3 : i + 1 = A := by omega
        have fin : r = nI A ∧ V = va_up W i p := by
          cases n with
          | zero => exact absurd e6 (by unfold SQ; exact fun z => z)
          | succ m =>
            unfold SQ at e6
            rcases e6 with ⟨-, y⟩ | ⟨y, -⟩ | ⟨-, -, y, -⟩ | ⟨y, -⟩ | ⟨y, -⟩ | ⟨y, -⟩ | ⟨y, -⟩
            · exact y
            all_goals omega
        refine ⟨t + 1, upd pl i (nI p), upd st p (nb i), upd sc p (cb i), pre ?_, fun _ => ?_⟩
        · rw [hi3, s6_end hl hA (by omega), fin.1]
        · rw [fin.2, ← hi3]
          exact hst.put e3
    · have nt : ¬ (20000 : Int32) < nI (t + 1) := nI_nlt (b := t + 1) (a := 20000) (by omega) (by omega)
      obtain ⟨v, v1, v2⟩ := g_parted (N := N) (KI := KI) (KR := KR) (KA := KA) (KP := KP) (A := A) (t := t + 1) (nb := nb) (pl := pl) (st := st) hl hP he hsc (hcb i hi) e2 e3 w3
      obtain ⟨t', pl', st', sc', x1, x2⟩ := ih i (p + 1) W (t + 1) r V e6 (w.next e2 (by omega)) hi pl st sc s (f1 + 1) f2 hpl hst hsc (by omega) (by omega) (by omega)
      refine ⟨t', pl', st', sc', ?_, x2⟩
      have np : f_X3_nextPlace_2 N (f2 + 1) (h.length + 0) (cb i) (nI p) (cp (h ++ plC h P A t nb cb pl st sc) KI KR KA KP) = f_X3_nextPlace_2 N f2 (h.length + 0) (cb i) (nI (p + 1)) (cp (h ++ plC h P A (t + 1) nb cb pl st sc) KI KR KA KP) := by
        rw [np_try hl hP e2 (hst.2 p e2 e3), if_neg nt]
        exact bS v1 (iT (v2.mpr e5) (by rw [la_r]))
      rw [np]
      exact x1
/-- search() as a whole -/
theorem c_search (hl : 46 ≤ h.length) (hP : P ≤ 16) (he : P % 2 = 0) (hA : A ≤ 16) (hcb : ∀ k, k < A → cb k ≠ -1) (hnb : ∀ k, k < A → nb k ≠ -1) {n : Nat} {r : Int32} {V W : Nat → Nat} {pl st sc : Nat → Int32} (hN : n + 30 ≤ N) (e : SQ P A cb n 0 0 W 0 r V) (hst : ∀ p, p < P → st p = -1) (hsc : ∀ p, p < P → sc p = -1) :
    ∃ t' pl' st' sc', f_X3_search N (h.length + 0) (cp (h ++ plC h P A 0 nb cb pl st sc) KI KR KA KP) = some (r, cp (h ++ plC h P A t' nb cb pl' st' sc') KI KR KA KP) ∧ (r = nI A → sv st' nb A P V) := by
  have w : sI P A 0 0 W 0 := ⟨by omega, by omega, fun k hk => by omega, fun k k' h1 h2 => by omega, by omega⟩
  have s1 : sv st nb 0 P W := ⟨fun k hk => by omega, fun p hp _ => hst p hp⟩
  have s2 : sv sc cb 0 P W := ⟨fun k hk => by omega, fun p hp _ => hsc p hp⟩
  obtain ⟨N, rfl⟩ : ∃ m, N = m + 1 := ⟨N - 1, by omega⟩
  unfold f_X3_search
  by_cases h0 : 0 < A
  · obtain ⟨t', pl', st', sc', x1, x2⟩ := c_sim (h := h) (KI := KI) (KR := KR) (KA := KA) (KP := KP) (N := N + 1) hl hP he hA hcb hnb (by omega) n 0 0 W 0 r V e w h0 pl st sc 0 N (N + 1) (fun k hk => by omega) s1 s2 (by omega) (by omega) (by omega)
    refine ⟨t', pl', st', sc', ?_, x2⟩
    have := s6_go (N := N + 1) (f := N) (s := 0) (x := 0) (i := 0) (P := P) (t := 0) (nb := nb) (cb := cb) (pl := pl) (st := st) (sc := sc) (KI := KI) (KR := KR) (KA := KA) (KP := KP) hl hA h0 (by omega)
    exact this.trans x1
  · have hA0 : A = 0 := by omega
    have fin : r = nI A ∧ V = W := by
      cases n with
      | zero => exact absurd e (by unfold SQ; exact fun z => z)
      | succ m =>
        unfold SQ at e
        rcases e with ⟨-, y⟩ | ⟨y, -⟩ | ⟨-, -, y, -⟩ | ⟨y, -⟩ | ⟨y, -⟩ | ⟨y, -⟩ | ⟨y, -⟩
        · exact y
        all_goals omega
    refine ⟨0, pl, st, sc, ?_, fun _ => ?_⟩
    · have := s6_end (N := N + 1) (f := N) (s := 0) (x := 0) (P := P) (t := 0) (nb := nb) (cb := cb) (pl := pl) (st := st) (sc := sc) (KI := KI) (KR := KR) (KA := KA) (KP := KP) hl hA (by omega)
      rw [fin.1]
      subst hA0
      exact this
    · rw [hA0]
      exact ⟨fun k hk => by omega, fun p hp _ => hst p hp⟩
end csim
