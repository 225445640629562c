theorem va_id {α : Type} (f : Nat → α) (k : Nat) : va_up f k (f k) = f := by
  funext p
  by_cases h : p = k
  · subst h; rw [vu_at]
  · rw [vu_ne _ _ h]
theorem op_shoot {h : zH} {N : Nat} (hN : 21000 ≤ N) (H : INX h) (x : Int32) : OPo (f_X11_shoot N 0 x) (f_X12_shoot N 27 x) h := by
  obtain ⟨KI, KR, KA, KP, I, A, c, q, H⟩ := H
  obtain ⟨hl, hC, hM, i1, i2, i3, i4, i5, i6, i7, i8, ⟨n, k1, k2, k3, k4⟩⟩ := id H
  obtain ⟨rq, aq, lq, nq, AR, s0, s1, s2, s3, s4, s5, s6⟩ := id i5
  have hq5 : ∀ {KA}, zgR (cp h (upd KI 2 0) KR KA KP) 11 (some 0) 5 = some (some q) := (cg0_5 hl).trans (congrArg some i4)
  have hf := c_find (N := N) (KI := upd KI 2 0) (KR := KR) (KA := KA) (KP := KP) s0 s1 s3 x
  have ez : (1 : Int32) ≠ 0 := by decide
  have qv0 : ∀ {KI' KA' I' A'}, KI' 2 = 0 → I' 23 = 0 → qvR KI' KA' I' A' := fun e1 e2 => ⟨0, e1, e2, by omega, fun k hk => by omega⟩
  have mut0 : ∀ {r : Int32} {g1 g2 : Nat → Int32}, f_X11_shoot N 0 x (cp h KI KR KA KP) = some (r, cp h (upd KI 2 0) KR (va_up KA 17 g1) KP) → (∀ h1 : zH, 46 ≤ h1.length → f_X12_shoot N 27 x (mp h1 I A) = some (r, mp h1 (upd I 23 0) (va_up A 27 g2))) → OPo (f_X11_shoot N 0 x) (f_X12_shoot N 27 x) h := by
    intro r g1 g2 hx hm
    refine OPo.mut H (ns := []) (KR' := KR) (by rw [List.append_nil]; exact hx) hm (up_ne _ _ (by decide)) (up_ne _ _ (by decide)) (vu_ne _ _ (by decide)) rfl (i7.cg (up_ne _ _ (by decide)) (up_ne _ _ (by decide)) (vu_ne _ _ (by decide)) (vu_ne _ _ (by decide))) ?_ (qv0 (up_at _ _ _) (up_at _ _ _)) (by simp) (by simp [zsl])
    rw [up_ne _ _ (by decide), up_ne _ _ (by decide), up_ne _ _ (by decide), up_ne _ _ (by decide)]
    exact i8
  have mut1 : ∀ {r : Int32}, f_X11_shoot N 0 x (cp h KI KR KA KP) = some (r, cp h (upd KI 2 0) KR KA KP) → (∀ h1 : zH, 46 ≤ h1.length → f_X12_shoot N 27 x (mp h1 I A) = some (r, mp h1 (upd I 23 0) A)) → OPo (f_X11_shoot N 0 x) (f_X12_shoot N 27 x) h := fun hx hm => mut0 (g1 := KA 17) (g2 := A 27) (by rw [va_id]; exact hx) (by rw [va_id]; exact hm)
  have em : f_X4_empty N 13 (cp h KI KR KA KP) = some (nI n, cp h (upd KI 2 0) KR KA KP) := bS (cg13_3 hl) (bS (cu13_3 hl 0) (by rw [k1]))
  cases hp : pA (A 0) x with
  | none =>
    exact mut1 (r := -1) (bS (cg0_2 hl) (bS (ck13 hl) (zS em (bS hq5 (bS (fk s0.c) (bS (hf.1 (by rw [pA_seg]; exact hp)) (iT rfl rfl))))))) (fun h1 hl1 => bS (mg23 hl1) (bS (mu23 hl1 0) (bS (mck hl1) (bS (m_isA0 hl1 hp) (iT rfl rfl)))))
  | some j =>
    obtain ⟨y, e1, e2⟩ := hf.2 j (by rw [pA_seg]; exact hp)
    obtain ⟨hj, rfl, hcl⟩ := pA_some hp
    have w := s3 j hj
    rw [e1] at w
    obtain ⟨⟨cl, c1, c2⟩, sh, sc, y0, ws, wc⟩ := w
    cases rq with
    | none =>
      refine mut1 (r := -1) (bS (cg0_2 hl) (bS (ck13 hl) (zS em (bS hq5 (bS (fk s0.c) (bS e2 (iF (by simp) (bS hq5 (bS (fgR s0.c rfl) (iT rfl rfl)))))))))) (fun h1 hl1 => bS (mg23 hl1) (bS (mu23 hl1 0) (bS (mck hl1) (bS (m_isA hl1 hp) (iF ez (bS (mg0 hl1) (bS (ml0 hl1 (j := 0) (by omega)) (iT ?_ rfl))))))))
      exact (seg_lo _ (j := 0) (by omega)).symm.trans s2
    | some r =>
    obtain ⟨e, n1, n2, n3, n4, n5⟩ := ws.okE s2
    have ws' : shR (cp h (upd KI 2 0) KR KA KP) sh (seg (A 0) 0) j := ws.mono cp0k
    have s2' : rR (cp h (upd KI 2 0) KR KA KP) (some r) (seg (A 0) 0) := s2.mono cp0k
    have ys : zck (cp h (upd KI 2 0) KR KA KP) 8 (some sh) = some sh := by obtain ⟨b1, b2, b3, n, m, f1, f2, f3, q0, -⟩ := ws'; exact fk q0.2
    have rk : zck (cp h (upd KI 2 0) KR KA KP) 6 (some r) = some r := by obtain ⟨w, a1, a2, a3, a4, a5, a6, a7, a8, f1, f2, f3, f4, f5, f6, f7, f8, q0, -⟩ := s2'; exact fk q0.2
    have n1' : A 0 (141 + j) = nI e := by rw [← n1, seg_lo _ (by omega)]
    have wF := s2.1
    have wd : wfR (A 0) := wfR.cg (sg125 _) wF
    have d0 : ¬ A 0 0 = 0 := by rw [wd.1]; decide
    have hT : tE (A 0) = tE (seg (A 0) 0) := tE.cg (sg125 _)
    have hT48 := tE_le wF
    have hnT : e ≤ tE (seg (A 0) 0) := by
      rcases n4 with n4 | ⟨-, n4⟩
      · omega
      · exact n4
    have cx : ∀ {v lv}, f_X6_legOf N r (nI e) (cp h (upd KI 2 0) KR KA KP) = some lv → (if lv = ((-1) : Int32) then some (((-1) : Int32), (cp h (upd KI 2 0) KR KA KP)) else (zgR (cp h (upd KI 2 0) KR KA KP) 11 (some 0) 5).bind fun x12 => (zgR (cp h (upd KI 2 0) KR KA KP) 9 x12 0).bind fun x13 => (zck (cp h (upd KI 2 0) KR KA KP) 6 x13).bind fun q5 => (f_X6_arrowsOf N q5 lv (cp h (upd KI 2 0) KR KA KP)).bind fun x14 => if nI n = x14 then (zgR (cp h (upd KI 2 0) KR KA KP) 11 (some 0) 2).bind fun x15 => (zgR (cp h (upd KI 2 0) KR KA KP) 11 (some 0) 5).bind fun x16 => (zgR (cp h (upd KI 2 0) KR KA KP) 9 x16 0).bind fun x17 => (zck (cp h (upd KI 2 0) KR KA KP) 4 x15).bind fun q6 => zb2 (f_X4_judge N q6 x17 lv (nI n) (cp h (upd KI 2 0) KR KA KP)) fun x18 h2 => if x18 = ((-1) : Int32) then some (((-3) : Int32), h2) else (zck h2 11 (some 0)).bind fun q7 => zb2 (f_X11_change N q7 h2) fun x19 h3 => (zgR h3 0 (some y) 1).bind fun x20 => (zgR h3 11 (some 0) 2).bind fun x21 => (zgR h3 4 x21 4).bind fun x22 => (zck h3 8 x20).bind fun q8 => zb2 (f_X8_withEnd N q8 x22 (nI n) x18 h3) fun x23 h4 => (zck h4 0 (some y)).bind fun q9 => zb2 (f_X0_with N q9 x23 h4) fun x24 h5 => (zck h5 9 x19).bind fun q10 => (f_X9_put N q10 (nI j) x24 h5).bind fun h6 => some (x18, h6) else some (((-2) : Int32), (cp h (upd KI 2 0) KR KA KP))) = v → f_X11_shoot N 0 (nI j) (cp h KI KR KA KP) = v := fun hlg hv => bS (cg0_2 hl) (bS (ck13 hl) (zS em (bS hq5 (bS (fk s0.c) (bS e2 (iF (by simp) (bS hq5 (bS (fgR s0.c rfl) (iF (by simp) (bS hq5 (bS (fgR s0.c rfl) (bS (fgR y0.c rfl) (bS ys (bS (g_cEnds ws' n1 n2) (bS rk (bS hlg hv))))))))))))))))
    have mx : ∀ {h1 : zH} {v}, 46 ≤ h1.length → (if nI e = nI (tE (A 0)) then some (((-1) : Int32), (mp h1 (upd I 23 0) A)) else (zgR (mp h1 (upd I 23 0) A) 12 (some 27) 0).bind fun x8 => (zld (mp h1 (upd I 23 0) A) 0 x8 ((141 : Int32) + nI j)).bind fun x9 => (zck (mp h1 (upd I 23 0) A) 12 (some 27)).bind fun q3 => (f_X12_legOf N q3 x9 (mp h1 (upd I 23 0) A)).bind fun x10 => (zgR (mp h1 (upd I 23 0) A) 12 (some 27) 0).bind fun x11 => (zld (mp h1 (upd I 23 0) A) 0 x11 (((2 : Int32) + ((3 : Int32) * x10)) + (1 : Int32))).bind fun x12 => if nI n = x12 then f_X12_shoot_87 N N 27 (nI j) (nI n) x10 (0 : Int32) (0 : Int32) (mp h1 (upd I 23 0) A) else some (((-2) : Int32), (mp h1 (upd I 23 0) A))) = v → f_X12_shoot N 27 (nI j) (mp h1 I A) = v := fun hl1 hv => bS ((mg23 hl1).trans (congrArg some k2)) (bS (mu23 hl1 0) (bS (mck hl1) (bS (m_isA hl1 hp) (iF ez (bS (mg0 hl1) (bS (ml0 hl1 (j := 0) (by omega)) (iF d0 (bS (mg0 hl1) (bS (ld141 hl1 hj n1') (bS (mck hl1) (bS (m_of1 hl1 (by omega) wd) hv)))))))))))
    have lg := g_legOf (N := N) (e := e) s2' (by omega) (by omega)
    by_cases hE : e = tE (seg (A 0) 0)
    · exact mut1 (r := -1) (cx (lg.trans (congrArg some (if_neg (by omega)))) (iT rfl rfl)) (fun h1 hl1 => mx hl1 (iT (by rw [hT, ← hE]) rfl))
    have hE2 : e < tE (seg (A 0) 0) := by omega
    rw [if_pos hE2] at lg
    have hL := lg_lt wF hE2
    have hL4 := (wf_L wF).2.2
    obtain ⟨w1, w2, w3⟩ := wf_w wF hL
    have gl : lgOf (A 0) e = lgOf (seg (A 0) 0) e := lgOf.cg (sg125 _) e
    have mlg : ∀ {h1 : zH}, 46 ≤ h1.length → f_X12_legOf N 27 (nI e) (mp h1 (upd I 23 0) A) = some (nI (lgOf (seg (A 0) 0) e)) := fun hl1 => by rw [m_legOf hl1 (by omega) wd (by rw [hT]; exact hE2), gl]
    have mar : ∀ {h1 : zH}, 46 ≤ h1.length → zld (mp h1 (upd I 23 0) A) 0 (some 28) (((2 : Int32) + ((3 : Int32) * nI (lgOf (seg (A 0) 0) e))) + (1 : Int32)) = some (nI (wN (seg (A 0) 0) (lgOf (seg (A 0) 0) e))) := fun hl1 => by
      rw [lm_l, la_l, la_r, ml0 hl1 (by omega), show 2 + 3 * lgOf (seg (A 0) 0) e + 1 = 3 + 3 * lgOf (seg (A 0) 0) e by omega, ← seg_lo (A 0) (by omega), w1]
    have nE : ¬ nI e = nI (tE (A 0)) := by rw [hT]; exact fun z => hE ((nI_eq (by omega) (by omega)).mp z)
    have nL : ¬ nI (lgOf (seg (A 0) 0) e) = -1 := nI_nm (by omega)
    by_cases hw : n = wN (seg (A 0) 0) (lgOf (seg (A 0) 0) e)
    · have hwI : nI n = nI (wN (seg (A 0) 0) (lgOf (seg (A 0) 0) e)) := congrArg nI hw
      have jb := j_both (KI := upd KI 2 0) (KR := KR) (KA := KA) (KP := KP) (I := upd I 23 0) (A := A) (N := N) (a := j) hl hN s2 (fun j hj => seg_lo _ (by omega)) hL k3 k4 n 0 N N (KA 17) (A 27) 0 (by omega) (by omega) (by omega) (fun i hi => by omega) (by omega) rfl
      rw [va_id, va_id] at jb
      rcases jb with ⟨g1, g2, b1, b2⟩ | ⟨g1, g2, S1, b1, b2, b3, b4, b5⟩
      · exact mut0 (r := -3) (g1 := g1) (g2 := g2) (cx lg (iF nL (bS hq5 (bS (fgR s0.c rfl) (bS rk (bS (g_arrowsOf s2' hL) (iT hwI (bS (cg0_2 hl) (bS hq5 (bS (fgR s0.c rfl) (bS (ck13 hl) (zS b1 (iT rfl rfl))))))))))))) (fun h1 hl1 => mx hl1 (iF nE (bS (mg0 hl1) (bS (ld141 hl1 hj n1') (bS (mck hl1) (bS (mlg hl1) (bS (mg0 hl1) (bS (mar hl1) (iT hwI (b2 h1 hl1))))))))))
      obtain ⟨u1, u2, u3, n', m, t1, t2, t3, q0, q1, q2, q3, z1, z2, z3, z4, z5, z6, z7, z8, z9⟩ := ws
      have hnn : n' = e := (nI_eq (by omega) (by omega)).mp (z1.symm.trans n1)
      subst hnn
      have eT2 : aT (seg (A 0) 0) (n' + 1) = aT (seg (A 0) 0) n' + n := by rw [hw]; rfl
      have e288 := aT_288 wF (n := n' + 1) (by omega)
      have g0 : ∀ {ns : List zE} {KI : Nat → Int32} {KR : Nat → Option Nat} {KA : Nat → Nat → Int32} {KP : Nat → Option Nat}, (cp (h ++ ns) KI KR KA KP)[sh]? = some (.inr (8, [zr (some u1), zr (some u2), zr (some u3)])) := n_old (fz_19 q0.1) q0.2
      have gg1 : ∀ {ns : List zE} {KI : Nat → Int32} {KR : Nat → Option Nat} {KA : Nat → Nat → Int32} {KP : Nat → Option Nat}, (cp (h ++ ns) KI KR KA KP)[u1]? = some (.inl (0, n', .inl t1)) := n_old (fz_19 q1.1) q1.2
      have gg2 : ∀ {ns : List zE} {KI : Nat → Int32} {KR : Nat → Option Nat} {KA : Nat → Nat → Int32} {KP : Nat → Option Nat}, (cp (h ++ ns) KI KR KA KP)[u2]? = some (.inl (0, aT (seg (A 0) 0) n', .inl t2)) := n_old (fz_19 q2.1) q2.2
      have gy : ∀ {ns : List zE} {KI : Nat → Int32} {KR : Nat → Option Nat} {KA : Nat → Nat → Int32} {KP : Nat → Option Nat}, (cp (h ++ ns) KI KR KA KP)[y]? = some (.inr (0, [zi (seg (A 0) 0 (125 + j)), zr (some sh), zr (some sc)])) := n_old (fz_19 y0.1) y0.2
      have aTA : aT (A 0) n' = aT (seg (A 0) 0) n' := aT_seg _ _
      have m0 : va_up A 27 g2 0 = A 0 := vu_ne _ _ (by decide)
      have kk := kept.cp (h := h) (ns := [.inr (9, [zr (some r), zr (some (h.length + 1)), zr (some lq), zr (some nq), zi (seg (A 0) 0 6897)]), .inl (4, 16, .inr (va_up AR j (some (h.length + 5)))), .inl (0, aT (seg (A 0) 0) n' + n, .inl (catF (cpy t2 (min (aT (seg (A 0) 0) n') (aT (seg (A 0) 0) n' + n))) (aT (seg (A 0) 0) n') n g1)), .inr (8, [zr (some (h.length + 4)), zr (some (h.length + 2)), zr (some u3)]), .inl (0, n' + 1, .inl (upd (cpy t1 (min n' (n' + 1))) n' (nI S1))), .inr (0, [zi (seg (A 0) 0 (125 + j)), zr (some (h.length + 3)), zr (some sc)])]) (KI := upd (upd KI 2 0) 0 (nI (kpC c))) (KR := va_up KR 0 (some (h.length + 0))) (KA := va_up KA 17 g1) (KP := kpP KP c q)
      refine OPo.chgX H (r := nI S1) (ns := [.inr (9, [zr (some r), zr (some (h.length + 1)), zr (some lq), zr (some nq), zi (seg (A 0) 0 6897)]), .inl (4, 16, .inr (va_up AR j (some (h.length + 5)))), .inl (0, aT (seg (A 0) 0) n' + n, .inl (catF (cpy t2 (min (aT (seg (A 0) 0) n') (aT (seg (A 0) 0) n' + n))) (aT (seg (A 0) 0) n') n g1)), .inr (8, [zr (some (h.length + 4)), zr (some (h.length + 2)), zr (some u3)]), .inl (0, n' + 1, .inl (upd (cpy t1 (min n' (n' + 1))) n' (nI S1))), .inr (0, [zi (seg (A 0) 0 (125 + j)), zr (some (h.length + 3)), zr (some sc)])]) (KI' := upd (upd KI 2 0) 0 (nI (kpC c))) (KA' := va_up KA 17 g1) (I' := upd (upd I 23 0) 1 (nI (kpC c))) (A' := va_up (va_up A 27 g2) 0 (upd (catF (kpD (A 0) c) (157 + 288 * j + aT (A 0) n') n g2) (141 + j) (nI (n' + 1)))) ?_ (fun h1 hl1 => ?_) (up_at _ _ _) (up_at _ _ _) ?_ ?_ (i7.cg ?_ ?_ (vu_ne _ _ (by decide)) ?_) ?_ (qv0 ?_ ?_) (by simp) (by simp [zsl, zsz]; omega)
      · refine cx lg (iF nL (bS hq5 (bS (fgR s0.c rfl) (bS rk (bS (g_arrowsOf s2' hL) (iT hwI (bS (cg0_2 hl) (bS hq5 (bS (fgR s0.c rfl) (bS (ck13 hl) (zS b1 (iF (nI_nm (by omega)) (bS (ck0 hl) (zS (c_chgX H (by omega) s0 s1 (up_ne _ _ (by decide))) ?_))))))))))))))
        have lp := g_we23 (N := N) (h := h) (KI := upd (upd KI 2 0) 0 (nI (kpC c))) (KR := va_up KR 0 (some (h.length + 0))) (KA := va_up KA 17 g1) (KP := kpP KP c q) (f := cpy t2 (min (aT (seg (A 0) 0) n') (aT (seg (A 0) 0) n' + n))) (S := .inr (9, [zr (some r), zr (some (h.length + 1)), zr (some lq), zr (some nq), zi (seg (A 0) 0 6897)])) (R := .inl (4, 16, .inr AR)) hl k3 (by omega) g0 gg1 gg2 (vu_at _ _ _) n2 (nI S1) n 0 N (by omega) (by omega)
        rw [cf_0] at lp
        have hl2 : ∀ {ns : List zE}, 46 ≤ (h ++ ns).length := by intro ns; rw [List.length_append]; omega
        refine bS (fgR gy rfl) (bS (cg0_2 hl2) (bS (cg13_4 hl2) (bS (fk g0) ?_)))
        refine zS (show f_X8_withEnd N sh (some 17) (nI n) (nI S1) _ = some _ from bS (fgR g0 rfl) (bS (fgR g0 rfl) (bS (flen gg2 (by omega)) (zS (n_cpi hl 2 rfl gg2 (m := aT (seg (A 0) 0) n' + n) (by rw [max0 (by omega), nI_add]) (by omega) (by omega) (by omega)) lp)))) ?_
        refine bS (fk gy) (zS (show f_X0_with N y (some (h.length + 3)) _ = some _ from nS hl 5 rfl (bS (fgI gy rfl) (bS (fgR gy rfl) (bS (bS (n_u hl (i := 5) rfl (Nat.le_of_ble_eq_true rfl)) (bS (n_u hl (i := 5) rfl (Nat.le_of_ble_eq_true rfl)) (bS (n_u hl (i := 5) rfl (Nat.le_of_ble_eq_true rfl)) rfl))) rfl)))) ?_)
        exact bS (n_k hl (i := 0) rfl) (bS (c_put hl rfl rfl hj (Or.inr ⟨_, n_k hl (i := 5) rfl⟩)) rfl)
      · refine mx hl1 (iF nE (bS (mg0 hl1) (bS (ld141 hl1 hj n1') (bS (mck hl1) (bS (mlg hl1) (bS (mg0 hl1) (bS (mar hl1) (iT hwI ((b5 h1 hl1).trans ?_)))))))))
        have se := m_sEnd (N := N) (h := h1) (I := upd I 23 0) (A := va_up A 27 g2) (g := g2) (e := n') (n := n) (a := j) (c := c) hl1 hN i3 ((up_ne _ _ (by decide)).trans i2) hj (by rw [m0]; exact n1') (by rw [m0]; exact wd) (by rw [m0, hT]; exact hE2) k3 (by rw [m0, aTA]; omega) (nI S1) (vu_at _ _ _)
        rw [m0] at se
        exact se
      · intro i hi
        rw [vu_at, seg_upi _ (by omega) hi, seg_cfi _ _ (by omega) hi]
      · rw [vu_at, seg_up0 _ (by omega), seg_cf0 _ _ (by omega), seg_kp0, aTA]
        have nu : ∀ p, p ≠ 141 + j → ¬ (157 + 288 * j + aT (seg (A 0) 0) n' ≤ p ∧ p < 157 + 288 * j + aT (seg (A 0) 0) n' + n) → upd (catF (seg (A 0) 0) (157 + 288 * j + aT (seg (A 0) 0) n') n g2) (141 + j) (nI (n' + 1)) p = seg (A 0) 0 p := fun p v1 v2 => by rw [up_ne _ _ v1, cf_out _ _ v2]
        have qr : ∀ p, p < 125 → upd (catF (seg (A 0) 0) (157 + 288 * j + aT (seg (A 0) 0) n') n g2) (141 + j) (nI (n' + 1)) p = seg (A 0) 0 p := fun p hp => nu p (by omega) (by omega)
        have em1 : min (aT (seg (A 0) 0) n') (aT (seg (A 0) 0) n' + n) = aT (seg (A 0) 0) n' := Nat.min_eq_left (by omega)
        have em2 : min n' (n' + 1) = n' := Nat.min_eq_left (by omega)
        refine SR.putA (F := seg (A 0) 0) hl hj s2 s3 s4 s6 rfl rfl (fun p hp => ?_) ?_ ?_
        · unfold ownA at hp
          exact nu p (by omega) (by omega)
        · have cc := nu (125 + j) (by omega) (by omega)
          refine ⟨⟨cl, cc.trans c1, c2⟩, h.length + 3, sc, ⟨fz_new hl 5, by rw [cc]; exact (n_get hl).trans rfl⟩, ?_, (wc.mono kk).cs (fun p hp => nu p (by omega) (by omega))⟩
          refine ⟨h.length + 4, h.length + 2, u3, n' + 1, m, upd (cpy t1 (min n' (n' + 1))) n' (nI S1), catF (cpy t2 (min (aT (seg (A 0) 0) n') (aT (seg (A 0) 0) n' + n))) (aT (seg (A 0) 0) n') n g1, t3, ⟨fz_new hl 3, (n_get hl).trans rfl⟩, ⟨fz_new hl 4, (n_get hl).trans rfl⟩, ⟨fz_new hl 2, by rw [aT.cg qr, eT2]; exact (n_get hl).trans rfl⟩, q3.mono kk, up_at _ _ _, ⟨by omega, by rw [aT.cg qr]; omega⟩, ?_, ?_, ?_, ?_, ?_, z8, ?_⟩
          · intro hz
            rw [nu _ (by omega) (by omega), wF.1] at hz
            exact absurd hz (by decide)
          · intro _
            rw [tE.cg qr]; omega
          · intro k hk
            rw [aT.cg qr, eT2] at hk
            by_cases hk2 : k < aT (seg (A 0) 0) n'
            · rw [nu _ (by omega) (by omega), cf_out _ _ (by omega), em1, cpy, if_pos hk2]
              exact z5 k hk2
            · obtain ⟨v1, v2⟩ := b2 (k - aT (seg (A 0) 0) n') (by omega)
              rw [up_ne _ _ (by omega), cf_in _ _ (by omega), cf_in _ _ (by omega), show 157 + 288 * j + k - (157 + 288 * j + aT (seg (A 0) 0) n') = k - aT (seg (A 0) 0) n' by omega]
              exact ⟨v1, v2⟩
          · intro k hk
            rw [aT.cg qr, aT.cg qr, em1, em2]
            by_cases hk2 : k = n'
            · subst hk2
              rw [up_at, b4, eT2, Nat.add_sub_cancel_left]
              have sh1 : ∀ (k0 : Nat), k0 ≤ n → sN g1 0 k0 = sN (catF (cpy t2 (aT (seg (A 0) 0) k)) (aT (seg (A 0) 0) k) n g1) (aT (seg (A 0) 0) k) k0 := by
                intro k0
                induction k0 with
                | zero => intro _; rfl
                | succ k0 ik =>
                  intro hk0
                  rw [sN, sN, ik (by omega), cf_in _ _ (by omega), Nat.add_sub_cancel_left, Nat.zero_add]
              exact sh1 n (Nat.le_refl _)
            · have m1 := aT_mono (seg (A 0) 0) (n := k) (m := k + 1) (by omega)
              have m2 := aT_mono (seg (A 0) 0) (n := k + 1) (m := n') (by omega)
              rw [up_ne _ _ hk2, cpy, if_pos (by omega), z6 k (by omega)]
              refine sN_cg (fun i v1 v2 => ?_)
              rw [cf_out _ _ (by omega), cpy, if_pos (by omega)]
          · rw [nu _ (by omega) (by omega)]; exact z7
          · intro k hk
            rw [nu _ (by omega) (by omega)]; exact z9 k hk
        · refine (s5.mono kk).cg (fun p h5 h6 => nu p (by omega) (by omega)) (fun b hb h5 => ?_)
          rw [nu _ (by omega) (by omega)]; exact h5
      · rw [up_ne _ _ (by decide), up_ne _ _ (by decide)]
      · rw [up_ne _ _ (by decide), up_ne _ _ (by decide)]
      · rw [vu_ne _ _ (by decide), vu_ne _ _ (by decide)]
      · rw [up_ne _ _ (by decide), up_ne _ _ (by decide), up_ne _ _ (by decide), up_ne _ _ (by decide), up_ne _ _ (by decide), up_ne _ _ (by decide), up_ne _ _ (by decide), up_ne _ _ (by decide)]
        exact i8
      · rw [up_ne _ _ (by decide), up_at]
      · rw [up_ne _ _ (by decide), up_at]
    · have hwI : ¬ nI n = nI (wN (seg (A 0) 0) (lgOf (seg (A 0) 0) e)) := fun z => hw ((nI_eq (by omega) (by omega)).mp z)
      exact mut1 (r := -2) (cx lg (iF nL (bS hq5 (bS (fgR s0.c rfl) (bS rk (bS (g_arrowsOf s2' hL) (iF hwI rfl))))))) (fun h1 hl1 => mx hl1 (iF nE (bS (mg0 hl1) (bS (ld141 hl1 hj n1') (bS (mck hl1) (bS (mlg hl1) (bS (mg0 hl1) (bS (mar hl1) (iF hwI rfl)))))))))
