/-! a slug is laid: change -/
def lyH (h : Hp) (c a l q s : Nat) : Hp := sI (sI (sI (sI h c 10 (nI 0)) c 12 (nI q)) c 11 (nI l)) a l (nI s)
/-- slug s lies at line l of part q -/
def lyM (m : Nat → Int32) (s q l : Nat) : Nat → Int32 := va_up (va_up (va_up m (64630 + 852 * s + 5) (nI l)) (64630 + 852 * s + 6) (nI q)) (130 + 645 * q + 45 + l) (nI (s + 1))
section
variable {tg : Nat → List Nat} {h h1 h' : Hp} {m m' k t : Nat → Int32} {i n f : Int32} {r x s q l : Nat}
theorem ly_at {y : Nat} : lyM m s q l y = if y = 130 + 645 * q + 45 + l then nI (s + 1) else if y = 64630 + 852 * s + 6 then nI q else if y = 64630 + 852 * s + 5 then nI l else m y := by
  unfold lyM
  simp only [up_at]
theorem ly_x (vq : q < 100) (hl : l < 40) (hs : s < 300) : ∀ y, ¬ plX y → lyM m s q l y = m y := fun y hy => by
  unfold plX at hy
  rw [ly_at, if_neg (by omega), if_neg (by omega), if_neg (by omega)]
/-- a slug in place is laid at a line -/
theorem c_ly (K : Rt tg h r x) (S : RmS h r) (V : RmV h r m) (W : Wk m) (hs : s < Nn m 4) (hz : m (64630 + 852 * s + 4) = nI 0) (vq : vP m q) (es : m (130 + 645 * q + 3) = nI 1) (hl : l < Nn m (130 + 645 * q + 4)) : ∃ h1, MX7_layAt h r (nI s) (nI q) (nI l) = some h1 ∧ Ft tg (pT x) h h1 ∧ RmS h1 r ∧ RmV h1 r (lyM m s q l) := by
  obtain ⟨-, -, -, -, ⟨-, f4⟩, -⟩ := W.1.f
  obtain ⟨e4, l40⟩ := (W.2.1 q vq).2.1.eq (by omega)
  obtain ⟨c, hc, ec, c0, cS, cV⟩ := c_findSlug_t S V W.1 hs
  obtain ⟨p, hp, ep, p0, pS, pV⟩ := c_findPart_t S V W.1 vq
  have A := pS.2.2.2.2.2.1
  have cz : gP h (gP h r 10) s ≠ 0 := by rw [← hc]; exact c0
  have nca : c ≠ gP h p 4 := by
    have := K.sp (s := s) (q := q) cz (by rw [← hp]; exact A.1)
    rwa [← hc, ← hp] at this
  have w9 : gI h p 9 = nI (Nn m (130 + 645 * q + 4)) := by rw [pV.2.2.2.2.2.2.2.1, if_pos es, e4]
  have F : Ft tg (pT x) h (lyH h c (gP h p 4) l q s) := by
    have ta : pT x (tg (gP h p 4)) := Or.inl ⟨q, by rw [hp]; exact K.q (by rw [← hp]; exact A.1)⟩
    have tc : pT x (tg c) := Or.inr ⟨s, by rw [hc]; exact K.o cz⟩
    exact (((Ft.sI c0 tc).trans (Ft.sI c0 tc)).trans (Ft.sI c0 tc)).trans (Ft.sI A.1 ta)
  have sz0 : ∀ s', s' < Nn m 4 → gP h (gP h r 10) s' ≠ 0 := fun s' h' => by
    obtain ⟨c', hc', ec', c0', -⟩ := c_findSlug_t S V W.1 h'
    rw [← hc']; exact c0'
  have pz0 : ∀ q', vP m q' → gP h (gP h (gP h r 5) q') 4 ≠ 0 := fun q' h' => by
    obtain ⟨p', hp', ep', p0', pS', -⟩ := c_findPart_t S V W.1 h'
    rw [← hp']; exact pS'.2.2.2.2.2.1.1
  have vb := vq.1
  refine ⟨lyH h c (gP h p 4) l q s, ?_, F, ?_, ?_⟩
  · unfold MX7_layAt
    rw [gg_t S.1, ec, ob_some, ep, ob_some, if_neg c0, if_neg p0, gg_t pS.1, c_hasLine_t pS.1 w9 (by omega) hl, ob_some, if_neg (by decide), gg_t cS.1]
    simp (disch := omega) only [↓lt_eq, A.2.1, A.2.2, gg_T, gg_rf, gg_in, nCl]
    exact Eq.refl _
  · refine RmS.lay K F S fun s' => ?_
    unfold lyH
    by_cases z : gP h (gP h r 10) s' = 0
    · have := A.1
      rw [z]
      simp (disch := omega) only [gI2, i0]
    · have := K.sp (s := s') (q := q) z (pz0 q vq)
      rw [← hp] at this
      simp (disch := omega) only [gI2, i0]
  · refine RmV.lay K F W V (ly_x vb (by omega) (by omega)) (fun q' hq' he l' hl' => ?_) (fun s' hs' => ?_)
    · have vb' := hq'.1
      have q0' := pz0 q' hq'
      have n1 := K.sp (s := s) (q := q') cz q0'
      rw [← hc] at n1
      have l4' := ((W.2.1 q' hq').2.1.eq (by omega)).2
      rw [ly_at]
      unfold lyH
      by_cases z : q' = q
      · subst z
        rw [← hp]
        by_cases z2 : l' = l
        · subst z2
          simp (disch := omega) only [gI2, i0, i1, and_self, if_true, nSub]
          exact congrArg nI (by omega)
        · simp (disch := omega) only [gI2, i0, i1, and_self, if_true]
          exact (pV.2.2.2.2.2.2.2.2 es l' hl').2
      · have n2 := K.pp (q := q) (q' := q') (by rw [← hp]; exact A.1) q0' z
        rw [← hp] at n2
        simp (disch := omega) only [gI2, i0, i1, and_self, if_true]
        exact ((V.2.2.2.2.2.2.2.1 q' hq').2.2.2.2.2.2.2.2.2 he l' hl').2
    · have z' := sz0 s' hs'
      have n1 := K.sp (s := s') (q := q) z' (pz0 q vq)
      rw [← hp] at n1
      unfold lyH
      obtain ⟨w5, w8, w9, w3, w10, w11, w12, -⟩ := (V.2.2.2.2.2.2.2.2.2.1 s' hs').2
      by_cases z : s' = s
      · subst z
        rw [← hc] at n1 ⊢
        refine ⟨fun j hj => ?_, ?_, ?_, ?_⟩
        · simp (disch := omega) only [gI2, i0, i1, and_self, if_true]
        · rw [ly_at]
          simp (disch := omega) only [gI2, i0, i1, and_self, if_true]
          exact hz.symm
        · rw [ly_at]
          simp (disch := omega) only [gI2, i0, i1, and_self, if_true]
        · rw [ly_at]
          simp (disch := omega) only [gI2, i0, i1, and_self, if_true]
      · have n2 := K.sl cz s' z' z
        rw [← hc] at n2
        refine ⟨fun j hj => ?_, ?_, ?_, ?_⟩
        · simp (disch := omega) only [gI2, i0, i1, and_self, if_true]
        · rw [ly_at]
          simp (disch := omega) only [gI2, i0, i1, and_self, if_true]
          exact w10
        · rw [ly_at]
          simp (disch := omega) only [gI2, i0, i1, and_self, if_true]
          exact w11
        · rw [ly_at]
          simp (disch := omega) only [gI2, i0, i1, and_self, if_true]
          exact w12
theorem ch_mi {a b q1 l1 q2 l2 : Nat} {M : Nat → Int32} (I : MI m) (ha : a < Nn m 4) (hb : b < Nn m 4) (z1 : m (64630 + 852 * a + 4) = nI 0) (z2 : m (64630 + 852 * b + 4) = nI 0) (v1 : vP m q1) (v2 : vP m q2) (es1 : m (130 + 645 * q1 + 3) = nI 1) (es2 : m (130 + 645 * q2 + 3) = nI 1) (hl1 : l1 < Nn m (130 + 645 * q1 + 4)) (hl2 : l2 < Nn m (130 + 645 * q2 + 4)) (x1 : l1 < 40) (x2 : l2 < 40) (e51 : m (64630 + 852 * a + 5) = nI l1) (e61 : m (64630 + 852 * a + 6) = nI q1) (e52 : m (64630 + 852 * b + 5) = nI l2) (e62 : m (64630 + 852 * b + 6) = nI q2) (em1 : m (130 + 645 * q1 + 45 + l1) = nI (a + 1)) (em2 : m (130 + 645 * q2 + 45 + l2) = nI (b + 1)) (hM : M = lyM (lyM m a q2 l2) b q1 l1) : MI M := by
  obtain ⟨-, -, -, -, ⟨-, f4⟩, -⟩ := I.1.f
  have vb1 := v1.1
  have vb2 := v2.1
  have same : a = b → q1 = q2 ∧ l1 = l2 := fun e => by
    subst e
    rw [e51, nEq (by omega) (by omega)] at e52
    rw [e61, nEq (by omega) (by omega)] at e62
    exact ⟨e62, e52⟩
  have pne : a ≠ b → ¬ (130 + 645 * q1 + 45 + l1 = 130 + 645 * q2 + 45 + l2) := fun hn e => by
    rw [e, em2, nEq (by omega) (by omega)] at em1
    omega
  have A : ∀ y, M y = if y = 130 + 645 * q1 + 45 + l1 then nI (b + 1) else if y = 64630 + 852 * b + 6 then nI q1 else if y = 64630 + 852 * b + 5 then nI l1 else if y = 130 + 645 * q2 + 45 + l2 then nI (a + 1) else if y = 64630 + 852 * a + 6 then nI q2 else if y = 64630 + 852 * a + 5 then nI l2 else m y := fun y => by rw [hM, ly_at, ly_at]
  refine I.lay (fun y hy => ?_) (fun q' hq' he l' hl' => ?_) (fun s' hs' => ?_)
  · unfold plX at hy
    simp (disch := omega) only [A, i0]
  · have vb' := hq'.1
    obtain ⟨-, l4'⟩ := (I.2.1 _ hq').2.2.2.2.2.1.eq (by omega)
    obtain ⟨d1, d2, -, d4⟩ := ((I.2.1 _ hq').2.2.2.2.2.2.2.2.2.2.2 he).2.2.2 l' hl'
    by_cases y1 : 130 + 645 * q' + 45 + l' = 130 + 645 * q1 + 45 + l1
    · have e : M (130 + 645 * q' + 45 + l') = nI (b + 1) := by rw [A, if_pos y1]
      have en : Nn M (130 + 645 * q' + 45 + l') = b + 1 := by unfold Nn; rw [e, nCl (by omega)]
      rw [en]
      refine ⟨⟨b + 1, by omega, e⟩, fun _ => ⟨by omega, ?_, ?_, ?_⟩⟩
      · rw [show b + 1 - 1 = b by omega]
        simp (disch := omega) only [A, i0]
        by_cases ab : a = b
        · exact z2
        · exact z2
      · rw [show b + 1 - 1 = b by omega, show l' = l1 by omega]
        simp (disch := omega) only [A, i0, if_true]
      · rw [show b + 1 - 1 = b by omega, show q' = q1 by omega]
        simp (disch := omega) only [A, i0, if_true]
    · by_cases y2 : 130 + 645 * q' + 45 + l' = 130 + 645 * q2 + 45 + l2
      · have ab : a ≠ b := fun e => by
          obtain ⟨r1, r2⟩ := same e
          omega
        have e : M (130 + 645 * q' + 45 + l') = nI (a + 1) := by rw [A, if_neg y1, if_neg (by omega), if_neg (by omega), if_pos y2]
        have en : Nn M (130 + 645 * q' + 45 + l') = a + 1 := by unfold Nn; rw [e, nCl (by omega)]
        rw [en]
        refine ⟨⟨a + 1, by omega, e⟩, fun _ => ⟨by omega, ?_, ?_, ?_⟩⟩
        · rw [show a + 1 - 1 = a by omega]
          simp (disch := omega) only [A, i0]
          exact z1
        · rw [show a + 1 - 1 = a by omega, show l' = l2 by omega]
          simp (disch := omega) only [A, i0, if_true]
        · rw [show a + 1 - 1 = a by omega, show q' = q2 by omega]
          simp (disch := omega) only [A, i0, if_true]
      · have e : M (130 + 645 * q' + 45 + l') = m (130 + 645 * q' + 45 + l') := by rw [A, if_neg y1, if_neg (by omega), if_neg (by omega), if_neg y2, if_neg (by omega), if_neg (by omega)]
        rw [e, Nn.c e]
        refine ⟨d2.c e, fun hn => ?_⟩
        obtain ⟨g1, g2, g3, g4⟩ := d4 hn
        obtain ⟨w, w1, w2⟩ : ∃ w, w = Nn m (130 + 645 * q' + 45 + l') - 1 ∧ w < 300 := ⟨_, Eq.refl _, by omega⟩
        rw [← w1] at g2 g3 g4 ⊢
        have ne1 : w ≠ a := fun e => by
          subst e
          rw [e51, nEq (by omega) (by omega)] at g3
          rw [e61, nEq (by omega) (by omega)] at g4
          omega
        have ne2 : w ≠ b := fun e => by
          subst e
          rw [e52, nEq (by omega) (by omega)] at g3
          rw [e62, nEq (by omega) (by omega)] at g4
          omega
        refine ⟨g1, ?_, ?_, ?_⟩
        · simp (disch := omega) only [A, i0]; exact g2
        · simp (disch := omega) only [A, i0]; exact g3
        · simp (disch := omega) only [A, i0]; exact g4
  · by_cases y2 : s' = b
    · subst y2
      have g4 : M (64630 + 852 * s' + 4) = nI 0 := by simp (disch := omega) only [A, i0]; exact z2
      have g5 : M (64630 + 852 * s' + 5) = nI l1 := by simp (disch := omega) only [A, i0, if_true]
      have g6 : M (64630 + 852 * s' + 6) = nI q1 := by simp (disch := omega) only [A, i0, if_true]
      have n5 : Nn M (64630 + 852 * s' + 5) = l1 := by unfold Nn; rw [g5, nCl (by omega)]
      have n6 : Nn M (64630 + 852 * s' + 6) = q1 := by unfold Nn; rw [g6, nCl (by omega)]
      unfold plS
      rw [n5, n6]
      refine ⟨⟨0, by omega, g4⟩, fun hn => absurd g4 hn, fun _ => ⟨⟨l1, by omega, g5⟩, ⟨q1, by omega, g6⟩, v1, es1, hl1, ?_⟩⟩
      rw [A, if_pos (Eq.refl _)]
    · by_cases y1 : s' = a
      · subst y1
        have P := pne y2
        have g4 : M (64630 + 852 * s' + 4) = nI 0 := by simp (disch := omega) only [A, i0]; exact z1
        have g5 : M (64630 + 852 * s' + 5) = nI l2 := by simp (disch := omega) only [A, i0, if_true]
        have g6 : M (64630 + 852 * s' + 6) = nI q2 := by simp (disch := omega) only [A, i0, if_true]
        have n5 : Nn M (64630 + 852 * s' + 5) = l2 := by unfold Nn; rw [g5, nCl (by omega)]
        have n6 : Nn M (64630 + 852 * s' + 6) = q2 := by unfold Nn; rw [g6, nCl (by omega)]
        unfold plS
        rw [n5, n6]
        refine ⟨⟨0, by omega, g4⟩, fun hn => absurd g4 hn, fun _ => ⟨⟨l2, by omega, g5⟩, ⟨q2, by omega, g6⟩, v2, es2, hl2, ?_⟩⟩
        rw [A, if_neg (fun e => P e.symm), if_neg (by omega), if_neg (by omega), if_pos (Eq.refl _)]
      · obtain ⟨a0, a1, a2, a3, a4, a5, a6, a7, a8, a9, a10, a11, a12, a13, a14, a15, a16⟩ := I.2.2.1 s' hs'
        have g4 : M (64630 + 852 * s' + 4) = m (64630 + 852 * s' + 4) := by simp (disch := omega) only [A, i0]
        have g5 : M (64630 + 852 * s' + 5) = m (64630 + 852 * s' + 5) := by simp (disch := omega) only [A, i0]
        have g6 : M (64630 + 852 * s' + 6) = m (64630 + 852 * s' + 6) := by simp (disch := omega) only [A, i0]
        unfold plS
        rw [g4, g5, g6, Nn.c g5, Nn.c g6]
        refine ⟨a8.c g4, a15, fun hn => ?_⟩
        obtain ⟨c1, c2, c3, c4, c5, c6⟩ := a16 hn
        have b3 := c3.1
        obtain ⟨-, l4'⟩ := (I.2.1 _ c3).2.2.2.2.2.1.eq (by omega)
        refine ⟨c1.c g5, c2.c g6, c3, c4, c5, ?_⟩
        rw [A, if_neg (fun e => ?_), if_neg (by omega), if_neg (by omega), if_neg (fun e => ?_), if_neg (by omega), if_neg (by omega)]
        · exact c6
        · rw [e, em2, nEq (by omega) (by omega)] at c6
          omega
        · rw [e, em1, nEq (by omega) (by omega)] at c6
          omega
theorem p_change (C : CSt tg h m k i t n f) (R : RSt h m k i t n f) (v u : Int32) : Pr (cm [1]) Gq h (MX11_change h 1 v u) (fun h' => MX12_change h' 73 v u) := by
  obtain ⟨O, X, X2, S, V, D, DV, I, T, Im, Tr⟩ := id C
  have K := C.rt
  obtain ⟨-, -, -, -, ⟨b1, b2⟩, -⟩ := I.1.f
  rcases ni_d v (Nn m 4) with hv | ⟨a, ha, rfl⟩
  · refine Pr.thr C R 1 1 rfl (by omega) (by omega) ?_ fun h' R' => ⟨nI 0, ?_⟩
    · have e6 : ∃ y, MX7_findSlug h 19 u = some y := by
        rcases ni_d u (Nn m 4) with hu | ⟨b, hb, rfl⟩
        · exact ⟨_, c_findSlug_f S V I.1 hu⟩
        · obtain ⟨c, -, ec, -⟩ := c_findSlug_t S V I.1 hb
          exact ⟨_, ec⟩
      obtain ⟨y, e6⟩ := e6
      unfold MX11_change
      rw [gg_t X.1, X5 X, gg_t S.1, c_findSlug_f S V I.1 hv, ob_some, e6, ob_some, if_pos rfl]
    · unfold MX12_change MX12_change_17
      simp (disch := omega) only [↓reduceIte, Nat.reduceLT, Nat.reduceLeDiff, Nat.reduceEqDiff, ZL, nAdd, nMul, nSub, nLt, nLe, nEq, nCl, nDiv, nRem2, nM1, nM2, nM3, nM4, nM5, nM6, gg_in, gg_rf, gg_T, if_true, if_false, ↓lt_eq, ob_some, b2_some, up1_some, kd_sI, ln_sI, gP_sI, gI_sI, kd_rI, ln_rI, gP_rI, gI_rI, kd_bmp, ln_bmp, gP_bmp, gI_bmp, up_at, i0, i1, RS.f R'.1, r_isSlug_f R'.1 R'.2.1 I.1 hv, MX12_change_22]
  · obtain ⟨c, hc, ec, c0, cS, cV⟩ := c_findSlug_t S V I.1 ha
    rcases ni_d u (Nn m 4) with hu | ⟨b, hb, rfl⟩
    · refine Pr.thr C R 1 1 rfl (by omega) (by omega) ?_ fun h' R' => ⟨nI 0, ?_⟩
      · unfold MX11_change
        rw [gg_t X.1, X5 X, gg_t S.1, ec, ob_some, c_findSlug_f S V I.1 hu, ob_some, if_neg c0, if_pos rfl]
      · unfold MX12_change MX12_change_17
        simp (disch := omega) only [↓reduceIte, Nat.reduceLT, Nat.reduceLeDiff, Nat.reduceEqDiff, ZL, nAdd, nMul, nSub, nLt, nLe, nEq, nCl, nDiv, nRem2, nM1, nM2, nM3, nM4, nM5, nM6, gg_in, gg_rf, gg_T, if_true, if_false, ↓lt_eq, ob_some, b2_some, up1_some, kd_sI, ln_sI, gP_sI, gI_sI, kd_rI, ln_rI, gP_rI, gI_rI, kd_bmp, ln_bmp, gP_bmp, gI_bmp, up_at, i0, i1, RS.f R'.1, r_isSlug_t R'.1 R'.2.1 I.1 ha, r_isSlug_f R'.1 R'.2.1 I.1 hu, MX12_change_22]
    · obtain ⟨d, hd, ed, d0, dS, dV⟩ := c_findSlug_t S V I.1 hb
      have w1 := cV.2.2.2.2.1
      have w2 := dV.2.2.2.2.1
      have zero : ∀ s, s < Nn m 4 → ¬ m (64630 + 852 * s + 4) = nI 0 → ∃ z, z ≠ 0 ∧ z ≤ 2 ∧ m (64630 + 852 * s + 4) = nI z := fun s hs hz => by
        obtain ⟨z, y1, y2⟩ := (I.2.2.1 s hs).2.2.2.2.2.2.2.2.1
        exact ⟨z, fun e => hz (by rw [y2, e]), y1, y2⟩
      by_cases z1 : m (64630 + 852 * a + 4) = nI 0
      · by_cases z2 : m (64630 + 852 * b + 4) = nI 0
        · obtain ⟨q1, l1, v1, es1, hl1, x1, e41, e51, e61, ea1, em1⟩ := ls_f I ha z1
          obtain ⟨q2, l2, v2, es2, hl2, x2, e42, e52, e62, ea2, em2⟩ := ls_f I hb z2
          have vb1 := v1.1
          have vb2 := v2.1
          obtain ⟨h1, k1, k2, k3, k4⟩ := c_ly (s := a) (q := q2) (l := l2) K S V I.wk ha z1 v2 es2 hl2
          have H1 : ∀ y, ¬ plX y → lyM m a q2 l2 y = m y := ly_x vb2 (by omega) (by omega)
          have W1 := I.wk.lay H1
          have n4 : Nn (lyM m a q2 l2) 4 = Nn m 4 := Nn.c (H1 4 (by unfold plX; omega))
          have n44 : Nn (lyM m a q2 l2) (130 + 645 * q1 + 4) = Nn m (130 + 645 * q1 + 4) := Nn.c (H1 _ (by unfold plX; omega))
          obtain ⟨h2, y1, y2, y3, y4⟩ := c_ly (s := b) (q := q1) (l := l1) (K.fr k2) k3 k4 W1 (by omega) (by
            rw [ly_at, if_neg (by omega), if_neg (by omega), if_neg (by omega)]
            exact z2) (v1.b (fun y hy => H1 y (by unfold plX; omega))) (by rw [H1 _ (by unfold plX; omega)]; exact es1) (by omega)
          have F := k2.trans y2
          refine Pr.room (h1 := h2) (m' := lyM (lyM m a q2 l2) b q1 l1) C R (nI 1) ?_ F (fun b hb => ⟨hb.1, hb.2.sf⟩) y3 y4 (ch_mi I ha hb z1 z2 v1 v2 es1 es2 hl1 hl2 (by omega) (by omega) e51 e61 e52 e62 em1 em2 (Eq.refl _)) (fun y hy => ?_) fun h' R' => ?_
          · have X1 : kd h1 1 = 10 := by rw [k2.ek]; exact X.1
            have X19 : gP h1 1 5 = 19 := by rw [k2.gp]; exact X5 X
            unfold MX11_change
            rw [gg_t X.1, X5 X, gg_t S.1, ec, ob_some, ed, ob_some, if_neg c0, if_neg d0, gg_t cS.1, w1, z1, if_pos (show nI 0 = 0 from rfl), gg_t dS.1, w2, z2, if_pos (show nI 0 = 0 from rfl), dV.2.2.2.2.2.1, dV.2.2.2.2.2.2.1, e52, e62, k1, ob_some, gg_t X1, X19, gg_t k3.1, cV.2.2.2.2.2.1, cV.2.2.2.2.2.2.1, e51, e61, y1, ob_some]
            exact Eq.refl _
          · unfold rgDk at hy
            rw [ly_x vb1 (by omega) (by omega) y (by unfold plX; omega), H1 y (by unfold plX; omega)]
          · refine ⟨sI (sI (sI (sI (sI (sI (sI h' 73 0 (nI 0)) 74 (64630 + 852 * a + 5) (nI l2)) 74 (64630 + 852 * a + 6) (nI q2)) 74 (130 + 645 * q2 + 45 + l2) (nI (a + 1))) 74 (64630 + 852 * b + 5) (nI l1)) 74 (64630 + 852 * b + 6) (nI q1)) 74 (130 + 645 * q1 + 45 + l1) (nI (b + 1)), ?_, (((((th_fr.trans fr74).trans fr74).trans fr74).trans fr74).trans fr74).trans fr74, ?_, ?_⟩
            · unfold MX12_change
              simp (disch := omega) only [↓reduceIte, Nat.reduceLT, Nat.reduceLeDiff, Nat.reduceEqDiff, ZL, nAdd, nMul, nSub, nLt, nLe, nEq, nCl, nDiv, nRem2, nM1, nM2, nM3, nM4, nM5, nM6, gg_in, gg_rf, gg_T, if_true, if_false, ↓lt_eq, ob_some, b2_some, up1_some, kd_sI, ln_sI, gP_sI, gI_sI, kd_rI, ln_rI, gP_rI, gI_rI, kd_bmp, ln_bmp, gP_bmp, gI_bmp, up_at, i0, i1, RS.f R'.1, R'.2.1, r_isSlug_t R'.1 R'.2.1 I.1 ha, r_isSlug_t R'.1 R'.2.1 I.1 hb, MX12_change_22, r_slug0, z1, z2, e51, e52, e61, e62, r_part0, MX12_puts]
            · exact ((((((R'.th (v := nI 0)).m1 (x := 64630 + 852 * a + 5) (v := nI l2)).m1 (x := 64630 + 852 * a + 6) (v := nI q2)).m1 (x := 130 + 645 * q2 + 45 + l2) (v := nI (a + 1))).m1 (x := 64630 + 852 * b + 5) (v := nI l1)).m1 (x := 64630 + 852 * b + 6) (v := nI q1)).m1 (x := 130 + 645 * q1 + 45 + l1) (v := nI (b + 1))
            · simp (disch := omega) only [↓reduceIte, Nat.reduceLT, Nat.reduceLeDiff, Nat.reduceEqDiff, ZL, nAdd, nMul, nSub, nLt, nLe, nEq, nCl, nDiv, nRem2, nM1, nM2, nM3, nM4, nM5, nM6, gg_in, gg_rf, gg_T, if_true, if_false, ↓lt_eq, ob_some, b2_some, up1_some, kd_sI, ln_sI, gP_sI, gI_sI, kd_rI, ln_rI, gP_rI, gI_rI, kd_bmp, ln_bmp, gP_bmp, gI_bmp, up_at, i0, i1]
        · obtain ⟨z, t1, t2, t3⟩ := zero b hb z2
          refine Pr.get C R (nI 0) ?_ fun h' R' => ?_
          · unfold MX11_change
            rw [gg_t X.1, X5 X, gg_t S.1, ec, ob_some, ed, ob_some, if_neg c0, if_neg d0, gg_t cS.1, w1, z1, if_pos (show nI 0 = 0 from rfl), gg_t dS.1, w2, if_neg (show ¬ m (64630 + 852 * b + 4) = 0 from z2)]
            exact Eq.refl _
          · unfold MX12_change
            simp (disch := omega) only [↓reduceIte, Nat.reduceLT, Nat.reduceLeDiff, Nat.reduceEqDiff, ZL, nAdd, nMul, nSub, nLt, nLe, nEq, nCl, nDiv, nRem2, nM1, nM2, nM3, nM4, nM5, nM6, gg_in, gg_rf, gg_T, if_true, if_false, ↓lt_eq, ob_some, b2_some, up1_some, kd_sI, ln_sI, gP_sI, gI_sI, kd_rI, ln_rI, gP_rI, gI_rI, kd_bmp, ln_bmp, gP_bmp, gI_bmp, up_at, i0, i1, RS.f R'.1, R'.2.1, r_isSlug_t R'.1 R'.2.1 I.1 ha, r_isSlug_t R'.1 R'.2.1 I.1 hb, MX12_change_22, r_slug0, z1, t3]
      · obtain ⟨z, t1, t2, t3⟩ := zero a ha z1
        refine Pr.get C R (nI 0) ?_ fun h' R' => ?_
        · unfold MX11_change
          rw [gg_t X.1, X5 X, gg_t S.1, ec, ob_some, ed, ob_some, if_neg c0, if_neg d0, gg_t cS.1, w1, if_neg (show ¬ m (64630 + 852 * a + 4) = 0 from z1)]
          exact Eq.refl _
        · unfold MX12_change
          simp (disch := omega) only [↓reduceIte, Nat.reduceLT, Nat.reduceLeDiff, Nat.reduceEqDiff, ZL, nAdd, nMul, nSub, nLt, nLe, nEq, nCl, nDiv, nRem2, nM1, nM2, nM3, nM4, nM5, nM6, gg_in, gg_rf, gg_T, if_true, if_false, ↓lt_eq, ob_some, b2_some, up1_some, kd_sI, ln_sI, gP_sI, gI_sI, kd_rI, ln_rI, gP_rI, gI_rI, kd_bmp, ln_bmp, gP_bmp, gI_bmp, up_at, i0, i1, RS.f R'.1, R'.2.1, r_isSlug_t R'.1 R'.2.1 I.1 ha, r_isSlug_t R'.1 R'.2.1 I.1 hb, MX12_change_22, r_slug0, t3]
end
