/-! a slug is taken away: pie -/
theorem pT.sf {x : Nat} {l : List Nat} (z : pT x l) : [x] <:+ l := by
  rcases z with ⟨q, rfl⟩ | ⟨s, rfl⟩
  · exact List.suffix_append [4, q, 5] [x]
  · exact List.suffix_append [s, 10] [x]
def tkH (h : Hp) (c a l : Nat) (v : Int32) : Hp := sI (sI (sI (sI h a l (-1)) c 10 v) c 12 (-1)) c 11 (-1)
def plA (m : Nat → Int32) (s : Nat) : Nat := 130 + 645 * Nn m (64630 + 852 * s + 6) + 45 + Nn m (64630 + 852 * s + 5)
def tkM (m : Nat → Int32) (s : Nat) (v : Int32) : Nat → Int32 := va_up (va_up (va_up (va_up m (plA m s) (nI 0)) (64630 + 852 * s + 4) v) (64630 + 852 * s + 5) (-1)) (64630 + 852 * s + 6) (-1)
section
variable {tg : Nat → List Nat} {h h1 h' : Hp} {m m' k t : Nat → Int32} {i n f : Int32} {r x s : Nat}
theorem gI2 {a i b j : Nat} {v : Int32} : gI (sI h a i v) b j = if b = a ∧ j = i then v else gI h b j := by
  rw [gI_sI]
  by_cases z : b = a
  · subst z
    rw [if_pos (Eq.refl _), up_at]
    by_cases z2 : j = i
    · rw [if_pos z2, if_pos ⟨Eq.refl _, z2⟩]
    · rw [if_neg z2, if_neg (fun e => z2 e.2)]
  · rw [if_neg z, if_neg (fun e => z e.1)]
/-- the room's slugs and the arrays of its parts -/
theorem Rt.sl {s : Nat} (K : Rt tg h r x) (hz : gP h (gP h r 10) s ≠ 0) : ∀ s', gP h (gP h r 10) s' ≠ 0 → s' ≠ s → gP h (gP h r 10) s' ≠ gP h (gP h r 10) s := fun s' h1 hn => ne_t (tg := tg) (by
  rw [K.o hz, K.o h1]
  exact fun e => hn (List.cons.inj e).1)
theorem Rt.sp {s q : Nat} (K : Rt tg h r x) (hz : gP h (gP h r 10) s ≠ 0) (hq : gP h (gP h (gP h r 5) q) 4 ≠ 0) : gP h (gP h r 10) s ≠ gP h (gP h (gP h r 5) q) 4 := ne_t (tg := tg) (by
  rw [K.o hz, K.q hq]
  exact fun e => by have := congrArg List.length e; simp at this)
theorem Rt.pp {q q' : Nat} (K : Rt tg h r x) (hz : gP h (gP h (gP h r 5) q) 4 ≠ 0) (hq : gP h (gP h (gP h r 5) q') 4 ≠ 0) (hn : q' ≠ q) : gP h (gP h (gP h r 5) q') 4 ≠ gP h (gP h (gP h r 5) q) 4 := ne_t (tg := tg) (by
  rw [K.q hz, K.q hq]
  exact fun e => hn (List.cons.inj (List.cons.inj e).2).1)
theorem tk_at {v : Int32} {y : Nat} : tkM m s v y = if y = 64630 + 852 * s + 6 then -1 else if y = 64630 + 852 * s + 5 then -1 else if y = 64630 + 852 * s + 4 then v else if y = plA m s then nI 0 else m y := by
  unfold tkM
  simp only [up_at]
/-- where a slug lies that lies somewhere -/
theorem ls_f (I : MI m) (hs : s < Nn m 4) (hz : m (64630 + 852 * s + 4) = nI 0) : ∃ q l, vP m q ∧ m (130 + 645 * q + 3) = nI 1 ∧ l < Nn m (130 + 645 * q + 4) ∧ Nn m (130 + 645 * q + 4) ≤ 40 ∧ m (130 + 645 * q + 4) = nI (Nn m (130 + 645 * q + 4)) ∧ m (64630 + 852 * s + 5) = nI l ∧ m (64630 + 852 * s + 6) = nI q ∧ plA m s = 130 + 645 * q + 45 + l ∧ m (130 + 645 * q + 45 + l) = nI (s + 1) := by
  obtain ⟨c1, c2, c3, c4, c5, c6⟩ := (I.2.2.1 s hs).2.2.2.2.2.2.2.2.2.2.2.2.2.2.2.2 hz
  obtain ⟨o4, l4⟩ := (I.2.1 _ c3).2.2.2.2.2.1.eq (by omega)
  exact ⟨Nn m (64630 + 852 * s + 6), Nn m (64630 + 852 * s + 5), c3, c4, c5, l4, o4, (c1.eq (by omega)).1, (c2.eq (by omega)).1, Eq.refl _, c6⟩
theorem tk_mi {v : Int32} (I : MI m) (hs : s < Nn m 4) (hz : m (64630 + 852 * s + 4) = nI 0) (hv : v = nI 1 ∨ v = nI 2) : MI (tkM m s v) := by
  obtain ⟨q, l, vq, es, hl, l40, e4, e5, e6, ea, em⟩ := ls_f I hs hz
  obtain ⟨-, -, -, -, ⟨-, f4⟩, -⟩ := I.1.f
  have vb := vq.1
  have nv : v ≠ nI 0 := by rcases hv with rfl | rfl <;> decide
  have A : ∀ y, tkM m s v y = if y = 64630 + 852 * s + 6 then -1 else if y = 64630 + 852 * s + 5 then -1 else if y = 64630 + 852 * s + 4 then v else if y = 130 + 645 * q + 45 + l then nI 0 else m y := fun y => by rw [tk_at, ea]
  refine I.lay (fun y hy => ?_) (fun q' hq' he l' hl' => ?_) (fun s' hs' => ?_)
  · unfold plX at hy
    rw [A, if_neg (by omega), if_neg (by omega), if_neg (by omega), if_neg (by omega)]
  · have vb' := hq'.1
    obtain ⟨-, l4'⟩ := (I.2.1 _ hq').2.2.2.2.2.1.eq (by omega)
    obtain ⟨d1, d2, -, d4⟩ := ((I.2.1 _ hq').2.2.2.2.2.2.2.2.2.2.2 he).2.2.2 l' hl'
    by_cases z : 130 + 645 * q' + 45 + l' = 130 + 645 * q + 45 + l
    · have e : tkM m s v (130 + 645 * q' + 45 + l') = nI 0 := by rw [A, if_neg (by omega), if_neg (by omega), if_neg (by omega), if_pos z]
      rw [e]
      exact ⟨⟨0, by omega, e⟩, fun hn => absurd (Eq.refl _) hn⟩
    · have e : tkM m s v (130 + 645 * q' + 45 + l') = m (130 + 645 * q' + 45 + l') := by rw [A, if_neg (by omega), if_neg (by omega), if_neg (by omega), if_neg z]
      rw [e, Nn.c e]
      refine ⟨d2.c e, fun hn => ?_⟩
      obtain ⟨g1, g2, g3, g4⟩ := d4 hn
      obtain ⟨w, w1, w2⟩ : ∃ w, w = Nn m (130 + 645 * q' + 45 + l') - 1 ∧ w < 300 := ⟨_, Eq.refl _, by omega⟩
      rw [← w1] at g2 g3 g4 ⊢
      have ne : w ≠ s := fun e => by
        subst e
        rw [e5, nEq (by omega) (by omega)] at g3
        rw [e6, nEq (by omega) (by omega)] at g4
        omega
      refine ⟨g1, ?_, ?_, ?_⟩
      · rw [A, if_neg (by omega), if_neg (by omega), if_neg (by omega), if_neg (by omega)]; exact g2
      · rw [A, if_neg (by omega), if_neg (by omega), if_neg (by omega), if_neg (by omega)]; exact g3
      · rw [A, if_neg (by omega), if_neg (by omega), if_neg (by omega), if_neg (by omega)]; exact g4
  · by_cases z : s' = s
    · subst z
      have e4 : tkM m s' v (64630 + 852 * s' + 4) = v := by rw [A, if_neg (by omega), if_neg (by omega), if_pos (Eq.refl _)]
      refine ⟨?_, fun _ => ⟨?_, ?_⟩, fun hn => absurd (e4.symm.trans hn) nv⟩
      · rcases hv with rfl | rfl
        · exact ⟨1, by omega, e4⟩
        · exact ⟨2, by omega, e4⟩
      · rw [A, if_neg (by omega), if_pos (Eq.refl _)]
      · rw [A, if_pos (Eq.refl _)]
    · obtain ⟨a0, a1, a2, a3, a4, a5, a6, a7, a8, a9, a10, a11, a12, a13, a14, a15, a16⟩ := I.2.2.1 s' hs'
      have g4 : tkM m s v (64630 + 852 * s' + 4) = m (64630 + 852 * s' + 4) := by rw [A, if_neg (by omega), if_neg (by omega), if_neg (by omega), if_neg (by omega)]
      have g5 : tkM m s v (64630 + 852 * s' + 5) = m (64630 + 852 * s' + 5) := by rw [A, if_neg (by omega), if_neg (by omega), if_neg (by omega), if_neg (by omega)]
      have g6 : tkM m s v (64630 + 852 * s' + 6) = m (64630 + 852 * s' + 6) := by rw [A, if_neg (by omega), if_neg (by omega), if_neg (by omega), if_neg (by omega)]
      unfold plS
      rw [g4, g5, g6, Nn.c g5, Nn.c g6]
      refine ⟨a8.c g4, a15, fun hn => ?_⟩
      obtain ⟨c1, c2, c3, c4, c5, c6⟩ := a16 hn
      have b3 := c3.1
      obtain ⟨-, l4'⟩ := (I.2.1 _ c3).2.2.2.2.2.1.eq (by omega)
      refine ⟨c1.c g5, c2.c g6, c3, c4, c5, ?_⟩
      rw [A, if_neg (by omega), if_neg (by omega), if_neg (by omega), if_neg (fun e => ?_)]
      · exact c6
      · rw [e, em, nEq (by omega) (by omega)] at c6
        omega
theorem c_tk {v : Int32} (K : Rt tg h r x) (S : RmS h r) (V : RmV h r m) (I : MI m) (hs : s < Nn m 4) (hz : m (64630 + 852 * s + 4) = nI 0) (hv : v = nI 1 ∨ v = nI 2) : ∃ h1, MX7_takeAway h r (gP h (gP h r 10) s) v = some h1 ∧ Ft tg (pT x) h h1 ∧ RmS h1 r ∧ RmV h1 r (tkM m s v) ∧ MI (tkM m s v) := by
  obtain ⟨q, l, vq, es, hl, l40, e4, e5, e6, ea, em⟩ := ls_f I hs hz
  obtain ⟨-, -, -, -, ⟨-, f4⟩, -⟩ := I.1.f
  obtain ⟨c, hc, ec, c0, cS, cV⟩ := c_findSlug_t S V I.1 hs
  obtain ⟨p, hp, ep, p0, pS, pV⟩ := c_findPart_t S V I.1 vq
  rw [← hc]
  have A := pS.2.2.2.2.2.1
  have cz : gP h (gP h r 10) s ≠ 0 := by rw [← hc]; exact c0
  have nca : c ≠ gP h p 4 := by
    have := K.sp (s := s) (q := q) cz (by rw [← hp]; exact A.1)
    rwa [← hc, ← hp] at this
  have w9 : gI h p 9 = nI (Nn m (130 + 645 * q + 4)) := by rw [pV.2.2.2.2.2.2.2.1, if_pos es, e4]
  have e11 := cV.2.2.2.2.2.1.trans e5
  have e12 := cV.2.2.2.2.2.2.1.trans e6
  have F : Ft tg (pT x) h (tkH h c (gP h p 4) l v) := by
    have ta : pT x (tg (gP h p 4)) := Or.inl ⟨q, by rw [hp]; exact K.q (by rw [← hp]; exact A.1)⟩
    have tc : pT x (tg c) := Or.inr ⟨s, by rw [hc]; exact K.o cz⟩
    exact (((Ft.sI A.1 ta).trans (Ft.sI c0 tc)).trans (Ft.sI c0 tc)).trans (Ft.sI c0 tc)
  have sz0 : ∀ s', s' < Nn m 4 → gP h (gP h r 10) s' ≠ 0 := fun s' h' => by
    obtain ⟨c', hc', ec', c0', -⟩ := c_findSlug_t S V I.1 h'
    rw [← hc']; exact c0'
  have pz0 : ∀ q', vP m q' → gP h (gP h (gP h r 5) q') 4 ≠ 0 := fun q' h' => by
    obtain ⟨p', hp', ep', p0', pS', -⟩ := c_findPart_t S V I.1 h'
    rw [← hp']; exact pS'.2.2.2.2.2.1.1
  have T : ∀ y, tkM m s v y = if y = 64630 + 852 * s + 6 then -1 else if y = 64630 + 852 * s + 5 then -1 else if y = 64630 + 852 * s + 4 then v else if y = 130 + 645 * q + 45 + l then nI 0 else m y := fun y => by rw [tk_at, ea]
  refine ⟨tkH h c (gP h p 4) l v, ?_, F, ?_, ?_, tk_mi I hs hz hv⟩
  · unfold MX7_takeAway
    rw [gg_t cS.1, gg_t S.1, e12, ep, ob_some, if_neg p0, gg_t pS.1, e11, c_hasLine_t pS.1 w9 (by omega) hl, ob_some, if_neg (by decide), gg_t A.2.1, A.2.2, gg_in (by omega) (by omega), nCl (by omega)]
    unfold MX7_takeAway_34
    simp only [kd_sI, ↓lt_eq, cS.1, gg_rf, gg_T]
    exact Eq.refl _
  · refine RmS.lay K F S fun s' => ?_
    unfold tkH
    by_cases z : gP h (gP h r 10) s' = 0
    · have := A.1
      rw [z]
      simp (disch := omega) only [gI2, i0]
    · have := K.sp (s := s') (q := q) z (pz0 q vq)
      rw [← hp] at this
      simp (disch := omega) only [gI2, i0]
  · refine RmV.lay K F I.wk V (fun y hy => ?_) (fun q' hq' he l' hl' => ?_) (fun s' hs' => ?_)
    · unfold plX at hy
      have vb := vq.1
      rw [T, if_neg (by omega), if_neg (by omega), if_neg (by omega), if_neg (by omega)]
    · have vb := vq.1
      have vb' := hq'.1
      have q0' := pz0 q' hq'
      have n1 := K.sp (s := s) (q := q') cz q0'
      rw [← hc] at n1
      obtain ⟨-, l4'⟩ := (I.2.1 _ hq').2.2.2.2.2.1.eq (by omega)
      rw [T, if_neg (by omega), if_neg (by omega), if_neg (by omega)]
      unfold tkH
      by_cases z : q' = q
      · subst z
        rw [← hp]
        by_cases z2 : l' = l
        · subst z2
          simp (disch := omega) only [gI2, i0, i1, and_self, if_true]
          decide
        · simp (disch := omega) only [gI2, i0, i1, and_self, if_true]
          exact (pV.2.2.2.2.2.2.2.2 es l' hl').2
      · have n2 := K.pp (q := q) (q' := q') (by rw [← hp]; exact A.1) q0' z
        rw [← hp] at n2
        simp (disch := omega) only [gI2, i0, i1, and_self, if_true]
        exact ((V.2.2.2.2.2.2.2.1 q' hq').2.2.2.2.2.2.2.2.2 he l' hl').2
    · have vb := vq.1
      have z' := sz0 s' hs'
      have n1 := K.sp (s := s') (q := q) z' (pz0 q vq)
      rw [← hp] at n1
      unfold tkH
      by_cases z : s' = s
      · subst z
        rw [← hc]
        refine ⟨fun j hj => ?_, ?_, ?_, ?_⟩
        · simp (disch := omega) only [gI2, i0, i1, and_self, if_true]
        · rw [T]
          simp (disch := omega) only [gI2, i0, i1, and_self, if_true]
        · rw [T]
          simp (disch := omega) only [gI2, i0, i1, and_self, if_true]
        · rw [T]
          simp (disch := omega) only [gI2, i0, i1, and_self, if_true]
      · have n2 := K.sl cz s' z' z
        rw [← hc] at n2
        obtain ⟨w5, w8, w9, w3, w10, w11, w12, -⟩ := (V.2.2.2.2.2.2.2.2.2.1 s' hs').2
        refine ⟨fun j hj => ?_, ?_, ?_, ?_⟩
        · simp (disch := omega) only [gI2, i0, i1, and_self, if_true]
        · rw [T]
          simp (disch := omega) only [gI2, i0, i1, and_self, if_true]
          exact w10
        · rw [T]
          simp (disch := omega) only [gI2, i0, i1, and_self, if_true]
          exact w11
        · rw [T]
          simp (disch := omega) only [gI2, i0, i1, and_self, if_true]
          exact w12
theorem p_pie (C : CSt tg h m k i t n f) (R : RSt h m k i t n f) (v : Int32) : Pr (cm [1]) Gq h (MX11_pie h 1 v) (fun h' => MX12_pie h' 73 v) := by
  obtain ⟨O, X, X2, S, V, D, DV, I, T, Im, Tr⟩ := id C
  have K := C.rt
  rcases ni_d v (Nn m 4) with hv | ⟨s, hs, rfl⟩
  · refine Pr.thr C R 1 1 rfl (by omega) (by omega) ?_ fun h' R' => ⟨nI 0, ?_⟩
    · unfold MX11_pie
      rw [gg_t X.1, X5 X, gg_t S.1, c_findSlug_f S V I.1 hv, ob_some, if_pos rfl]
    · unfold MX12_pie
      simp (disch := omega) only [↓reduceIte, Nat.reduceLT, Nat.reduceLeDiff, Nat.reduceEqDiff, ZL, nAdd, nMul, nSub, nLt, nLe, nEq, nCl, nDiv, nRem2, nM1, nM2, nM3, nM4, nM5, nM6, gg_in, gg_rf, gg_T, if_true, if_false, ↓lt_eq, ob_some, b2_some, up1_some, kd_sI, ln_sI, gP_sI, gI_sI, kd_rI, ln_rI, gP_rI, gI_rI, kd_bmp, ln_bmp, gP_bmp, gI_bmp, up_at, i0, i1, RS.f R'.1, r_isSlug_f R'.1 R'.2.1 I.1 hv, MX12_pie_14]
  · obtain ⟨-, -, -, -, ⟨b1, b2⟩, -⟩ := I.1.f
    obtain ⟨c, hc, ec, c0, cS, cV⟩ := c_findSlug_t S V I.1 hs
    have w10 := cV.2.2.2.2.1
    by_cases hz : m (64630 + 852 * s + 4) = nI 0
    · obtain ⟨h1, k1, k2, k3, k4, k5⟩ := c_tk (v := nI 1) K S V I hs hz (Or.inl rfl)
      obtain ⟨q, l, vq, es, hl, l40, e4, e5, e6, ea, em⟩ := ls_f I hs hz
      have vb := vq.1
      rw [← hc] at k1
      refine Pr.room (h1 := h1) (m' := tkM m s (nI 1)) C R (nI 1) ?_ k2 (fun b hb => ⟨hb.1, hb.2.sf⟩) k3 k4 k5 (fun y hy => ?_) fun h' R' => ?_
      · unfold MX11_pie
        rw [gg_t X.1, X5 X, gg_t S.1, ec, ob_some, if_neg c0, gg_t cS.1, w10, hz, if_pos (show nI 0 = 0 from rfl)]
        simp only [ZL]
        rw [k1, ob_some]
      · unfold rgDk at hy
        rw [tk_at, ea, if_neg (by omega), if_neg (by omega), if_neg (by omega), if_neg (by omega)]
      · refine ⟨sI (sI (sI (sI (sI h' 73 0 (nI 0)) 74 (130 + 645 * q + 45 + l) (nI 0)) 74 (64630 + 852 * s + 4) (nI 1)) 74 (64630 + 852 * s + 5) (-nI 1)) 74 (64630 + 852 * s + 6) (-nI 1), ?_, (((th_fr.trans fr74).trans fr74).trans fr74).trans fr74, ?_, ?_⟩
        · unfold MX12_pie
          simp (disch := omega) only [↓reduceIte, Nat.reduceLT, Nat.reduceLeDiff, Nat.reduceEqDiff, ZL, nAdd, nMul, nSub, nLt, nLe, nEq, nCl, nDiv, nRem2, nM1, nM2, nM3, nM4, nM5, nM6, gg_in, gg_rf, gg_T, if_true, if_false, ↓lt_eq, ob_some, b2_some, up1_some, kd_sI, ln_sI, gP_sI, gI_sI, kd_rI, ln_rI, gP_rI, gI_rI, kd_bmp, ln_bmp, gP_bmp, gI_bmp, up_at, i0, i1, RS.f R'.1, R'.2.1, r_isSlug_t R'.1 R'.2.1 I.1 hs, MX12_pie_14, r_slug0, hz, e5, e6, r_part0]
        · have := ((((R'.th (v := nI 0)).m1 (x := 130 + 645 * q + 45 + l) (v := nI 0)).m1 (x := 64630 + 852 * s + 4) (v := nI 1)).m1 (x := 64630 + 852 * s + 5) (v := -nI 1)).m1 (x := 64630 + 852 * s + 6) (v := -nI 1)
          unfold tkM
          rw [ea]
          exact this
        · simp (disch := omega) only [↓reduceIte, Nat.reduceLT, Nat.reduceLeDiff, Nat.reduceEqDiff, ZL, nAdd, nMul, nSub, nLt, nLe, nEq, nCl, nDiv, nRem2, nM1, nM2, nM3, nM4, nM5, nM6, gg_in, gg_rf, gg_T, if_true, if_false, ↓lt_eq, ob_some, b2_some, up1_some, kd_sI, ln_sI, gP_sI, gI_sI, kd_rI, ln_rI, gP_rI, gI_rI, kd_bmp, ln_bmp, gP_bmp, gI_bmp, up_at, i0, i1]
    · obtain ⟨z, z1, z2⟩ := (I.2.2.1 s hs).2.2.2.2.2.2.2.2.1
      have z0 : z ≠ 0 := fun e => by
        subst e
        exact hz z2
      refine Pr.get C R (nI 0) ?_ fun h' R' => ?_
      · unfold MX11_pie
        rw [gg_t X.1, X5 X, gg_t S.1, ec, ob_some, if_neg c0, gg_t cS.1, w10, if_neg (show ¬ m (64630 + 852 * s + 4) = 0 from hz)]
        exact Eq.refl _
      · unfold MX12_pie
        simp (disch := omega) only [↓reduceIte, Nat.reduceLT, Nat.reduceLeDiff, Nat.reduceEqDiff, ZL, nAdd, nMul, nSub, nLt, nLe, nEq, nCl, nDiv, nRem2, nM1, nM2, nM3, nM4, nM5, nM6, gg_in, gg_rf, gg_T, if_true, if_false, ↓lt_eq, ob_some, b2_some, up1_some, kd_sI, ln_sI, gP_sI, gI_sI, kd_rI, ln_rI, gP_rI, gI_rI, kd_bmp, ln_bmp, gP_bmp, gI_bmp, up_at, i0, i1, RS.f R'.1, R'.2.1, r_isSlug_t R'.1 R'.2.1 I.1 hs, MX12_pie_14, r_slug0, z2]
end
