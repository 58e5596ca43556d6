/-! give: a job on the reference's side; the pair -/
section
variable {h h1 h' : Hp} {m M kk t : Nat → Int32} {t' f w : Int32} {q a b fr e k n : Nat}
theorem kdQ {a j : Nat} {v : Int32} : kd (sI h a j v) = kd h := (Eq.refl (kd h)).trans (Eq.refl (kd h))
theorem lnQ {a j : Nat} {v : Int32} : ln (sI h a j v) = ln h := (Eq.refl (ln h)).trans (Eq.refl (ln h))
theorem gPQ {a j : Nat} {v : Int32} : gP (sI h a j v) = gP h := (Eq.refl (gP h)).trans (Eq.refl (gP h))
theorem R73 (g : gI h1 73 = gI h 73) : ∀ j, gI h1 73 j = gI h 73 j := fun j => by rw [g]
theorem n74 {x : Nat} {v : Int32} : gI (sI h 74 x v) 73 = gI h 73 := by rw [gI_sI, if_neg (by omega)]
theorem r_queues (R : RSt h m kk t' t w f) (hk : k < 4) (e29 : m (320230 + 183 * k + 29) = nI n) (n30 : n < 30) : ∃ h2, MX12_queues h 73 (nI k) (nI q) (nI a) (nI b) (nI fr) (nI e) = some (nI (n + 1), h2) ∧ Fr Rc h h2 ∧ RSt h2 (jbM m k n q a b fr e) kk t' t w f ∧ gI h2 73 = gI h 73 := by
  refine ⟨sI (sI (sI (sI (sI (sI h 74 (320230 + 183 * k + 33 + 5 * n) (nI q)) 74 (320230 + 183 * k + 33 + 5 * n + 1) (nI a)) 74 (320230 + 183 * k + 33 + 5 * n + 2) (nI b)) 74 (320230 + 183 * k + 33 + 5 * n + 3) (nI fr)) 74 (320230 + 183 * k + 33 + 5 * n + 4) (nI e)) 74 (320230 + 183 * k + 29) (nI (n + 1)), ?_, ((((fr74.trans fr74).trans fr74).trans fr74).trans fr74).trans fr74, ?_, ?_⟩
  · have em := R.2.1
    have e29' : gI h 74 (320230 + 183 * k + 29) = nI n := by rw [em]; exact e29
    unfold MX12_queues MX12_machine0
    simp (disch := omega) only [↓reduceIte, Nat.reduceLT, Nat.reduceLeDiff, Nat.reduceEqDiff, ZL, nAdd, nMul, nSub, nLt, nLe, nEq, nCl, nDiv, nRem2, nM1, nM2, nM3, nM4, nM5, nM6, gg_in, gg_rf, gg_T, if_true, if_false, ↓lt_eq, ob_some, b2_some, up1_some, kdQ, lnQ, gPQ, gI2, kd_bmp, ln_bmp, gP_bmp, gI_bmp, and_self, i0, i1, RS.f R.1, e29']
  · exact (((((R.m1 (x := 320230 + 183 * k + 33 + 5 * n) (v := nI q)).m1 (x := 320230 + 183 * k + 33 + 5 * n + 1) (v := nI a)).m1 (x := 320230 + 183 * k + 33 + 5 * n + 2) (v := nI b)).m1 (x := 320230 + 183 * k + 33 + 5 * n + 3) (v := nI fr)).m1 (x := 320230 + 183 * k + 33 + 5 * n + 4) (v := nI e)).m1 (x := 320230 + 183 * k + 29) (v := nI (n + 1))
  · rw [n74, n74, n74, n74, n74, n74]
theorem r_giveT (R : RSt h m kk t' t w f) (e0 : gI h 73 0 = nI 0) (q1 : q < 100) (hk : k < 4) (e29 : m (320230 + 183 * k + 29) = nI n) (n30 : n < 30) : ∃ h2, MX12_give_56 h 73 (nI q) (nI k) (nI (130 + 645 * q)) (nI 0) = some (nI (n + 1), h2) ∧ Fr Rc h h2 ∧ RSt h2 (jbM (va_up m (130 + 645 * q + 2) (nI 1)) k n q 0 0 0 1) kk t' t w f ∧ gI h2 73 0 = nI 0 := by
  have R1 : RSt (sI h 73 0 (nI 0)) m kk t' t w f := R.th
  obtain ⟨g, hg⟩ : ∃ g, g = sI h 73 0 (nI 0) := ⟨_, rfl⟩
  rw [← hg] at R1
  have R2 : RSt (sI g 74 (130 + 645 * q + 2) (nI 1)) (va_up m (130 + 645 * q + 2) (nI 1)) kk t' t w f := R1.m1
  obtain ⟨g2, hg2⟩ : ∃ g2, g2 = sI g 74 (130 + 645 * q + 2) (nI 1) := ⟨_, rfl⟩
  rw [← hg2] at R2
  have z29 : va_up m (130 + 645 * q + 2) (nI 1) (320230 + 183 * k + 29) = nI n := by
    rw [up_at, if_neg (by omega)]
    exact e29
  obtain ⟨h2, k1, k2, k3, k4⟩ := r_queues (q := q) (a := 0) (b := 0) (fr := 0) (e := 1) R2 hk z29 n30
  have eg : gI g 73 0 = nI 0 := by rw [hg, gI2, if_pos ⟨rfl, rfl⟩]
  refine ⟨h2, ?_, ?_, k3, ?_⟩
  · have em := R.2.1
    have e29' : gI h 74 (320230 + 183 * k + 29) = nI n := by rw [em]; exact e29
    have nl : (nI 30 ≤ nI n) = False := eq_false (nI_ge n30 (by omega))
    unfold MX12_give_56 MX12_machine0
    rw [gg_t (RS.f R.1).1, ob_some]
    simp (disch := omega) only [ZL, nAdd, nMul, nSub, nLt, nLe, nEq, nCl, nDiv, nRem2, RS.f R.1, gg_rf, gg_in, e29', nl, if_false]
    unfold MX12_give_80
    rw [if_neg (by decide)]
    unfold MX12_give_93
    simp only [ZL]
    rw [gg_t (RS.f R.1).1, lt_eq, gg_t (RS.f R.1).1, ← hg, eg, if_pos (by decide)]
    simp only [gg_T, if_true]
    have eP : gP h 73 1 = 74 := (RS.f R.1).2.1
    rw [eP, gg_t (RS.f R.1).2.2.1]
    simp (disch := omega) only [ZL, nAdd, nMul, nSub, nLt, nLe, nEq, nCl, nDiv, nRem2, RS.f R.1, gg_in, lt_eq]
    rw [← hg2, k1, b2_some]
  · have f1 : Fr Rc h g := by rw [hg]; exact th_fr
    have f2 : Fr Rc g g2 := by rw [hg2]; exact fr74
    exact (f1.trans f2).trans k2
  · rw [k4, hg2, n74, eg]
end
section
variable {tg : Nat → List Nat} {h h1 h' : Hp} {m k t : Nat → Int32} {i n f : Int32}
theorem p_give (C : CSt tg h m k i t n f) (R : RSt h m k i t n f) (v z : Int32) : Pr (cm [1, 3]) Gq h (MX11_give h 1 v z) (fun h' => MX12_give h' 73 v z) := by
  obtain ⟨O, X, X2, S, V, D, DV, I, T, Im, Tr⟩ := id C
  obtain ⟨-, -, -, ⟨f3, f3'⟩, -⟩ := I.1.f
  have E1 : ∀ h' c, RSt h' m k i t n f → 1 ≤ c → c ≤ 3 → MX12_give_22 h' 73 v z 73 (nI c) = some (nI 0, sI h' 73 0 (nI c)) := fun h' c R' h1 h3 => by
    have nl : (nI c ≤ nI 0) = False := eq_false (nI_ge (by omega) (by omega))
    unfold MX12_give_22
    simp (disch := omega) only [ZL, RS.f R'.1, gg_rf, gg_T, ↓lt_eq, kd_sI, gI_sI, if_true, up_at, nl, if_false]
  rcases vP.d m v with hv | ⟨q, hq, rfl⟩
  · refine Pr.thr C R 1 1 rfl (by omega) (by omega) ?_ fun h' R' => ⟨nI 0, ?_⟩
    · have e6 : ∃ y, MX7_findMachine h 19 z = some y := by
        rcases ni_d z (Nn m 3) with hz | ⟨b, hb, rfl⟩
        · exact ⟨_, c_findMachine_f S V I.1 hz⟩
        · obtain ⟨c, -, ec, -⟩ := c_findMachine_t S V I.1 hb
          exact ⟨_, ec⟩
      obtain ⟨y, e6⟩ := e6
      unfold MX11_give
      rw [gg_t X.1, X5 X, gg_t S.1, c_findPart_f S V I.1 hv, ob_some, e6, ob_some, if_pos rfl]
    · rw [← E1 h' 1 R' (by omega) (by omega)]
      unfold MX12_give MX12_give_17
      rw [gg_t (RS.f R'.1).1, r_isPart_f R'.1 R'.2.1 I.1 hv, ob_some, if_pos (by decide)]
      exact Eq.refl _
  · obtain ⟨p, hp, ep, p0, pS, pV⟩ := c_findPart_t S V I.1 hq
    have hb := hq.1
    have J := I.2.1 q hq
    rcases ni_d z (Nn m 3) with hz | ⟨a, ha, rfl⟩
    · refine Pr.thr C R 1 1 rfl (by omega) (by omega) ?_ fun h' R' => ⟨nI 0, ?_⟩
      · unfold MX11_give
        rw [gg_t X.1, X5 X, gg_t S.1, ep, ob_some, c_findMachine_f S V I.1 hz, ob_some, if_neg p0, if_pos rfl]
      · rw [← E1 h' 1 R' (by omega) (by omega)]
        unfold MX12_give MX12_give_17
        rw [gg_t (RS.f R'.1).1, r_isPart_t R'.1 R'.2.1 I.1 hq, ob_some, if_neg (by decide), r_isMachine_f R'.1 R'.2.1 I.1 hz, ob_some, if_pos (by decide)]
        exact Eq.refl _
    · obtain ⟨c, hc, ec, c0, cS, cV⟩ := c_findMachine_t S V I.1 ha
      obtain ⟨s, hs, es⟩ := J.2.2.2.1
      have rp : ∀ h', RSt h' m k i t n f → MX12_give h' 73 (nI q) (nI a) = MX12_give_56 (sI h' 73 0 (nI 0)) 73 (nI q) (nI a) (nI (130 + 645 * q)) (nI s) := fun h' R' => by
        unfold MX12_give MX12_give_22
        rw [gg_t (RS.f R'.1).1, r_isPart_t R'.1 R'.2.1 I.1 hq, ob_some, if_neg (by decide), r_isMachine_t R'.1 R'.2.1 I.1 ha, ob_some, if_neg (by decide)]
        rcases (show s = 0 ∨ s = 1 by omega) with rfl | rfl
        · simp (disch := omega) only [↓reduceIte, Nat.reduceLT, Nat.reduceLeDiff, Nat.reduceEqDiff, ZL, nAdd, nMul, nSub, nLt, nLe, nEq, nCl, nDiv, nRem2, nM1, nM2, nM3, nM4, nM5, nM6, gg_in, gg_rf, gg_T, if_true, if_false, ↓lt_eq, ob_some, b2_some, up1_some, kd_sI, ln_sI, gP_sI, gI_sI, kd_rI, ln_rI, gP_rI, gI_rI, kd_bmp, ln_bmp, gP_bmp, gI_bmp, up_at, i0, i1, RS.f R'.1, R'.2.1, r_part0, es]
        · simp (disch := omega) only [↓reduceIte, Nat.reduceLT, Nat.reduceLeDiff, Nat.reduceEqDiff, ZL, nAdd, nMul, nSub, nLt, nLe, nEq, nCl, nDiv, nRem2, nM1, nM2, nM3, nM4, nM5, nM6, gg_in, gg_rf, gg_T, if_true, if_false, ↓lt_eq, ob_some, b2_some, up1_some, kd_sI, ln_sI, gP_sI, gI_sI, kd_rI, ln_rI, gP_rI, gI_rI, kd_bmp, ln_bmp, gP_bmp, gI_bmp, up_at, i0, i1, RS.f R'.1, R'.2.1, r_part0, es]
      have w10 := pV.2.2.2.2.1
      obtain ⟨e29, l29⟩ := (I.2.2.2.1 a ha).2.2.2.1.eq (by omega)
      obtain ⟨N, hN⟩ : ∃ N, N = Nn m (320230 + 183 * a + 29) := ⟨_, Eq.refl _⟩
      rw [← hN] at e29 l29
      have g3 : gI h c 3 = nI N := cV.2.2.2.1.trans e29
      obtain ⟨hx, hhx⟩ : ∃ hx, hx = sI h p 10 (nI 1) := ⟨_, Eq.refl _⟩
      have cpre : MX11_give h 1 (nI q) (nI a) = if N < 30 then (if s = 0 then Option.bind (MX4_addJob hx c (nI q) (nI 0) (-1) (nI 0)) fun (h19 : Hp) => gg (kd h19 c = 3) (some (.inl (gI h19 c 3), h19)) else some (.inl (-1), h)) else some (.inr 3, bmp h 1 6) := by
        rw [hhx]
        unfold MX11_give
        rw [gg_t X.1, X5 X, gg_t S.1, ep, ob_some, ec, ob_some, if_neg p0, if_neg c0, gg_t cS.1, g3, gg_t pS.1, w10, es]
        simp (disch := omega) only [ZL, nLt, nEq, ↓lt_eq]
      by_cases z30 : N < 30
      · rw [if_pos z30] at cpre
        have nl : (nI 30 ≤ nI N) = False := eq_false (nI_ge z30 (by omega))
        by_cases s0 : s = 0
        · subst s0
          rw [if_pos (Eq.refl _)] at cpre
          obtain ⟨M, hM⟩ : ∃ M, M = va_up m (130 + 645 * q + 2) (nI 1) := ⟨_, Eq.refl _⟩
          have mo : ∀ y, y ≠ 130 + 645 * q + 2 → M y = m y := fun y hy => by rw [hM]; simp only [up_at, if_neg hy]
          have e1 : M (130 + 645 * q + 2) = nI 1 := by rw [hM, up_at, if_pos (Eq.refl _)]
          obtain ⟨F, Sg, Vg⟩ := ac_rm O X S V I hq hp p0 mo e1
          rw [← hhx] at F Sg Vg
          have Ig := ac_mi I hq es mo e1
          have Cg : CSt tg hx M k i t n f := C.room F (fun b hb => ⟨hb.1, (List.suffix_append [q, 5] [5]).trans hb.2⟩) Sg Vg Ig (fun x hx => mo x (by unfold rgDk at hx; omega))
          have vq : vP M q := hq.c (mo _ (by omega)) (fun _ => mo _ (by omega))
          have n3 : Nn M 3 = Nn m 3 := Nn.c (mo 3 (by omega))
          have z3 : M (130 + 645 * q + 3) = nI 0 := by
            rw [mo _ (by omega)]
            obtain ⟨y, hy, ey⟩ := J.2.2.2.2.1
            rcases (show y = 0 ∨ y = 1 by omega) with rfl | rfl
            · exact ey
            · have := (J.2.2.2.2.2.2.2.2.2.2.2 ey).1
              rw [es] at this
              exact absurd this (by decide)
          have hN' : N = Nn M (320230 + 183 * a + 29) := by rw [Nn.c (mo _ (by omega))]; exact hN
          obtain ⟨c', hc', -, -, k3, -, h1, k1, k2, kF, kS, kV⟩ := ma_add (k := a) (n := N) (q := q) (a := 0) (b := 0) (bv := -1) (fr := 0) (e := 1) Cg (by omega) hN' z30 vq (by omega) (by omega) (by rw [if_pos (Eq.refl _), z3, if_neg (by decide)])
          have hcc : c' = c := by rw [hc', hc, F.2.2.1]
          subst hcc
          have IM : MI (jbM M a N q 0 0 0 1) := jb_mi Ig (by omega) hN' z30 vq (by omega) (by omega) (by omega) (by omega) (fun e => by omega) (fun _ => ⟨e1, fun _ => Eq.refl _, fun e => by rw [z3] at e; exact absurd e (by decide), fun k' hk' j' hj' h4 h0 => by
            have b3' : k' < 4 := by omega
            have l30 := ((Ig.2.2.2.1 k' hk').2.2.2.1.eq (by omega)).2
            rw [Nn.c (mo _ (by omega))] at hj' l30
            have := jb_ne I es (c := k') (j := j') (by omega) hj'
            rw [mo _ (by omega)] at h0
            exact this (by unfold Nn; rw [h0, nCl (by omega)])⟩) (Eq.refl _)
          refine Pr.room (h1 := h1) (m' := jbM M a N q 0 0 0 1) (D := fun y => (y ≠ 0 ∧ [q, 5, 5] <:+ tg y) ∨ (y ≠ 0 ∧ [a, 8, 5] <:+ tg y)) C R (nI (N + 1)) ?_ ((F.mono (fun y hy => Or.inl hy)).trans (kF.mono (fun y hy => Or.inr hy))) (fun b hb => ?_) kS kV IM (fun j hj => (jb_out (by unfold rgDk at hj; omega) (by unfold rgDk at hj; omega)).trans (mo j (by unfold rgDk at hj; omega))) fun h' R' => ?_
          · have kc : kd h1 c' = 3 := by rw [kF.1, F.1]; exact cS.1
            rw [cpre, k1, ob_some, gg_t kc, k2]
          · rcases hb with hb | hb
            · exact ⟨hb.1, (List.suffix_append [q, 5] [5]).trans hb.2⟩
            · exact ⟨hb.1, (List.suffix_append [a, 8] [5]).trans hb.2⟩
          · obtain ⟨h2, u1, u2, u3, u4⟩ := r_giveT (q := q) (R'.th (v := nI 0)) th_get hb (by omega) e29 z30
            rw [rp h' R', u1, hM]
            exact ⟨h2, Eq.refl _, th_fr.trans u2, u3, u4⟩
        · have s1 : s = 1 := by omega
          subst s1
          rw [if_neg (by omega)] at cpre
          refine Pr.get C R (-nI 1) cpre fun h' R' => ?_
          rw [rp h' R']
          unfold MX12_give_56 MX12_give_80 MX12_give_93 MX12_machine0
          simp (disch := omega) only [↓reduceIte, Nat.reduceLT, Nat.reduceLeDiff, Nat.reduceEqDiff, ZL, nAdd, nMul, nSub, nLt, nLe, nEq, nCl, nDiv, nRem2, nM1, nM2, nM3, nM4, nM5, nM6, gg_in, gg_rf, gg_T, if_true, if_false, ↓lt_eq, ob_some, b2_some, up1_some, kd_sI, ln_sI, gP_sI, gI_sI, kd_rI, ln_rI, gP_rI, gI_rI, kd_bmp, ln_bmp, gP_bmp, gI_bmp, up_at, i0, i1, RS.f R'.1, R'.2.1, e29, nl, sI_sI]
      · rw [if_neg z30] at cpre
        refine Pr.thr C R 3 2 rfl (by omega) (by omega) cpre fun h' R' => ⟨nI 0, ?_⟩
        rw [rp h' R']
        have nl : (nI 30 ≤ nI N) = True := eq_true (nI_le (by omega) (by omega))
        unfold MX12_give_56 MX12_give_80 MX12_give_93 MX12_machine0
        simp (disch := omega) only [↓reduceIte, Nat.reduceLT, Nat.reduceLeDiff, Nat.reduceEqDiff, ZL, nAdd, nMul, nSub, nLt, nLe, nEq, nCl, nDiv, nRem2, nM1, nM2, nM3, nM4, nM5, nM6, gg_in, gg_rf, gg_T, if_true, if_false, ↓lt_eq, ob_some, b2_some, up1_some, kd_sI, ln_sI, gP_sI, gI_sI, kd_rI, ln_rI, gP_rI, gI_rI, kd_bmp, ln_bmp, gP_bmp, gI_bmp, up_at, i0, i1, RS.f R'.1, R'.2.1, e29, nl, sI_sI]
end
