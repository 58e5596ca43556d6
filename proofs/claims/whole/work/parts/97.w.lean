/-! again -/
section
variable {tg : Nat → List Nat} {h h1 h' : Hp} {m k t : Nat → Int32} {i n f : Int32}
theorem p_again (C : CSt tg h m k i t n f) (R : RSt h m k i t n f) (v u z : Int32) : Pr (cm [1, 5, 3]) Gq h (MX11_again h 1 v u z) (fun h' => MX12_again h' 73 v u z) := by
  obtain ⟨O, X, X2, S, V, D, DV, I, T, Im, Tr⟩ := id C
  obtain ⟨-, -, -, ⟨f3, f3'⟩, -⟩ := I.1.f
  have E1 : ∀ h' c, RSt h' m k i t n f → 1 ≤ c → c ≤ 3 → MX12_again_27 h' 73 v u z 73 (nI c) = some (nI 0, sI h' 73 0 (nI c)) := fun h' c R' h1 h3 => by
    have nl : (nI c ≤ nI 0) = False := eq_false (nI_ge (by omega) (by omega))
    unfold MX12_again_27
    simp (disch := omega) only [ZL, RS.f R'.1, gg_rf, gg_T, ↓lt_eq, kd_sI, gI_sI, if_true, up_at, nl, if_false]
  rcases vP.d m v with hv | ⟨q, hq, rfl⟩
  · refine Pr.thr C R 1 1 rfl (by omega) (by omega) ?_ fun h' R' => ⟨nI 0, ?_⟩
    · have e6 : ∃ y, MX7_findMachine h 19 z = some y := by
        rcases ni_d z (Nn m 3) with hz | ⟨b, hb, rfl⟩
        · exact ⟨_, c_findMachine_f S V I.1 hz⟩
        · obtain ⟨c, -, ec, -⟩ := c_findMachine_t S V I.1 hb
          exact ⟨_, ec⟩
      obtain ⟨y, e6⟩ := e6
      unfold MX11_again
      rw [gg_t X.1, X5 X, gg_t S.1, c_findPart_f S V I.1 hv, ob_some, e6, ob_some, if_pos rfl]
    · rw [← E1 h' 1 R' (by omega) (by omega)]
      unfold MX12_again MX12_again_17
      rw [gg_t (RS.f R'.1).1, r_isPart_f R'.1 R'.2.1 I.1 hv, ob_some, if_pos (by decide)]
      exact Eq.refl _
  · obtain ⟨p, hp, ep, p0, pS, pV⟩ := c_findPart_t S V I.1 hq
    have hb := hq.1
    have J := I.2.1 q hq
    rcases ni_d z (Nn m 3) with hz | ⟨a, ha, rfl⟩
    · refine Pr.thr C R 1 1 rfl (by omega) (by omega) ?_ fun h' R' => ⟨nI 0, ?_⟩
      · unfold MX11_again
        rw [gg_t X.1, X5 X, gg_t S.1, ep, ob_some, c_findMachine_f S V I.1 hz, ob_some, if_neg p0, if_pos rfl]
      · rw [← E1 h' 1 R' (by omega) (by omega)]
        unfold MX12_again MX12_again_17
        rw [gg_t (RS.f R'.1).1, r_isPart_t R'.1 R'.2.1 I.1 hq, ob_some, if_neg (by decide), r_isMachine_f R'.1 R'.2.1 I.1 hz, ob_some, if_pos (by decide)]
        exact Eq.refl _
    · obtain ⟨c, hc, ec, c0, cS, cV⟩ := c_findMachine_t S V I.1 ha
      have rp : ∀ h', RSt h' m k i t n f → MX12_again h' 73 (nI q) u (nI a) = Option.bind (MX12_noPlace h' 73 (nI q) u) fun t6 => MX12_again_27 h' 73 (nI q) u (nI a) 73 t6 := fun h' R' => by
        unfold MX12_again
        rw [gg_t (RS.f R'.1).1, r_isPart_t R'.1 R'.2.1 I.1 hq, ob_some, if_neg (by decide), r_isMachine_t R'.1 R'.2.1 I.1 ha, ob_some, if_neg (by decide)]
      obtain ⟨s, hs, e3⟩ := J.2.2.2.2.1
      have w11 := pV.2.2.2.2.2.1
      rcases (show s = 0 ∨ s = 1 by omega) with rfl | rfl
      · refine Pr.thr C R 5 2 rfl (by omega) (by omega) ?_ fun h' R' => ⟨nI 0, ?_⟩
        · unfold MX11_again
          rw [gg_t X.1, X5 X, gg_t S.1, ep, ob_some, ec, ob_some, if_neg p0, if_neg c0, gg_t pS.1, w11, e3, if_pos (show nI 0 = 0 from rfl)]
        · have : MX12_noPlace h' 73 (nI q) u = some (nI 2) := by
            simp (disch := omega) only [MX12_noPlace, ↓reduceIte, Nat.reduceLT, Nat.reduceLeDiff, Nat.reduceEqDiff, ZL, nAdd, nMul, nSub, nLt, nLe, nEq, nCl, nDiv, nRem2, nM1, nM2, nM3, nM4, nM5, nM6, gg_in, gg_rf, gg_T, if_true, if_false, ↓lt_eq, ob_some, b2_some, up1_some, kd_sI, ln_sI, gP_sI, gI_sI, kd_rI, ln_rI, gP_rI, gI_rI, kd_bmp, ln_bmp, gP_bmp, gI_bmp, up_at, i0, i1, RS.f R'.1, R'.2.1, r_part0, e3]
          rw [rp h' R', this, ob_some]
          exact E1 h' 2 R' (by omega) (by omega)
      · obtain ⟨e4, l4⟩ := J.2.2.2.2.2.1.eq (by omega)
        have w9 : gI h p 9 = nI (Nn m (130 + 645 * q + 4)) := by rw [pV.2.2.2.2.2.2.2.1, if_pos e3, e4]
        rcases ni_d u (Nn m (130 + 645 * q + 4)) with hu | ⟨l, hl, rfl⟩
        · refine Pr.thr C R 1 1 rfl (by omega) (by omega) ?_ fun h' R' => ⟨nI 0, ?_⟩
          · unfold MX11_again
            rw [gg_t X.1, X5 X, gg_t S.1, ep, ob_some, ec, ob_some, if_neg p0, if_neg c0, gg_t pS.1, w11, e3, if_neg (by decide), c_hasLine_f pS.1 w9 (by omega) hu, ob_some, if_pos (by decide)]
          · have : MX12_noPlace h' 73 (nI q) u = some (nI 1) := by
              simp (disch := omega) only [MX12_noPlace, ↓reduceIte, Nat.reduceLT, Nat.reduceLeDiff, Nat.reduceEqDiff, ZL, nAdd, nMul, nSub, nLt, nLe, nEq, nCl, nDiv, nRem2, nM1, nM2, nM3, nM4, nM5, nM6, gg_in, gg_rf, gg_T, if_true, if_false, ↓lt_eq, ob_some, b2_some, up1_some, kd_sI, ln_sI, gP_sI, gI_sI, kd_rI, ln_rI, gP_rI, gI_rI, kd_bmp, ln_bmp, gP_bmp, gI_bmp, up_at, i0, i1, RS.f R'.1, R'.2.1, r_part0, e3, e4, r_isIn_n (b := Nn m (130 + 645 * q + 4)) (by omega) hu]
            rw [rp h' R', this, ob_some]
            exact E1 h' 1 R' (by omega) (by omega)
        · have rn : ∀ h', RSt h' m k i t n f → MX12_again h' 73 (nI q) (nI l) (nI a) = MX12_again_27 h' 73 (nI q) (nI l) (nI a) 73 (nI 0) := fun h' R' => by
            have : MX12_noPlace h' 73 (nI q) (nI l) = some (nI 0) := by
              simp (disch := omega) only [MX12_noPlace, ↓reduceIte, Nat.reduceLT, Nat.reduceLeDiff, Nat.reduceEqDiff, ZL, nAdd, nMul, nSub, nLt, nLe, nEq, nCl, nDiv, nRem2, nM1, nM2, nM3, nM4, nM5, nM6, gg_in, gg_rf, gg_T, if_true, if_false, ↓lt_eq, ob_some, b2_some, up1_some, kd_sI, ln_sI, gP_sI, gI_sI, kd_rI, ln_rI, gP_rI, gI_rI, kd_bmp, ln_bmp, gP_bmp, gI_bmp, up_at, i0, i1, RS.f R'.1, R'.2.1, r_part0, e3, e4, r_isIn_t]
            rw [rp h' R', this, ob_some]
          obtain ⟨e29, l29⟩ := (I.2.2.2.1 a ha).2.2.2.1.eq (by omega)
          obtain ⟨N, hN⟩ : ∃ N, N = Nn m (320230 + 183 * a + 29) := ⟨_, Eq.refl _⟩
          rw [← hN] at e29 l29
          have g3 : gI h c 3 = nI N := cV.2.2.2.1.trans e29
          have cpre : MX11_again h 1 (nI q) (nI l) (nI a) = if N < 30 then gg (kd h (gP h p 4) = 20) (gg (inB (nI l) (ln h (gP h p 4)) = true) (if (gI h (gP h p 4) (nI l).toNatClampNeg) = (-1) then Option.bind (MX4_addJob h c (nI q) (nI l) (nI l + 1) 0) fun (h20 : Hp) => gg (kd h20 c = 3) (some (.inl (gI h20 c 3), h20)) else some (.inl (-1), h))) else some (.inr 3, bmp h 1 6) := by
            unfold MX11_again
            rw [gg_t X.1, X5 X, gg_t S.1, ep, ob_some, ec, ob_some, if_neg p0, if_neg c0, gg_t pS.1, w11, e3, if_neg (by decide), c_hasLine_t pS.1 w9 (by omega) hl, ob_some, if_neg (by decide), gg_t cS.1, g3]
            simp (disch := omega) only [ZL, nLt]
          by_cases z30 : N < 30
          · rw [if_pos z30] at cpre
            obtain ⟨-, d2, -⟩ := (J.2.2.2.2.2.2.2.2.2.2.2 e3).2.2.2 l hl
            obtain ⟨y, hy, ey⟩ := d2
            have pl := (pV.2.2.2.2.2.2.2.2 e3 l hl).2
            rw [ey] at pl
            have A := pS.2.2.2.2.2.1
            rw [gg_t A.2.1, A.2.2, gg_in (by omega) (by omega), nCl (by omega), pl] at cpre
            by_cases y0 : y = 0
            · subst y0
              rw [if_pos (show nI 0 - nI 1 = -1 from by decide)] at cpre
              obtain ⟨c', hc', -, -, k3, -, h1, k1, k2, kF, kS, kV⟩ := ma_add (k := a) (n := N) (q := q) (a := l) (b := l + 1) (bv := nI (l + 1)) (fr := 0) (e := 0) C ha hN z30 hq (by omega) (by omega) (by rw [if_neg (by omega)])
              rw [← hc] at hc'
              subst hc'
              have IM : MI (jbM m a N q l (l + 1) 0 0) := jb_mi I ha hN z30 hq (by omega) (by omega) (by omega) (by omega) (fun _ => ⟨e3, by omega, by omega⟩) (fun e => by omega) (Eq.refl _)
              refine Pr.room (h1 := h1) (m' := jbM m a N q l (l + 1) 0 0) C R (nI (N + 1)) ?_ kF (fun b hb => ⟨hb.1, (List.suffix_append [a, 8] [5]).trans hb.2⟩) kS kV IM (fun j hj => jb_out (by unfold rgDk at hj; omega) (by unfold rgDk at hj; omega)) fun h' R' => ?_
              · rw [cpre]
                simp only [ZL]
                rw [nAdd, k1, ob_some, kF.1, gg_t cS.1, k2]
              · refine ⟨sI (sI (sI (sI (sI (sI (sI h' 73 0 (nI 0)) 74 (320230 + 183 * a + 33 + 5 * N) (nI q)) 74 (320230 + 183 * a + 33 + 5 * N + 1) (nI l)) 74 (320230 + 183 * a + 33 + 5 * N + 2) (nI (l + 1))) 74 (320230 + 183 * a + 33 + 5 * N + 3) (nI 0)) 74 (320230 + 183 * a + 33 + 5 * N + 4) (nI 0)) 74 (320230 + 183 * a + 29) (nI (N + 1)), ?_, (((((th_fr.trans fr74).trans fr74).trans fr74).trans fr74).trans fr74).trans fr74, ?_, ?_⟩
                · rw [rn h' R']
                  have nl : (nI 30 ≤ nI N) = False := eq_false (nI_ge z30 (by omega))
                  unfold MX12_again_27 MX12_again_61 MX12_again_74 MX12_queues MX12_machine0
                  simp (disch := omega) only [↓reduceIte, Nat.reduceLT, Nat.reduceLeDiff, Nat.reduceEqDiff, ZL, nAdd, nMul, nSub, nLt, nLe, nEq, nCl, nDiv, nRem2, nM1, nM2, nM3, nM4, nM5, nM6, gg_in, gg_rf, gg_T, if_true, if_false, ↓lt_eq, ob_some, b2_some, up1_some, kd_sI, ln_sI, gP_sI, gI_sI, kd_rI, ln_rI, gP_rI, gI_rI, kd_bmp, ln_bmp, gP_bmp, gI_bmp, up_at, i0, i1, RS.f R'.1, R'.2.1, r_part0, e29, nl, ey, sI_sI]
                · exact ((((((R'.th (v := nI 0)).m1 (x := 320230 + 183 * a + 33 + 5 * N) (v := nI q)).m1 (x := 320230 + 183 * a + 33 + 5 * N + 1) (v := nI l)).m1 (x := 320230 + 183 * a + 33 + 5 * N + 2) (v := nI (l + 1))).m1 (x := 320230 + 183 * a + 33 + 5 * N + 3) (v := nI 0)).m1 (x := 320230 + 183 * a + 33 + 5 * N + 4) (v := nI 0)).m1 (x := 320230 + 183 * a + 29) (v := nI (N + 1))
                · simp (disch := omega) only [↓reduceIte, Nat.reduceLT, Nat.reduceLeDiff, Nat.reduceEqDiff, ZL, nAdd, nMul, nSub, nLt, nLe, nEq, nCl, nDiv, nRem2, nM1, nM2, nM3, nM4, nM5, nM6, gg_in, gg_rf, gg_T, if_true, if_false, ↓lt_eq, ob_some, b2_some, up1_some, kd_sI, ln_sI, gP_sI, gI_sI, kd_rI, ln_rI, gP_rI, gI_rI, kd_bmp, ln_bmp, gP_bmp, gI_bmp, up_at, i0, i1]
            · rw [if_neg (show ¬ nI y - nI 1 = -1 from by rw [nSub (by omega), nI_eqm _ (by omega)]; exact id)] at cpre
              refine Pr.get C R (-nI 1) cpre fun h' R' => ?_
              rw [rn h' R']
              have nl : (nI 30 ≤ nI N) = False := eq_false (nI_ge z30 (by omega))
              have ny : (nI y ≤ nI 0) = False := eq_false (nI_ge (by omega) (by omega))
              unfold MX12_again_27 MX12_again_61 MX12_again_74 MX12_machine0
              simp (disch := omega) only [↓reduceIte, Nat.reduceLT, Nat.reduceLeDiff, Nat.reduceEqDiff, ZL, nAdd, nMul, nSub, nLt, nLe, nEq, nCl, nDiv, nRem2, nM1, nM2, nM3, nM4, nM5, nM6, gg_in, gg_rf, gg_T, if_true, if_false, ↓lt_eq, ob_some, b2_some, up1_some, kd_sI, ln_sI, gP_sI, gI_sI, kd_rI, ln_rI, gP_rI, gI_rI, kd_bmp, ln_bmp, gP_bmp, gI_bmp, up_at, i0, i1, RS.f R'.1, R'.2.1, r_part0, e29, nl, ny, ey, sI_sI]
          · rw [if_neg z30] at cpre
            refine Pr.thr C R 3 3 rfl (by omega) (by omega) cpre fun h' R' => ⟨nI 0, ?_⟩
            rw [rn h' R']
            have nl : (nI 30 ≤ nI N) = True := eq_true (nI_le (by omega) (by omega))
            unfold MX12_again_27 MX12_again_61 MX12_again_74 MX12_machine0
            simp (disch := omega) only [↓reduceIte, Nat.reduceLT, Nat.reduceLeDiff, Nat.reduceEqDiff, ZL, nAdd, nMul, nSub, nLt, nLe, nEq, nCl, nDiv, nRem2, nM1, nM2, nM3, nM4, nM5, nM6, gg_in, gg_rf, gg_T, if_true, if_false, ↓lt_eq, ob_some, b2_some, up1_some, kd_sI, ln_sI, gP_sI, gI_sI, kd_rI, ln_rI, gP_rI, gI_rI, kd_bmp, ln_bmp, gP_bmp, gI_bmp, up_at, i0, i1, RS.f R'.1, R'.2.1, r_part0, e29, nl, sI_sI]
end
