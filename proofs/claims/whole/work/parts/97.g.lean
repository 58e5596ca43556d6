/-! ends -/
section
variable {tg : Nat → List Nat} {h h1 h2 h' : Hp} {m k t : Nat → Int32} {i n f : Int32}
theorem p_ends (C : CSt tg h m k i t n f) (R : RSt h m k i t n f) (v w : Int32) : Pr (cm [1]) Gq h (MX11_ends h 1 v w) (fun h' => MX12_ends h' 73 v w) := by
  obtain ⟨O, X, X2, S, V, D, DV, I, T, Im, Tr⟩ := id C
  have K := C.rt
  rcases vP.d m v with hv | ⟨q, hq, rfl⟩
  · refine Pr.thr C R 1 1 rfl (by omega) (by omega) ?_ fun h' R' => ⟨nI 0, ?_⟩
    · unfold MX11_ends
      rw [gg_t X.1, X5 X, gg_t S.1, c_findPart_f S V I.1 hv, ob_some, if_pos rfl]
    · unfold MX12_ends
      rw [gg_t (RS.f R'.1).1, r_isPart_f R'.1 R'.2.1 I.1 hv, ob_some, if_pos (by decide)]
      simp (disch := omega) only [MX12_ends_14, ↓reduceIte, Nat.reduceLT, Nat.reduceLeDiff, Nat.reduceEqDiff, ZL, nAdd, nMul, nSub, nLt, nLe, nEq, nCl, nDiv, nRem2, nM1, nM2, nM3, nM4, nM5, nM6, gg_in, gg_rf, gg_T, if_true, if_false, ↓lt_eq, ob_some, b2_some, up1_some, kd_sI, ln_sI, gP_sI, gI_sI, kd_rI, ln_rI, gP_rI, gI_rI, kd_bmp, ln_bmp, gP_bmp, gI_bmp, up_at, i0, i1, RS.f R'.1]
  · obtain ⟨c, hc, ec, c0, cS, cV⟩ := c_findPart_t S V I.1 hq
    have J := I.2.1 q hq
    have hb := hq.1
    have P := ps_q (q := q) I.w (m 0)
    obtain ⟨-, j40, j1⟩ := J.n
    obtain ⟨e4, l4⟩ := J.2.2.2.2.2.1.eq (by omega)
    obtain ⟨s, hs, es⟩ := J.2.2.2.2.1
    have c11 := cV.2.2.2.2.2.1
    have c9 := cV.2.2.2.2.2.2.2.1
    have cl := cV.2.2.2.2.2.2.2.2
    rcases (show s = 0 ∨ s = 1 by omega) with rfl | rfl
    · -- not set: the best way now
      obtain ⟨h1, k1, k2, k3, k4⟩ := br_now C hq hc c0 cS cV
      obtain ⟨g, s1, s2, s3⟩ := c_solve P k3 k4 I.1 hq J (fr := 0) (by omega)
      obtain ⟨D0, hD0⟩ : ∃ D0, D0 = wyT m q (m 0) := ⟨_, rfl⟩
      have s1 : MX0_solve h1 (gP h 19 14) (nI 0) = some (enL (D0 0), g) := by rw [hD0]; exact s1
      have ks := sc_dw K S k2 s2
      have gL := k3.fr k4 s2
      have cpre : MX11_ends h 1 (nI q) w = if enL (D0 0) = -nI 1 then some (.inl (-nI 1), g) else Option.bind (MX0_endOfLine g (gP h 19 14) w) fun t18 => some (.inl t18, g) := by
        unfold MX11_ends
        rw [gg_t X.1, X5 X, gg_t S.1, ec, ob_some, if_neg c0, gg_t cS.1, c11, es, if_pos (show nI 0 = 0 from rfl), V.1, k1, b2_some, gg_t k3.1.1]
        simp only [ZL]
        rw [s1, b2_some, gg_t gL.1.1]
      have rpre : ∀ h', RSt h' m k i t n f → ∃ h2, Rk (sI h' 73 0 (nI 0)) h2 ∧ AW h2 D0 0 (nP m q) ∧ MX12_ends h' 73 (nI q) w = (if enBd (D0 0) = -nI 1 then some (-nI 1, h2) else Option.bind (MX12_isIn h2 w (nI 0) (gI h2 88 0 - nI 1)) fun t28 => if t28 = nI 0 then some (-nI 1, h2) else MX12_ends_121 h2 73 w (nI 0) (nI 0)) := fun h' R' => by
        have R0 := R'.th (v := nI 0)
        obtain ⟨h2, a1, a2, a3, a4⟩ := r_work R0.1 R0.2.1 I.w V.stm hq J (m 0)
        have R2 := a2.st R0
        rw [← hD0] at a4
        refine ⟨h2, a2, a4, ?_⟩
        have e0 : gI (sI h' 73 0 (nI 0)) 74 0 = m 0 := by rw [R0.2.1]
        have e3 : gI (sI h' 73 0 (nI 0)) 74 (130 + 645 * q + 3) = nI 0 := by rw [R0.2.1, es]
        unfold MX12_ends MX12_ends_14
        rw [gg_t (RS.f R'.1).1, r_isPart_t R'.1 R'.2.1 I.1 hq, ob_some, if_neg (by decide)]
        simp only [ZL]
        rw [gg_t (RS.f R'.1).1, lt_eq, gg_t (RS.f R'.1).1, th_get, if_pos (by decide), r_part0, ob_some]
        simp (disch := omega) only [RS.f R'.1, gg_rf, gg_T, gg_in, nAdd, nCl, e0, e3, n01, if_false, a1, ob_some, RS.f R2.1, (a4 0 (by omega) (by omega)).1]
      have same : ∀ val : Int32, MX11_ends h 1 (nI q) w = some (.inl val, g) → (∀ h', RSt h' m k i t n f → ∃ h2, Rk (sI h' 73 0 (nI 0)) h2 ∧ MX12_ends h' 73 (nI q) w = some (val, h2)) → Pr (cm [1]) Gq h (MX11_ends h 1 (nI q) w) (fun h' => MX12_ends h' 73 (nI q) w) := fun val e1 e2 => by
        refine Pr.sc C R val e1 ks fun h' R' => ?_
        obtain ⟨h2, a1, a2⟩ := e2 h' R'
        exact ⟨h2, a2, th_fr.trans a1.fr, a1.st R'.th, by rw [a1.2.1, th_get]⟩
      cases hv : D0 0 with
      | none =>
        rw [hv] at cpre
        refine same (-nI 1) (by rw [cpre, if_pos (show enL none = -nI 1 from rfl)]) fun h' R' => ?_
        obtain ⟨h2, a1, a2, a3⟩ := rpre h' R'
        exact ⟨h2, a1, by rw [a3, hv, if_pos (show enBd none = -nI 1 from rfl)]⟩
      | some y =>
        have hv' : wyD m q (pme m q (m 0)) (ple m q (m 0)) (pmo m q (m 0)) (pco m q (m 0)) 0 = some y := by rw [← hv, hD0]; rfl
        have yb := wyD_b P J (Nat.zero_le _) hv'
        rw [hv] at cpre
        rw [if_neg (by rw [show enL (some y) = nI y.2.1 from rfl, nM6 (by omega)]; exact id)] at cpre
        have rp2 : ∀ h', RSt h' m k i t n f → ∃ h2, Rk (sI h' 73 0 (nI 0)) h2 ∧ AW h2 D0 0 (nP m q) ∧ MX12_ends h' 73 (nI q) w = Option.bind (MX12_isIn h2 w (nI 0) (nI y.2.1 - nI 1)) fun t28 => if t28 = nI 0 then some (-nI 1, h2) else MX12_ends_121 h2 73 w (nI 0) (nI 0) := fun h' R' => by
          obtain ⟨h2, a1, a2, a3⟩ := rpre h' R'
          refine ⟨h2, a1, a2, ?_⟩
          rw [a3, hv, if_neg (by rw [show enBd (some y) = nI y.1 from rfl, nM6 (by omega)]; exact id), ((a2 0 (by omega) (by omega)).2 y hv).1]
        obtain ⟨q1, q2⟩ := c_endOfLine P gL J s3 hv' w
        rcases ni_d w y.2.1 with hw | ⟨j, hj, rfl⟩
        · refine same (-nI 1) (by rw [cpre, q1 hw, ob_some]) fun h' R' => ?_
          obtain ⟨h2, a1, a2, a3⟩ := rp2 h' R'
          exact ⟨h2, a1, by rw [a3, r_isIn_n (by omega) hw, ob_some, if_pos rfl]⟩
        · refine same (nI (chn D0 0 (j + 1) - 1)) (by rw [cpre, q2 j hj rfl, ob_some, hD0]; rfl) fun h' R' => ?_
          obtain ⟨h2, a1, a2, a3⟩ := rp2 h' R'
          refine ⟨h2, a1, ?_⟩
          have R2 := (a1.st (R'.th (v := nI 0))).1
          rw [a3, r_isIn_nt (by omega) hj, ob_some, if_neg (by decide)]
          unfold MX12_ends_121
          have go : ∀ j', j' ≤ j → ∃ y', D0 (chn D0 0 j') = some y' ∧ y'.2.2 = chn D0 0 (j' + 1) ∧ chn D0 0 j' < nP m q ∧ y'.2.2 ≤ nP m q ∧ chn D0 0 j' < y'.2.2 := fun j' hj' => by
            have := chn_s P J (Nat.zero_le _) hv' (k := j') (by omega)
            rw [show wyD m q (pme m q (m 0)) (ple m q (m 0)) (pmo m q (m 0)) (pco m q (m 0)) = D0 from hD0.symm] at this
            obtain ⟨y', b1, b2, b3, b4, b5, -⟩ := this
            exact ⟨y', b1, b2, b5, b4, b3⟩
          refine it_k (fun j' => (nI (chn D0 0 j'), nI j')) j rfl (fun j' hj' => ?_) ?_
          · show BX12_ends_121 h2 73 (nI j) (nI (chn D0 0 j')) (nI j') = _
            obtain ⟨y', b1, b2, b3, -⟩ := go j' (by omega)
            have e89 := ((a2 _ (by omega) (by omega)).2 y' b1).2 b3
            rw [← b2]
            simp (disch := omega) only [BX12_ends_121, ↓reduceIte, Nat.reduceLT, Nat.reduceLeDiff, Nat.reduceEqDiff, ZL, nAdd, nMul, nSub, nLt, nLe, nEq, nCl, nDiv, nRem2, nM1, nM2, nM3, nM4, nM5, nM6, gg_in, gg_rf, gg_T, if_true, if_false, ↓lt_eq, ob_some, b2_some, up1_some, kd_sI, ln_sI, gP_sI, gI_sI, kd_rI, ln_rI, gP_rI, gI_rI, kd_bmp, ln_bmp, gP_bmp, gI_bmp, up_at, i0, i1, RS.f R2, e89]
          · show BX12_ends_121 h2 73 (nI j) (nI (chn D0 0 j)) (nI j) = up1 (some (nI (chn D0 0 (j + 1) - 1), h2))
            obtain ⟨y', b1, b2, b3, b4, b5⟩ := go j (Nat.le_refl j)
            have e89 := ((a2 _ (by omega) (by omega)).2 y' b1).2 b3
            rw [← b2]
            unfold BX12_ends_121
            rw [if_pos (nI_le (Nat.le_refl j) (by omega))]
            refine congrArg up1 ?_
            simp (disch := omega) only [MX12_ends_142, ↓reduceIte, Nat.reduceLT, Nat.reduceLeDiff, Nat.reduceEqDiff, ZL, nAdd, nMul, nSub, nLt, nLe, nEq, nCl, nDiv, nRem2, nM1, nM2, nM3, nM4, nM5, nM6, gg_in, gg_rf, gg_T, if_true, if_false, ↓lt_eq, ob_some, b2_some, up1_some, kd_sI, ln_sI, gP_sI, gI_sI, kd_rI, ln_rI, gP_rI, gI_rI, kd_bmp, ln_bmp, gP_bmp, gI_bmp, up_at, i0, i1, RS.f R2, e89]
    · -- set: its lines
      have c9' : gI h c 9 = nI (Nn m (130 + 645 * q + 4)) := by rw [c9, if_pos es, e4]
      rcases ni_d w (Nn m (130 + 645 * q + 4)) with hw | ⟨j, hj, rfl⟩
      · refine Pr.get C R (-nI 1) ?_ fun h' R' => ?_
        · unfold MX11_ends
          rw [gg_t X.1, X5 X, gg_t S.1, ec, ob_some, if_neg c0, gg_t cS.1, c11, es, if_neg (by decide), c_hasLine_f cS.1 c9' (by omega) hw, ob_some, if_pos (show nI 0 = 0 from rfl)]
          rfl
        · unfold MX12_ends MX12_ends_14
          rw [gg_t (RS.f R'.1).1, r_isPart_t R'.1 R'.2.1 I.1 hq, ob_some, if_neg (by decide)]
          simp only [ZL]
          rw [gg_t (RS.f R'.1).1, lt_eq, gg_t (RS.f R'.1).1, th_get, if_pos (by decide), r_part0, ob_some]
          have R0 := R'.th (v := nI 0)
          have e3 : gI (sI h' 73 0 (nI 0)) 74 (130 + 645 * q + 3) = nI 1 := by rw [R0.2.1, es]
          have e44 : gI (sI h' 73 0 (nI 0)) 74 (130 + 645 * q + 4) = nI (Nn m (130 + 645 * q + 4)) := by rw [R0.2.1]; exact e4
          simp (disch := omega) only [RS.f R'.1, gg_rf, gg_T, gg_in, nAdd, nCl, e3, e44, if_true, r_isIn_n (h := sI h' 73 0 (nI 0)) (by omega) hw, ob_some]
      · obtain ⟨d1, d2⟩ := cl es j hj
        obtain ⟨-, k3a, l3a⟩ := cS.2.2.2.2.1
        refine Pr.get C R (m (130 + 645 * q + 5 + j)) ?_ fun h' R' => ?_
        · unfold MX11_ends
          rw [gg_t X.1, X5 X, gg_t S.1, ec, ob_some, if_neg c0, gg_t cS.1, c11, es, if_neg (by decide), c_hasLine_t cS.1 c9' (by omega) hj, ob_some, if_neg (by decide), gg_t k3a, l3a, gg_in (by omega) (by omega), nCl (by omega), d1]
        · unfold MX12_ends MX12_ends_14
          rw [gg_t (RS.f R'.1).1, r_isPart_t R'.1 R'.2.1 I.1 hq, ob_some, if_neg (by decide)]
          simp only [ZL]
          rw [gg_t (RS.f R'.1).1, lt_eq, gg_t (RS.f R'.1).1, th_get, if_pos (by decide), r_part0, ob_some]
          have R0 := R'.th (v := nI 0)
          have e3 : gI (sI h' 73 0 (nI 0)) 74 (130 + 645 * q + 3) = nI 1 := by rw [R0.2.1, es]
          have e44 : gI (sI h' 73 0 (nI 0)) 74 (130 + 645 * q + 4) = nI (Nn m (130 + 645 * q + 4)) := by rw [R0.2.1]; exact e4
          have e55 : gI (sI h' 73 0 (nI 0)) 74 (130 + 645 * q + 5 + j) = m (130 + 645 * q + 5 + j) := by rw [R0.2.1]
          simp (disch := omega) only [RS.f R'.1, gg_rf, gg_T, gg_in, nAdd, nCl, e3, e44, e55, if_true, r_isIn_nt (h := sI h' 73 0 (nI 0)) (by omega) hj, ob_some, n10, if_false]
end
