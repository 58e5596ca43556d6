/-! lies -/
section
variable {tg : Nat → List Nat} {h h' : Hp} {m k t : Nat → Int32} {i n f : Int32} {r : Nat}
theorem c_hasLine_f {p L : Nat} {v : Int32} (hk : kd h p = 4) (e : gI h p 9 = nI L) (hL : L < 1000) (hv : ∀ j, j < L → v ≠ nI j) : MX5_hasLine h p v = some (nI 0) := by
  unfold MX5_hasLine
  rcases ni_c (by omega) hv with z | ⟨z1, z2, z3⟩
  · simp (disch := omega) only [↓reduceIte, Nat.reduceLT, Nat.reduceLeDiff, Nat.reduceEqDiff, ZL, nAdd, nMul, nSub, nLt, nLe, nEq, nCl, nDiv, nRem2, nM1, nM2, nM3, nM4, nM5, nM6, gg_in, gg_rf, gg_T, if_true, if_false, ↓lt_eq, ob_some, b2_some, up1_some, kd_sI, ln_sI, gP_sI, gI_sI, kd_rI, ln_rI, gP_rI, gI_rI, kd_bmp, ln_bmp, gP_bmp, gI_bmp, up_at, i0, i1, z]
  · simp (disch := omega) only [↓reduceIte, Nat.reduceLT, Nat.reduceLeDiff, Nat.reduceEqDiff, ZL, nAdd, nMul, nSub, nLt, nLe, nEq, nCl, nDiv, nRem2, nM1, nM2, nM3, nM4, nM5, nM6, gg_in, gg_rf, gg_T, if_true, if_false, ↓lt_eq, ob_some, b2_some, up1_some, kd_sI, ln_sI, gP_sI, gI_sI, kd_rI, ln_rI, gP_rI, gI_rI, kd_bmp, ln_bmp, gP_bmp, gI_bmp, up_at, i0, i1, if_neg z1, hk, e, z2]
theorem c_hasLine_t {p L j : Nat} (hk : kd h p = 4) (e : gI h p 9 = nI L) (hL : L < 1000) (hj : j < L) : MX5_hasLine h p (nI j) = some (nI 1) := by
  unfold MX5_hasLine
  simp (disch := omega) only [↓reduceIte, Nat.reduceLT, Nat.reduceLeDiff, Nat.reduceEqDiff, ZL, nAdd, nMul, nSub, nLt, nLe, nEq, nCl, nDiv, nRem2, nM1, nM2, nM3, nM4, nM5, nM6, gg_in, gg_rf, gg_T, if_true, if_false, ↓lt_eq, ob_some, b2_some, up1_some, kd_sI, ln_sI, gP_sI, gI_sI, kd_rI, ln_rI, gP_rI, gI_rI, kd_bmp, ln_bmp, gP_bmp, gI_bmp, up_at, i0, i1, hk, e]
theorem p_lies (C : CSt tg h m k i t n f) (R : RSt h m k i t n f) (v w : Int32) : Pr (cm [1, 5]) Gq h (MX11_lies h 1 v w) (fun h' => MX12_lies h' 73 v w) := by
  obtain ⟨O, X, X2, S, V, D, DV, I, T, Im, Tr⟩ := id C
  rcases vP.d m v with hv | ⟨q, hq, rfl⟩
  · refine Pr.thr C R 1 1 rfl (by omega) (by omega) ?_ fun h' R' => ⟨nI 0, ?_⟩
    · unfold MX11_lies
      rw [gg_t X.1, X5 X, gg_t S.1, c_findPart_f S V I.1 hv, ob_some, if_pos rfl]
    · unfold MX12_lies
      rw [gg_t (RS.f R'.1).1, r_isPart_f R'.1 R'.2.1 I.1 hv, ob_some, if_pos (by decide)]
      simp (disch := omega) only [MX12_lies_19, ↓reduceIte, Nat.reduceLT, Nat.reduceLeDiff, Nat.reduceEqDiff, ZL, nAdd, nMul, nSub, nLt, nLe, nEq, nCl, nDiv, nRem2, nM1, nM2, nM3, nM4, nM5, nM6, gg_in, gg_rf, gg_T, if_true, if_false, ↓lt_eq, ob_some, b2_some, up1_some, kd_sI, ln_sI, gP_sI, gI_sI, kd_rI, ln_rI, gP_rI, gI_rI, kd_bmp, ln_bmp, gP_bmp, gI_bmp, up_at, i0, i1, RS.f R'.1]
  · obtain ⟨c, hc, ec, c0, cS, cV⟩ := c_findPart_t S V I.1 hq
    have hI := I.2.1 q hq
    have hq0 := hq.1
    obtain ⟨x3, hx3, e3⟩ := hI.2.2.2.2.1
    obtain ⟨e4, l4⟩ := hI.2.2.2.2.2.1.eq (by omega)
    obtain ⟨w5, w6, w7, w8, w10, w11, wb, w9, wl⟩ := cV
    rw [e3] at w11 w9 wl
    have rpre : ∀ h', RSt h' m k i t n f → MX12_lies h' 73 (nI q) w = Option.bind (MX12_noPlace h' 73 (nI q) w) fun t6 => MX12_lies_19 h' 73 (nI q) w 73 t6 := fun h' R' => by
      unfold MX12_lies
      rw [gg_t (RS.f R'.1).1, r_isPart_t R'.1 R'.2.1 I.1 hq, ob_some, if_neg (by decide)]
    rcases (show x3 = 0 ∨ x3 = 1 by omega) with rfl | rfl
    · refine Pr.thr C R 5 2 rfl (by omega) (by omega) ?_ fun h' R' => ⟨nI 0, ?_⟩
      · unfold MX11_lies
        rw [gg_t X.1, X5 X, gg_t S.1, ec, ob_some, if_neg c0, gg_t cS.1, w11, if_pos (by decide)]
      · rw [rpre h' R']
        have : MX12_noPlace h' 73 (nI q) w = some (nI 2) := by
          simp (disch := omega) only [MX12_noPlace, ↓reduceIte, Nat.reduceLT, Nat.reduceLeDiff, Nat.reduceEqDiff, ZL, nAdd, nMul, nSub, nLt, nLe, nEq, nCl, nDiv, nRem2, nM1, nM2, nM3, nM4, nM5, nM6, gg_in, gg_rf, gg_T, if_true, if_false, ↓lt_eq, ob_some, b2_some, up1_some, kd_sI, ln_sI, gP_sI, gI_sI, kd_rI, ln_rI, gP_rI, gI_rI, kd_bmp, ln_bmp, gP_bmp, gI_bmp, up_at, i0, i1, RS.f R'.1, R'.2.1, r_part0, e3]
        rw [this, ob_some]
        simp (disch := omega) only [MX12_lies_19, ↓reduceIte, Nat.reduceLT, Nat.reduceLeDiff, Nat.reduceEqDiff, ZL, nAdd, nMul, nSub, nLt, nLe, nEq, nCl, nDiv, nRem2, nM1, nM2, nM3, nM4, nM5, nM6, gg_in, gg_rf, gg_T, if_true, if_false, ↓lt_eq, ob_some, b2_some, up1_some, kd_sI, ln_sI, gP_sI, gI_sI, kd_rI, ln_rI, gP_rI, gI_rI, kd_bmp, ln_bmp, gP_bmp, gI_bmp, up_at, i0, i1, RS.f R'.1]
    · rw [if_pos rfl, e4] at w9
      rcases ni_d w (Nn m (130 + 645 * q + 4)) with hw | ⟨l, hl, rfl⟩
      · refine Pr.thr C R 1 1 rfl (by omega) (by omega) ?_ fun h' R' => ⟨nI 0, ?_⟩
        · unfold MX11_lies
          rw [gg_t X.1, X5 X, gg_t S.1, ec, ob_some, if_neg c0, gg_t cS.1, w11, if_neg (by decide), c_hasLine_f cS.1 w9 (by omega) hw, ob_some, if_pos (by decide)]
        · rw [rpre h' R']
          have : MX12_noPlace h' 73 (nI q) w = some (nI 1) := by
            simp (disch := omega) only [MX12_noPlace, ↓reduceIte, Nat.reduceLT, Nat.reduceLeDiff, Nat.reduceEqDiff, ZL, nAdd, nMul, nSub, nLt, nLe, nEq, nCl, nDiv, nRem2, nM1, nM2, nM3, nM4, nM5, nM6, gg_in, gg_rf, gg_T, if_true, if_false, ↓lt_eq, ob_some, b2_some, up1_some, kd_sI, ln_sI, gP_sI, gI_sI, kd_rI, ln_rI, gP_rI, gI_rI, kd_bmp, ln_bmp, gP_bmp, gI_bmp, up_at, i0, i1, RS.f R'.1, R'.2.1, r_part0, e3, e4, r_isIn_n (b := Nn m (130 + 645 * q + 4)) (by omega) hw]
          rw [this, ob_some]
          simp (disch := omega) only [MX12_lies_19, ↓reduceIte, Nat.reduceLT, Nat.reduceLeDiff, Nat.reduceEqDiff, ZL, nAdd, nMul, nSub, nLt, nLe, nEq, nCl, nDiv, nRem2, nM1, nM2, nM3, nM4, nM5, nM6, gg_in, gg_rf, gg_T, if_true, if_false, ↓lt_eq, ob_some, b2_some, up1_some, kd_sI, ln_sI, gP_sI, gI_sI, kd_rI, ln_rI, gP_rI, gI_rI, kd_bmp, ln_bmp, gP_bmp, gI_bmp, up_at, i0, i1, RS.f R'.1]
      · refine Pr.get C R (m (130 + 645 * q + 45 + l) - nI 1) ?_ fun h' R' => ?_
        · unfold MX11_lies
          rw [gg_t X.1, X5 X, gg_t S.1, ec, ob_some, if_neg c0, gg_t cS.1, w11, if_neg (by decide), c_hasLine_t cS.1 w9 (by omega) hl, ob_some, if_neg (by decide)]
          obtain ⟨-, a1, a2⟩ := cS.2.2.2.2.2.1
          rw [gg_t a1, a2, gg_in (by omega) (by omega), nCl (by omega), (wl rfl l hl).2]
        · rw [rpre h' R']
          have : MX12_noPlace h' 73 (nI q) (nI l) = some (nI 0) := by
            simp (disch := omega) only [MX12_noPlace, ↓reduceIte, Nat.reduceLT, Nat.reduceLeDiff, Nat.reduceEqDiff, ZL, nAdd, nMul, nSub, nLt, nLe, nEq, nCl, nDiv, nRem2, nM1, nM2, nM3, nM4, nM5, nM6, gg_in, gg_rf, gg_T, if_true, if_false, ↓lt_eq, ob_some, b2_some, up1_some, kd_sI, ln_sI, gP_sI, gI_sI, kd_rI, ln_rI, gP_rI, gI_rI, kd_bmp, ln_bmp, gP_bmp, gI_bmp, up_at, i0, i1, RS.f R'.1, R'.2.1, r_part0, e3, e4, r_isIn_t]
          rw [this, ob_some]
          simp (disch := omega) only [MX12_lies_19, ↓reduceIte, Nat.reduceLT, Nat.reduceLeDiff, Nat.reduceEqDiff, ZL, nAdd, nMul, nSub, nLt, nLe, nEq, nCl, nDiv, nRem2, nM1, nM2, nM3, nM4, nM5, nM6, gg_in, gg_rf, gg_T, if_true, if_false, ↓lt_eq, ob_some, b2_some, up1_some, kd_sI, ln_sI, gP_sI, gI_sI, kd_rI, ln_rI, gP_rI, gI_rI, kd_bmp, ln_bmp, gP_bmp, gI_bmp, up_at, i0, i1, RS.f R'.1, R'.2.1, r_part0]
end
