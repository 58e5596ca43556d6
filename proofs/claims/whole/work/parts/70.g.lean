section
variable {tg : Nat → List Nat} {h h' : Hp} {m m' k t : Nat → Int32} {i n f : Int32}
theorem p_row (C : CSt tg h m k i t n f) (R : RSt h m k i t n f) (v w : Int32) : Pr (cm [4]) Gq h (MX11_row h 1 v w) (fun h' => MX12_row h' 73 v w) := by
  obtain ⟨O, X, X2, S, V, D, DV, I, T, Im, Tr⟩ := id C
  obtain ⟨⟨b0, b0'⟩, -, -, -, -, -, -, ⟨b7, b7'⟩⟩ := I.1.f
  have mn : jmin (nI 8) (nI (Nn m 0)) = nI (Nn m 7) := by
    rw [b7']
    unfold jmin
    by_cases z : Nn m 0 < 8
    · rw [if_pos (nI_lt z (by omega)), Nat.min_eq_right (by omega)]
    · rw [if_neg (nI_nlt (by omega) (by omega)), Nat.min_eq_left (by omega)]
  obtain ⟨-, a1, a2⟩ := S.2.2.2.2.2.2.2.1
  have bad : ∀ h', RSt h' m k i t n f → ((∀ j, j < Nn m 7 → v ≠ nI j) ∨ ∀ j, j < 4 → w ≠ nI j) → MX12_isRow h' 73 v w = some (nI 0) := fun h' R' hb => by
    unfold MX12_isRow
    rcases ni_d v (Nn m 7) with hv | ⟨j, hj, rfl⟩
    · simp (disch := omega) only [↓reduceIte, Nat.reduceLT, Nat.reduceLeDiff, Nat.reduceEqDiff, ZL, nAdd, nMul, nSub, nLt, nLe, nEq, nCl, nDiv, nRem2, nM1, nM2, nM3, nM4, nM5, nM6, gg_in, gg_rf, gg_T, if_true, if_false, ↓lt_eq, ob_some, b2_some, up1_some, kd_sI, ln_sI, gP_sI, gI_sI, kd_rI, ln_rI, gP_rI, gI_rI, kd_bmp, ln_bmp, gP_bmp, gI_bmp, up_at, i0, i1, RS.f R'.1, R'.2.1, b7, r_isIn_n (b := Nn m 7) (by omega) hv]
    · have hw : ∀ j, j < 3 + 1 → w ≠ nI j := by
        rcases hb with hb | hb
        · exact absurd rfl (hb j hj)
        · exact hb
      simp (disch := omega) only [↓reduceIte, Nat.reduceLT, Nat.reduceLeDiff, Nat.reduceEqDiff, ZL, nAdd, nMul, nSub, nLt, nLe, nEq, nCl, nDiv, nRem2, nM1, nM2, nM3, nM4, nM5, nM6, gg_in, gg_rf, gg_T, if_true, if_false, ↓lt_eq, ob_some, b2_some, up1_some, kd_sI, ln_sI, gP_sI, gI_sI, kd_rI, ln_rI, gP_rI, gI_rI, kd_bmp, ln_bmp, gP_bmp, gI_bmp, up_at, i0, i1, RS.f R'.1, R'.2.1, b7, r_isIn_t, r_isIn_f (b := 3) (by omega) hw]
  have rbad : ∀ h', RSt h' m k i t n f → ((∀ j, j < Nn m 7 → v ≠ nI j) ∨ ∀ j, j < 4 → w ≠ nI j) → MX12_row h' 73 v w = some (nI 0, sI h' 73 0 (nI 1)) := fun h' R' hb => by
    unfold MX12_row
    rw [gg_t (RS.f R'.1).1, bad h' R' hb, ob_some, if_pos (by decide)]
    simp (disch := omega) only [MX12_row_15, ↓reduceIte, Nat.reduceLT, Nat.reduceLeDiff, Nat.reduceEqDiff, ZL, nAdd, nMul, nSub, nLt, nLe, nEq, nCl, nDiv, nRem2, nM1, nM2, nM3, nM4, nM5, nM6, gg_in, gg_rf, gg_T, if_true, if_false, ↓lt_eq, ob_some, b2_some, up1_some, kd_sI, ln_sI, gP_sI, gI_sI, kd_rI, ln_rI, gP_rI, gI_rI, kd_bmp, ln_bmp, gP_bmp, gI_bmp, up_at, i0, i1, RS.f R'.1]
  rcases ni_d v (Nn m 7) with hv | ⟨j, hj, rfl⟩
  · refine Pr.thr C R 4 1 rfl (by omega) (by omega) ?_ fun h' R' => ⟨nI 0, rbad h' R' (Or.inl hv)⟩
    have : MX7_rowPlace h 19 v = fun w => some (-nI 1) := by
      funext w
      unfold MX7_rowPlace MX7_rowCount
      rcases ni_c (by omega) hv with z | ⟨z1, z2, z3⟩
      · simp (disch := omega) only [↓reduceIte, Nat.reduceLT, Nat.reduceLeDiff, Nat.reduceEqDiff, ZL, nAdd, nMul, nSub, nLt, nLe, nEq, nCl, nDiv, nRem2, nM1, nM2, nM3, nM4, nM5, nM6, gg_in, gg_rf, gg_T, if_true, if_false, ↓lt_eq, ob_some, b2_some, up1_some, kd_sI, ln_sI, gP_sI, gI_sI, kd_rI, ln_rI, gP_rI, gI_rI, kd_bmp, ln_bmp, gP_bmp, gI_bmp, up_at, i0, i1, z]
      · simp (disch := omega) only [↓reduceIte, Nat.reduceLT, Nat.reduceLeDiff, Nat.reduceEqDiff, ZL, nAdd, nMul, nSub, nLt, nLe, nEq, nCl, nDiv, nRem2, nM1, nM2, nM3, nM4, nM5, nM6, gg_in, gg_rf, gg_T, if_true, if_false, ↓lt_eq, ob_some, b2_some, up1_some, kd_sI, ln_sI, gP_sI, gI_sI, kd_rI, ln_rI, gP_rI, gI_rI, kd_bmp, ln_bmp, gP_bmp, gI_bmp, up_at, i0, i1, if_neg z1, S.1, V.1, b0, mn, z2]
    unfold MX11_row
    rw [gg_t X.1, X5 X, gg_t S.1, this, ob_some, if_pos (by decide)]
  · rcases ni_d w 4 with hw | ⟨l, hl, rfl⟩
    · refine Pr.thr C R 4 1 rfl (by omega) (by omega) ?_ fun h' R' => ⟨nI 0, rbad h' R' (Or.inr hw)⟩
      have : MX7_rowPlace h 19 (nI j) w = some (-nI 1) := by
        unfold MX7_rowPlace MX7_rowCount
        rcases ni_c (by omega) hw with z | ⟨z1, z2, z3⟩
        · simp (disch := omega) only [↓reduceIte, Nat.reduceLT, Nat.reduceLeDiff, Nat.reduceEqDiff, ZL, nAdd, nMul, nSub, nLt, nLe, nEq, nCl, nDiv, nRem2, nM1, nM2, nM3, nM4, nM5, nM6, gg_in, gg_rf, gg_T, if_true, if_false, ↓lt_eq, ob_some, b2_some, up1_some, kd_sI, ln_sI, gP_sI, gI_sI, kd_rI, ln_rI, gP_rI, gI_rI, kd_bmp, ln_bmp, gP_bmp, gI_bmp, up_at, i0, i1, z, S.1, V.1, b0, mn]
        · simp (disch := omega) only [↓reduceIte, Nat.reduceLT, Nat.reduceLeDiff, Nat.reduceEqDiff, ZL, nAdd, nMul, nSub, nLt, nLe, nEq, nCl, nDiv, nRem2, nM1, nM2, nM3, nM4, nM5, nM6, gg_in, gg_rf, gg_T, if_true, if_false, ↓lt_eq, ob_some, b2_some, up1_some, kd_sI, ln_sI, gP_sI, gI_sI, kd_rI, ln_rI, gP_rI, gI_rI, kd_bmp, ln_bmp, gP_bmp, gI_bmp, up_at, i0, i1, if_neg z1, S.1, V.1, b0, mn, if_neg z3]
      unfold MX11_row
      rw [gg_t X.1, X5 X, gg_t S.1, this, ob_some, if_pos (by decide)]
    · refine Pr.get C R (m (337180 + 5 * j + 1 + l)) ?_ fun h' R' => ?_
      · have : MX7_rowPlace h 19 (nI j) (nI l) = some (nI ((Nn m 0 - Nn m 7 + j) % 8 * 4 + l)) := by
          unfold MX7_rowPlace MX7_rowCount
          simp (disch := omega) only [↓reduceIte, Nat.reduceLT, Nat.reduceLeDiff, Nat.reduceEqDiff, ZL, nAdd, nMul, nSub, nLt, nLe, nEq, nCl, nDiv, nRem2, nM1, nM2, nM3, nM4, nM5, nM6, gg_in, gg_rf, gg_T, if_true, if_false, ↓lt_eq, ob_some, b2_some, up1_some, kd_sI, ln_sI, gP_sI, gI_sI, kd_rI, ln_rI, gP_rI, gI_rI, kd_bmp, ln_bmp, gP_bmp, gI_bmp, up_at, i0, i1, S.1, V.1, b0, mn]
          rw [show Nn m 0 - Nn m 7 + j - (Nn m 0 - Nn m 7 + j) / 8 * 8 = (Nn m 0 - Nn m 7 + j) % 8 by omega]
        unfold MX11_row
        rw [gg_t X.1, X5 X, gg_t S.1, this, ob_some]
        have vv := (V.2.2.2.2.2.2.2.2.2.2.2 j hj l hl).1
        simp (disch := omega) only [↓reduceIte, Nat.reduceLT, Nat.reduceLeDiff, Nat.reduceEqDiff, ZL, nAdd, nMul, nSub, nLt, nLe, nEq, nCl, nDiv, nRem2, nM1, nM2, nM3, nM4, nM5, nM6, gg_in, gg_rf, gg_T, if_true, if_false, ↓lt_eq, ob_some, b2_some, up1_some, kd_sI, ln_sI, gP_sI, gI_sI, kd_rI, ln_rI, gP_rI, gI_rI, kd_bmp, ln_bmp, gP_bmp, gI_bmp, up_at, i0, i1, a1, a2, vv]
      · have : MX12_isRow h' 73 (nI j) (nI l) = some (nI 1) := by
          unfold MX12_isRow
          simp (disch := omega) only [↓reduceIte, Nat.reduceLT, Nat.reduceLeDiff, Nat.reduceEqDiff, ZL, nAdd, nMul, nSub, nLt, nLe, nEq, nCl, nDiv, nRem2, nM1, nM2, nM3, nM4, nM5, nM6, gg_in, gg_rf, gg_T, if_true, if_false, ↓lt_eq, ob_some, b2_some, up1_some, kd_sI, ln_sI, gP_sI, gI_sI, kd_rI, ln_rI, gP_rI, gI_rI, kd_bmp, ln_bmp, gP_bmp, gI_bmp, up_at, i0, i1, RS.f R'.1, R'.2.1, b7, r_isIn_t]
        unfold MX12_row
        rw [gg_t (RS.f R'.1).1, this, ob_some, if_neg (by decide)]
        simp (disch := omega) only [MX12_row_15, ↓reduceIte, Nat.reduceLT, Nat.reduceLeDiff, Nat.reduceEqDiff, ZL, nAdd, nMul, nSub, nLt, nLe, nEq, nCl, nDiv, nRem2, nM1, nM2, nM3, nM4, nM5, nM6, gg_in, gg_rf, gg_T, if_true, if_false, ↓lt_eq, ob_some, b2_some, up1_some, kd_sI, ln_sI, gP_sI, gI_sI, kd_rI, ln_rI, gP_rI, gI_rI, kd_bmp, ln_bmp, gP_bmp, gI_bmp, up_at, i0, i1, RS.f R'.1, R'.2.1]
end
