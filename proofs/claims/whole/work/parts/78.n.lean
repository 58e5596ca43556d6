section
variable {tg : Nat → List Nat} {h h' : Hp} {m k t : Nat → Int32} {i n f : Int32} {r : Nat}
theorem rdP_eq (a b s : Nat) : rdP m a b s ↔ (m (64630 + 852 * s + 4) = nI 0 ∧ (m (64630 + 852 * s + 10) + nI 2 * m (64630 + 852 * s + 11) = nI 0 ↔ a = 0) ∧ (wrN m (64630 + 852 * s) (Nn m (64630 + 852 * s + 9)) = 0 ↔ b = 0)) := Iff.rfl
theorem c_countRd (S : RmS h r) (V : RmV h r m) (I : MI m) {a b : Nat} (ha : a < 2) (hb : b < 2) [dP : ∀ s, Decidable (rdP m a b s)] : MX7_countRead h r (nI a) (nI b) = some (nI (cN (rdP m a b) (Nn m 4)), h) := by
  rw [c_countRead S V I ha hb]
  rw [cN_congr (Q := rdP m a b) (Nn m 4) (fun s _ => (rdP_eq a b s).symm)]
theorem p_proof (C : CSt tg h m k i t n f) (R : RSt h m k i t n f) (v : Int32) : Pr (cm [4]) Gq h (MX11_proof h 1 v) (fun h' => MX12_proof h' 73 v) := by
  obtain ⟨O, X, X2, S, V, D, DV, I, T, Im, Tr⟩ := id C
  have d1 : ∀ s, Decidable (mkP m 1 s) := fun _ => Classical.propDecidable _
  have d2 : ∀ s, Decidable (mkP m 2 s) := fun _ => Classical.propDecidable _
  have d3 : ∀ s, Decidable (mkP m 3 s) := fun _ => Classical.propDecidable _
  have d4 : ∀ s, Decidable (rdP m 1 0 s) := fun _ => Classical.propDecidable _
  have d5 : ∀ s, Decidable (rdP m 0 1 s) := fun _ => Classical.propDecidable _
  have c1 := c_countMarked S V I 1
  have c2 := c_countMarked S V I 2
  have c3 := c_countMarked S V I 3
  have c4 := c_countRd S V I (a := 1) (b := 0) (by omega) (by omega)
  have c5 := c_countRd S V I (a := 0) (b := 1) (by omega) (by omega)
  have rp : ∀ h', RSt h' m k i t n f → ∀ w, MX12_proof_43 (sI h' 73 0 (nI 0)) 73 w (nI 0) (nI 0) (nI 0) (nI 0) (nI 0) (nI 0) = MX12_proof_182 (sI h' 73 0 (nI 0)) w (nI (cN (mkP m 1) (Nn m 4))) (nI (cN (mkP m 2) (Nn m 4))) (nI (cN (mkP m 3) (Nn m 4))) (nI (cN (rdP m 1 0) (Nn m 4))) (nI (cN (rdP m 0 1) (Nn m 4))) := fun h' R' w => by
    have R2 := R'.th (v := nI 0)
    exact r_proof R2.1 R2.2.1 I w
  have l1 := cN_le (P := mkP m 1) (Nn m 4)
  have l2 := cN_le (P := mkP m 2) (Nn m 4)
  have l3 := cN_le (P := mkP m 3) (Nn m 4)
  obtain ⟨-, -, -, -, ⟨-, b4'⟩, -⟩ := I.1.f
  generalize cN (mkP m 1) (Nn m 4) = A at *
  generalize cN (mkP m 2) (Nn m 4) = B at *
  generalize cN (mkP m 3) (Nn m 4) = Q at *
  generalize cN (rdP m 1 0) (Nn m 4) = U at *
  generalize cN (rdP m 0 1) (Nn m 4) = W at *
  rcases ni_d v 6 with hv | ⟨q, hq, rfl⟩
  · refine Pr.thr C R 4 1 rfl (by omega) (by omega) ?_ fun h' R' => ⟨nI 0, ?_⟩
    · unfold MX11_proof
      simp only [ZL]
      rw [if_neg (hv 0 (by omega)), if_neg (hv 1 (by omega)), if_neg (hv 2 (by omega)), if_neg (hv 3 (by omega)), if_neg (hv 4 (by omega)), if_neg (hv 5 (by omega))]
    · unfold MX12_proof
      simp (disch := omega) only [↓reduceIte, Nat.reduceLT, Nat.reduceLeDiff, Nat.reduceEqDiff, ZL, nAdd, nMul, nSub, nLt, nLe, nEq, nCl, nDiv, nRem2, nM1, nM2, nM3, nM4, nM5, nM6, gg_in, gg_rf, gg_T, if_true, if_false, ↓lt_eq, ob_some, b2_some, up1_some, kd_sI, ln_sI, gP_sI, gI_sI, kd_rI, ln_rI, gP_rI, gI_rI, kd_bmp, ln_bmp, gP_bmp, gI_bmp, up_at, i0, i1, r_isIn_f (b := 5) (by omega) hv]
      simp (disch := omega) only [MX12_proof_15, ↓reduceIte, Nat.reduceLT, Nat.reduceLeDiff, Nat.reduceEqDiff, ZL, nAdd, nMul, nSub, nLt, nLe, nEq, nCl, nDiv, nRem2, nM1, nM2, nM3, nM4, nM5, nM6, gg_in, gg_rf, gg_T, if_true, if_false, ↓lt_eq, ob_some, b2_some, up1_some, kd_sI, ln_sI, gP_sI, gI_sI, kd_rI, ln_rI, gP_rI, gI_rI, kd_bmp, ln_bmp, gP_bmp, gI_bmp, up_at, i0, i1, RS.f R'.1]
  · rcases d6 hq with rfl | rfl | rfl | rfl | rfl | rfl
    · refine Pr.get C R (nI A) ?_ fun h' R' => ?_
      · simp (disch := omega) only [MX11_proof, ↓reduceIte, Nat.reduceLT, Nat.reduceLeDiff, Nat.reduceEqDiff, ZL, nAdd, nMul, nSub, nLt, nLe, nEq, nCl, nDiv, nRem2, nM1, nM2, nM3, nM4, nM5, nM6, gg_in, gg_rf, gg_T, if_true, if_false, ↓lt_eq, ob_some, b2_some, up1_some, kd_sI, ln_sI, gP_sI, gI_sI, kd_rI, ln_rI, gP_rI, gI_rI, kd_bmp, ln_bmp, gP_bmp, gI_bmp, up_at, i0, i1, X.f, S.1, c1]
      · simp (disch := omega) only [MX12_proof, MX12_proof_15, ↓reduceIte, Nat.reduceLT, Nat.reduceLeDiff, Nat.reduceEqDiff, ZL, nAdd, nMul, nSub, nLt, nLe, nEq, nCl, nDiv, nRem2, nM1, nM2, nM3, nM4, nM5, nM6, gg_in, gg_rf, gg_T, if_true, if_false, ↓lt_eq, ob_some, b2_some, up1_some, kd_sI, ln_sI, gP_sI, gI_sI, kd_rI, ln_rI, gP_rI, gI_rI, kd_bmp, ln_bmp, gP_bmp, gI_bmp, up_at, i0, i1, RS.f R'.1, r_isIn_t, rp h' R', MX12_proof_182]
    · refine Pr.get C R (nI B) ?_ fun h' R' => ?_
      · simp (disch := omega) only [MX11_proof, ↓reduceIte, Nat.reduceLT, Nat.reduceLeDiff, Nat.reduceEqDiff, ZL, nAdd, nMul, nSub, nLt, nLe, nEq, nCl, nDiv, nRem2, nM1, nM2, nM3, nM4, nM5, nM6, gg_in, gg_rf, gg_T, if_true, if_false, ↓lt_eq, ob_some, b2_some, up1_some, kd_sI, ln_sI, gP_sI, gI_sI, kd_rI, ln_rI, gP_rI, gI_rI, kd_bmp, ln_bmp, gP_bmp, gI_bmp, up_at, i0, i1, X.f, S.1, c2]
      · simp (disch := omega) only [MX12_proof, MX12_proof_15, ↓reduceIte, Nat.reduceLT, Nat.reduceLeDiff, Nat.reduceEqDiff, ZL, nAdd, nMul, nSub, nLt, nLe, nEq, nCl, nDiv, nRem2, nM1, nM2, nM3, nM4, nM5, nM6, gg_in, gg_rf, gg_T, if_true, if_false, ↓lt_eq, ob_some, b2_some, up1_some, kd_sI, ln_sI, gP_sI, gI_sI, kd_rI, ln_rI, gP_rI, gI_rI, kd_bmp, ln_bmp, gP_bmp, gI_bmp, up_at, i0, i1, RS.f R'.1, r_isIn_t, rp h' R', MX12_proof_182]
    · refine Pr.get C R (nI Q) ?_ fun h' R' => ?_
      · simp (disch := omega) only [MX11_proof, ↓reduceIte, Nat.reduceLT, Nat.reduceLeDiff, Nat.reduceEqDiff, ZL, nAdd, nMul, nSub, nLt, nLe, nEq, nCl, nDiv, nRem2, nM1, nM2, nM3, nM4, nM5, nM6, gg_in, gg_rf, gg_T, if_true, if_false, ↓lt_eq, ob_some, b2_some, up1_some, kd_sI, ln_sI, gP_sI, gI_sI, kd_rI, ln_rI, gP_rI, gI_rI, kd_bmp, ln_bmp, gP_bmp, gI_bmp, up_at, i0, i1, X.f, S.1, c3]
      · simp (disch := omega) only [MX12_proof, MX12_proof_15, ↓reduceIte, Nat.reduceLT, Nat.reduceLeDiff, Nat.reduceEqDiff, ZL, nAdd, nMul, nSub, nLt, nLe, nEq, nCl, nDiv, nRem2, nM1, nM2, nM3, nM4, nM5, nM6, gg_in, gg_rf, gg_T, if_true, if_false, ↓lt_eq, ob_some, b2_some, up1_some, kd_sI, ln_sI, gP_sI, gI_sI, kd_rI, ln_rI, gP_rI, gI_rI, kd_bmp, ln_bmp, gP_bmp, gI_bmp, up_at, i0, i1, RS.f R'.1, r_isIn_t, rp h' R', MX12_proof_182]
    · by_cases z : Q = 0
      · refine Pr.get C R (-nI 1) ?_ fun h' R' => ?_
        · simp (disch := omega) only [MX11_proof, MX7_missed, ↓reduceIte, Nat.reduceLT, Nat.reduceLeDiff, Nat.reduceEqDiff, ZL, nAdd, nMul, nSub, nLt, nLe, nEq, nCl, nDiv, nRem2, nM1, nM2, nM3, nM4, nM5, nM6, gg_in, gg_rf, gg_T, if_true, if_false, ↓lt_eq, ob_some, b2_some, up1_some, kd_sI, ln_sI, gP_sI, gI_sI, kd_rI, ln_rI, gP_rI, gI_rI, kd_bmp, ln_bmp, gP_bmp, gI_bmp, up_at, i0, i1, X.f, S.1, c1, c2, c3, z]
        · simp (disch := omega) only [MX12_proof, MX12_proof_15, ↓reduceIte, Nat.reduceLT, Nat.reduceLeDiff, Nat.reduceEqDiff, ZL, nAdd, nMul, nSub, nLt, nLe, nEq, nCl, nDiv, nRem2, nM1, nM2, nM3, nM4, nM5, nM6, gg_in, gg_rf, gg_T, if_true, if_false, ↓lt_eq, ob_some, b2_some, up1_some, kd_sI, ln_sI, gP_sI, gI_sI, kd_rI, ln_rI, gP_rI, gI_rI, kd_bmp, ln_bmp, gP_bmp, gI_bmp, up_at, i0, i1, RS.f R'.1, r_isIn_t, rp h' R', MX12_proof_182, z]
      · have nz : ¬ nI Q = nI 0 := by rw [nEq (by omega) (by omega)]; exact z
        have gz : ∀ {β : Type} (x : Option β), gn (nI Q = nI 0) x = x := fun x => gn_f nz
        refine Pr.get C R ((nI A - nI Q) * (nI B - nI Q) / nI Q) ?_ fun h' R' => ?_
        · unfold MX11_proof
          simp only [ZL]
          rw [if_neg (by decide), if_neg (by decide), if_neg (by decide), if_pos trivial, gg_t X.1, X5 X, gg_t S.1]
          unfold MX7_missed
          simp only [ZL]
          rw [gg_t S.1, c3, b2_some, if_neg nz, gg_t S.1, c1, b2_some, gg_t S.1, c2, b2_some, gz, b2_some]
        · unfold MX12_proof
          simp (disch := omega) only [↓reduceIte, Nat.reduceLT, Nat.reduceLeDiff, Nat.reduceEqDiff, ZL, nAdd, nMul, nSub, nLt, nLe, nEq, nCl, nDiv, nRem2, nM1, nM2, nM3, nM4, nM5, nM6, gg_in, gg_rf, gg_T, if_true, if_false, ↓lt_eq, ob_some, b2_some, up1_some, kd_sI, ln_sI, gP_sI, gI_sI, kd_rI, ln_rI, gP_rI, gI_rI, kd_bmp, ln_bmp, gP_bmp, gI_bmp, up_at, i0, i1, r_isIn_t]
          unfold MX12_proof_15
          simp only [ZL]
          rw [gg_t (RS.f R'.1).1, lt_eq, gg_t (RS.f R'.1).1, if_pos (by rw [th_get]; decide), rp h' R' (nI 3)]
          unfold MX12_proof_182
          simp only [ZL]
          rw [if_pos trivial, if_neg nz, gz]
    · refine Pr.get C R (nI U) ?_ fun h' R' => ?_
      · simp (disch := omega) only [MX11_proof, ↓reduceIte, Nat.reduceLT, Nat.reduceLeDiff, Nat.reduceEqDiff, ZL, nAdd, nMul, nSub, nLt, nLe, nEq, nCl, nDiv, nRem2, nM1, nM2, nM3, nM4, nM5, nM6, gg_in, gg_rf, gg_T, if_true, if_false, ↓lt_eq, ob_some, b2_some, up1_some, kd_sI, ln_sI, gP_sI, gI_sI, kd_rI, ln_rI, gP_rI, gI_rI, kd_bmp, ln_bmp, gP_bmp, gI_bmp, up_at, i0, i1, X.f, S.1, c4]
      · simp (disch := omega) only [MX12_proof, MX12_proof_15, ↓reduceIte, Nat.reduceLT, Nat.reduceLeDiff, Nat.reduceEqDiff, ZL, nAdd, nMul, nSub, nLt, nLe, nEq, nCl, nDiv, nRem2, nM1, nM2, nM3, nM4, nM5, nM6, gg_in, gg_rf, gg_T, if_true, if_false, ↓lt_eq, ob_some, b2_some, up1_some, kd_sI, ln_sI, gP_sI, gI_sI, kd_rI, ln_rI, gP_rI, gI_rI, kd_bmp, ln_bmp, gP_bmp, gI_bmp, up_at, i0, i1, RS.f R'.1, r_isIn_t, rp h' R', MX12_proof_182]
    · refine Pr.get C R (nI W) ?_ fun h' R' => ?_
      · simp (disch := omega) only [MX11_proof, ↓reduceIte, Nat.reduceLT, Nat.reduceLeDiff, Nat.reduceEqDiff, ZL, nAdd, nMul, nSub, nLt, nLe, nEq, nCl, nDiv, nRem2, nM1, nM2, nM3, nM4, nM5, nM6, gg_in, gg_rf, gg_T, if_true, if_false, ↓lt_eq, ob_some, b2_some, up1_some, kd_sI, ln_sI, gP_sI, gI_sI, kd_rI, ln_rI, gP_rI, gI_rI, kd_bmp, ln_bmp, gP_bmp, gI_bmp, up_at, i0, i1, X.f, S.1, c5]
      · simp (disch := omega) only [MX12_proof, MX12_proof_15, ↓reduceIte, Nat.reduceLT, Nat.reduceLeDiff, Nat.reduceEqDiff, ZL, nAdd, nMul, nSub, nLt, nLe, nEq, nCl, nDiv, nRem2, nM1, nM2, nM3, nM4, nM5, nM6, gg_in, gg_rf, gg_T, if_true, if_false, ↓lt_eq, ob_some, b2_some, up1_some, kd_sI, ln_sI, gP_sI, gI_sI, kd_rI, ln_rI, gP_rI, gI_rI, kd_bmp, ln_bmp, gP_bmp, gI_bmp, up_at, i0, i1, RS.f R'.1, r_isIn_t, rp h' R', MX12_proof_182]
end
