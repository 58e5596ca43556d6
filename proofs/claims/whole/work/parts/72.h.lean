/-! width, tear, broken -/
section
variable {tg : Nat → List Nat} {h h1 h' : Hp} {m m' k t : Nat → Int32} {i n f : Int32}
theorem c_isFace_f {v : Int32} (hv : ∀ j, j < 2 → v ≠ nI j) : MX11_isFace h v = some (nI 0) := by
  unfold MX11_isFace
  rcases ni_c (by omega) hv with q | ⟨q0, q, q2⟩
  · simp (disch := omega) only [↓reduceIte, Nat.reduceLT, Nat.reduceLeDiff, Nat.reduceEqDiff, ZL, nAdd, nMul, nSub, nLt, nLe, nEq, nCl, nDiv, nRem2, nM1, nM2, nM3, nM4, nM5, nM6, gg_in, gg_rf, gg_T, if_true, if_false, ↓lt_eq, ob_some, b2_some, up1_some, kd_sI, ln_sI, gP_sI, gI_sI, kd_rI, ln_rI, gP_rI, gI_rI, kd_bmp, ln_bmp, gP_bmp, gI_bmp, up_at, i0, i1, q]
  · simp (disch := omega) only [↓reduceIte, Nat.reduceLT, Nat.reduceLeDiff, Nat.reduceEqDiff, ZL, nAdd, nMul, nSub, nLt, nLe, nEq, nCl, nDiv, nRem2, nM1, nM2, nM3, nM4, nM5, nM6, gg_in, gg_rf, gg_T, if_true, if_false, ↓lt_eq, ob_some, b2_some, up1_some, kd_sI, ln_sI, gP_sI, gI_sI, kd_rI, ln_rI, gP_rI, gI_rI, kd_bmp, ln_bmp, gP_bmp, gI_bmp, up_at, i0, i1, q0, q]
theorem c_isFace_t {j : Nat} (hj : j < 2) : MX11_isFace h (nI j) = some (nI 1) := by
  unfold MX11_isFace
  simp (disch := omega) only [↓reduceIte, Nat.reduceLT, Nat.reduceLeDiff, Nat.reduceEqDiff, ZL, nAdd, nMul, nSub, nLt, nLe, nEq, nCl, nDiv, nRem2, nM1, nM2, nM3, nM4, nM5, nM6, gg_in, gg_rf, gg_T, if_true, if_false, ↓lt_eq, ob_some, b2_some, up1_some, kd_sI, ln_sI, gP_sI, gI_sI, kd_rI, ln_rI, gP_rI, gI_rI, kd_bmp, ln_bmp, gP_bmp, gI_bmp, up_at, i0, i1]
theorem c_isSign_f {v : Int32} (hv : ∀ j, j < 27 → v ≠ nI j) : MX11_isSign h v = some (nI 0) := by
  unfold MX11_isSign
  rcases ni_c (by omega) hv with q | ⟨q0, q, q2⟩
  · simp (disch := omega) only [↓reduceIte, Nat.reduceLT, Nat.reduceLeDiff, Nat.reduceEqDiff, ZL, nAdd, nMul, nSub, nLt, nLe, nEq, nCl, nDiv, nRem2, nM1, nM2, nM3, nM4, nM5, nM6, gg_in, gg_rf, gg_T, if_true, if_false, ↓lt_eq, ob_some, b2_some, up1_some, kd_sI, ln_sI, gP_sI, gI_sI, kd_rI, ln_rI, gP_rI, gI_rI, kd_bmp, ln_bmp, gP_bmp, gI_bmp, up_at, i0, i1, q]
  · simp (disch := omega) only [↓reduceIte, Nat.reduceLT, Nat.reduceLeDiff, Nat.reduceEqDiff, ZL, nAdd, nMul, nSub, nLt, nLe, nEq, nCl, nDiv, nRem2, nM1, nM2, nM3, nM4, nM5, nM6, gg_in, gg_rf, gg_T, if_true, if_false, ↓lt_eq, ob_some, b2_some, up1_some, kd_sI, ln_sI, gP_sI, gI_sI, kd_rI, ln_rI, gP_rI, gI_rI, kd_bmp, ln_bmp, gP_bmp, gI_bmp, up_at, i0, i1, q0, q]
theorem c_isSign_t {j : Nat} (hj : j < 27) : MX11_isSign h (nI j) = some (nI 1) := by
  unfold MX11_isSign
  simp (disch := omega) only [↓reduceIte, Nat.reduceLT, Nat.reduceLeDiff, Nat.reduceEqDiff, ZL, nAdd, nMul, nSub, nLt, nLe, nEq, nCl, nDiv, nRem2, nM1, nM2, nM3, nM4, nM5, nM6, gg_in, gg_rf, gg_T, if_true, if_false, ↓lt_eq, ob_some, b2_some, up1_some, kd_sI, ln_sI, gP_sI, gI_sI, kd_rI, ln_rI, gP_rI, gI_rI, kd_bmp, ln_bmp, gP_bmp, gI_bmp, up_at, i0, i1]
theorem rn_d (v : Int32) (a b : Nat) : (∀ j, a ≤ j → j < b → v ≠ nI j) ∨ ∃ j, a ≤ j ∧ j < b ∧ v = nI j := by
  by_cases z : ∃ j, a ≤ j ∧ j < b ∧ v = nI j
  · exact Or.inr z
  · exact Or.inl fun j h1 h2 e => z ⟨j, h1, h2, e⟩
/-- from a up to b: not so -/
theorem rn_c {v : Int32} {a b : Nat} (hb : b + 1 < 2147483648) (ha : a ≤ b) (hv : ∀ j, a ≤ j → j < b + 1 → v ≠ nI j) : v < nI a ∨ (¬ v < nI a ∧ ¬ v ≤ nI b ∧ nI b < v) := by
  rcases arg2 v with z | ⟨j, hj, rfl⟩
  · refine Or.inl ?_
    rw [Int32.lt_iff_toInt_lt, nI_toInt (by omega)] at z ⊢
    omega
  · by_cases z : j < a
    · exact Or.inl (nI_lt z (by omega))
    · have : ¬ j < b + 1 := fun z2 => absurd rfl (hv j (by omega) z2)
      refine Or.inr ⟨nI_nlt (by omega) (by omega), ?_, nI_lt (by omega) (by omega)⟩
      rw [nLe (by omega) (by omega)]
      omega
theorem p_width (C : CSt tg h m k i t n f) (R : RSt h m k i t n f) (v w u : Int32) : Pr (cm [1, 2]) Gq h (vX (MX11_width h 1 v w u)) (fun h' => vY (MX12_width h' 73 v w u)) := by
  obtain ⟨O, X, X2, S, V, D, DV, I, T, Im, Tr⟩ := id C
  obtain ⟨-, -, t3, -, -, -, t19, -⟩ := tgs O X
  rcases ni_d v 2 with hv | ⟨a, ha, rfl⟩
  · refine Pr.thr C R 1 1 rfl (by omega) (by omega) ?_ fun h' R' => ⟨nI 0, ?_⟩
    · unfold MX11_width
      rw [c_isFace_f hv, ob_some, if_pos (by decide)]
      rfl
    · unfold MX12_width
      simp (disch := omega) only [↓reduceIte, Nat.reduceLT, Nat.reduceLeDiff, Nat.reduceEqDiff, ZL, nAdd, nMul, nSub, nLt, nLe, nEq, nCl, nDiv, nRem2, nM1, nM2, nM3, nM4, nM5, nM6, gg_in, gg_rf, gg_T, if_true, if_false, ↓lt_eq, ob_some, b2_some, up1_some, kd_sI, ln_sI, gP_sI, gI_sI, kd_rI, ln_rI, gP_rI, gI_rI, kd_bmp, ln_bmp, gP_bmp, gI_bmp, up_at, i0, i1, r_isIn_f (b := 1) (by omega) hv, MX12_width_20]
      simp (disch := omega) only [MX12_width_39, ↓reduceIte, Nat.reduceLT, Nat.reduceLeDiff, Nat.reduceEqDiff, ZL, nAdd, nMul, nSub, nLt, nLe, nEq, nCl, nDiv, nRem2, nM1, nM2, nM3, nM4, nM5, nM6, gg_in, gg_rf, gg_T, if_true, if_false, ↓lt_eq, ob_some, b2_some, up1_some, kd_sI, ln_sI, gP_sI, gI_sI, kd_rI, ln_rI, gP_rI, gI_rI, kd_bmp, ln_bmp, gP_bmp, gI_bmp, up_at, i0, i1, RS.f R'.1, vY]
  · rcases ni_d w 27 with hw | ⟨b, hb, rfl⟩
    · refine Pr.thr C R 1 1 rfl (by omega) (by omega) ?_ fun h' R' => ⟨nI 0, ?_⟩
      · unfold MX11_width
        rw [c_isFace_t ha, ob_some, if_neg (by decide), c_isSign_f hw, ob_some, if_pos (by decide)]
        rfl
      · unfold MX12_width
        simp (disch := omega) only [↓reduceIte, Nat.reduceLT, Nat.reduceLeDiff, Nat.reduceEqDiff, ZL, nAdd, nMul, nSub, nLt, nLe, nEq, nCl, nDiv, nRem2, nM1, nM2, nM3, nM4, nM5, nM6, gg_in, gg_rf, gg_T, if_true, if_false, ↓lt_eq, ob_some, b2_some, up1_some, kd_sI, ln_sI, gP_sI, gI_sI, kd_rI, ln_rI, gP_rI, gI_rI, kd_bmp, ln_bmp, gP_bmp, gI_bmp, up_at, i0, i1, r_isIn_t, r_isIn_f (b := 26) (by omega) hw, MX12_width_20]
        simp (disch := omega) only [MX12_width_39, ↓reduceIte, Nat.reduceLT, Nat.reduceLeDiff, Nat.reduceEqDiff, ZL, nAdd, nMul, nSub, nLt, nLe, nEq, nCl, nDiv, nRem2, nM1, nM2, nM3, nM4, nM5, nM6, gg_in, gg_rf, gg_T, if_true, if_false, ↓lt_eq, ob_some, b2_some, up1_some, kd_sI, ln_sI, gP_sI, gI_sI, kd_rI, ln_rI, gP_rI, gI_rI, kd_bmp, ln_bmp, gP_bmp, gI_bmp, up_at, i0, i1, RS.f R'.1, vY]
    · rcases rn_d u 1 21 with hu | ⟨c, hc1, hc2, rfl⟩
      · refine Pr.thr C R 2 2 rfl (by omega) (by omega) ?_ fun h' R' => ⟨nI 0, ?_⟩
        · unfold MX11_width
          rw [c_isFace_t ha, ob_some, if_neg (by decide), c_isSign_t hb, ob_some, if_neg (by decide)]
          rcases rn_c (b := 20) (by omega) (by omega) hu with z | ⟨z1, z2, z3⟩
          · simp only [ZL, if_pos z, vX]
          · simp only [ZL, if_neg z1, if_neg z2, vX]
        · unfold MX12_width
          simp (disch := omega) only [↓reduceIte, Nat.reduceLT, Nat.reduceLeDiff, Nat.reduceEqDiff, ZL, nAdd, nMul, nSub, nLt, nLe, nEq, nCl, nDiv, nRem2, nM1, nM2, nM3, nM4, nM5, nM6, gg_in, gg_rf, gg_T, if_true, if_false, ↓lt_eq, ob_some, b2_some, up1_some, kd_sI, ln_sI, gP_sI, gI_sI, kd_rI, ln_rI, gP_rI, gI_rI, kd_bmp, ln_bmp, gP_bmp, gI_bmp, up_at, i0, i1, r_isIn_t, r_isIn_f1 (b := 20) (by omega) (by omega) hu]
          simp (disch := omega) only [MX12_width_39, ↓reduceIte, Nat.reduceLT, Nat.reduceLeDiff, Nat.reduceEqDiff, ZL, nAdd, nMul, nSub, nLt, nLe, nEq, nCl, nDiv, nRem2, nM1, nM2, nM3, nM4, nM5, nM6, gg_in, gg_rf, gg_T, if_true, if_false, ↓lt_eq, ob_some, b2_some, up1_some, kd_sI, ln_sI, gP_sI, gI_sI, kd_rI, ln_rI, gP_rI, gI_rI, kd_bmp, ln_bmp, gP_bmp, gI_bmp, up_at, i0, i1, RS.f R'.1, vY]
      · obtain ⟨z1, a1, a2⟩ := S.2.1
        have F1 : Fr (fun x => x = gP h 19 1) h (sI h (gP h 19 1) (a * 27 + b) (nI c)) := Fr.sI rfl
        have sf := own_sm O t3 t19 (by omega) z1 (show 19 ≠ 0 by omega) F1
        have mo : ∀ j, j ≠ 16 + 27 * a + b → va_up m (16 + 27 * a + b) (nI c) j = m j := fun j hj => by simp only [up_at, if_neg hj]
        refine Pr.room (h1 := sI h (gP h 19 1) (a * 27 + b) (nI c)) (m' := va_up m (16 + 27 * a + b) (nI c)) C R (nI 0) ?_ F1 (fun x hx => by
          have hx : x = gP h 19 1 := hx
          subst hx
          exact ⟨z1, by rw [tgc O z1 (by omega), t19]; exact List.suffix_cons _ _⟩) (S.own F1 (by omega) sf) (RmV.own I V F1 sf (by omega) (fun x hx => mo x (by omega)) (fun j hj => ?_) (fun j hj l hl => ?_)) (MI.wr I (fun x hx => mo x (by omega)) (fun j hj => ?_) (fun j hj => mo _ (by omega))) (fun x hx => mo x (by unfold rgDk at hx; omega)) fun h' R' => ?_
        · unfold MX11_width
          rw [c_isFace_t ha, ob_some, if_neg (by decide), c_isSign_t hb, ob_some, if_neg (by decide)]
          simp (disch := omega) only [↓reduceIte, Nat.reduceLT, Nat.reduceLeDiff, Nat.reduceEqDiff, ZL, nAdd, nMul, nSub, nLt, nLe, nEq, nCl, nDiv, nRem2, nM1, nM2, nM3, nM4, nM5, nM6, gg_in, gg_rf, gg_T, if_true, if_false, ↓lt_eq, ob_some, b2_some, up1_some, kd_sI, ln_sI, gP_sI, gI_sI, kd_rI, ln_rI, gP_rI, gI_rI, kd_bmp, ln_bmp, gP_bmp, gI_bmp, up_at, i0, i1, X.f, S.1, a1, a2, vX]
        · by_cases z : j = a * 27 + b
          · subst z
            simp (disch := omega) only [↓reduceIte, Nat.reduceLT, Nat.reduceLeDiff, Nat.reduceEqDiff, ZL, nAdd, nMul, nSub, nLt, nLe, nEq, nCl, nDiv, nRem2, nM1, nM2, nM3, nM4, nM5, nM6, gg_in, gg_rf, gg_T, if_true, if_false, ↓lt_eq, ob_some, b2_some, up1_some, kd_sI, ln_sI, gP_sI, gI_sI, kd_rI, ln_rI, gP_rI, gI_rI, kd_bmp, ln_bmp, gP_bmp, gI_bmp, up_at, i0, i1]
          · simp (disch := omega) only [↓reduceIte, Nat.reduceLT, Nat.reduceLeDiff, Nat.reduceEqDiff, ZL, nAdd, nMul, nSub, nLt, nLe, nEq, nCl, nDiv, nRem2, nM1, nM2, nM3, nM4, nM5, nM6, gg_in, gg_rf, gg_T, if_true, if_false, ↓lt_eq, ob_some, b2_some, up1_some, kd_sI, ln_sI, gP_sI, gI_sI, kd_rI, ln_rI, gP_rI, gI_rI, kd_bmp, ln_bmp, gP_bmp, gI_bmp, up_at, i0, i1, V.2.2.2.2.2.1 j hj]
        · have vv := V.2.2.2.2.2.2.2.2.2.2.2 j hj l hl
          have n12 := ne_f O (show 19 ≠ 3 by omega) S.2.2.2.2.2.2.2.1.1 z1 (show 12 ≠ 1 by omega)
          have n13 := ne_f O (show 19 ≠ 3 by omega) S.2.2.2.2.2.2.2.2.1.1 z1 (show 13 ≠ 1 by omega)
          obtain ⟨-, -, -, -, -, -, -, ⟨-, h7⟩⟩ := I.1.f
          rw [mo _ (by omega), gI_sI, if_neg n12, gI_sI, if_neg n13]
          exact vv
        · by_cases z : 16 + j = 16 + 27 * a + b
          · have e : va_up m (16 + 27 * a + b) (nI c) (16 + j) = nI c := by rw [z, up_at, if_pos rfl]
            refine ⟨⟨c, by omega, e⟩, ?_⟩
            unfold Nn
            rw [e, nCl (by omega)]
            exact hc1
          · obtain ⟨w1, w2⟩ := I.1.2.2.2.2.2.2.2.2.1 j hj
            exact ⟨w1.c (mo _ z), by rw [Nn.c (mo _ z)]; exact w2⟩
        · refine ⟨sI (sI h' 73 0 (nI 0)) 74 (16 + 27 * a + b) (nI c), ?_, th_fr.trans fr74, R'.th.m1, ?_⟩
          · unfold MX12_width
            simp (disch := omega) only [↓reduceIte, Nat.reduceLT, Nat.reduceLeDiff, Nat.reduceEqDiff, ZL, nAdd, nMul, nSub, nLt, nLe, nEq, nCl, nDiv, nRem2, nM1, nM2, nM3, nM4, nM5, nM6, gg_in, gg_rf, gg_T, if_true, if_false, ↓lt_eq, ob_some, b2_some, up1_some, kd_sI, ln_sI, gP_sI, gI_sI, kd_rI, ln_rI, gP_rI, gI_rI, kd_bmp, ln_bmp, gP_bmp, gI_bmp, up_at, i0, i1, r_isIn_t]
            simp (disch := omega) only [MX12_width_39, ↓reduceIte, Nat.reduceLT, Nat.reduceLeDiff, Nat.reduceEqDiff, ZL, nAdd, nMul, nSub, nLt, nLe, nEq, nCl, nDiv, nRem2, nM1, nM2, nM3, nM4, nM5, nM6, gg_in, gg_rf, gg_T, if_true, if_false, ↓lt_eq, ob_some, b2_some, up1_some, kd_sI, ln_sI, gP_sI, gI_sI, kd_rI, ln_rI, gP_rI, gI_rI, kd_bmp, ln_bmp, gP_bmp, gI_bmp, up_at, i0, i1, RS.f R'.1, vY]
          · simp (disch := omega) only [↓reduceIte, Nat.reduceLT, Nat.reduceLeDiff, Nat.reduceEqDiff, ZL, nAdd, nMul, nSub, nLt, nLe, nEq, nCl, nDiv, nRem2, nM1, nM2, nM3, nM4, nM5, nM6, gg_in, gg_rf, gg_T, if_true, if_false, ↓lt_eq, ob_some, b2_some, up1_some, kd_sI, ln_sI, gP_sI, gI_sI, kd_rI, ln_rI, gP_rI, gI_rI, kd_bmp, ln_bmp, gP_bmp, gI_bmp, up_at, i0, i1]
end
