/-! count: the pair -/
section
variable {tg : Nat → List Nat} {h h' : Hp} {m k t : Nat → Int32} {i n f : Int32} {r : Nat}
/-- what the reference counts, by what is asked -/
def ctP (m : Nat → Int32) (q s : Nat) : Prop := if q < 8 then m (64630 + 852 * s + 4) = nI (q - 5) else if q = 8 then m (64630 + 852 * s + 7) = nI 1 else m (64630 + 852 * s + 4) = nI 0 ∧ wrN m (64630 + 852 * s) (Nn m (64630 + 852 * s + 9)) ≠ 0
theorem r_count (R : RS h) (e : gI h 74 = m) (I : MI m) {q : Nat} (h5 : 5 ≤ q) (h9 : q ≤ 9) [dP : ∀ s, Decidable (ctP m q s)] : MX12_count_168 h 73 (nI q) (nI 0) (nI 0) = some (nI (cN (ctP m q) (Nn m 4)), h) := by
  obtain ⟨-, -, -, -, ⟨b1, b2⟩, -⟩ := I.1.f
  unfold MX12_count_168
  refine it_seq2 (fun j => (nI (cN (ctP m q) j), nI j)) (Nn m 4) rfl (fun j hj => ?_) ?_
  · show BX12_count_168 h 73 (nI q) (nI (cN (ctP m q) j)) (nI j) = _
    have hc := cN_le (P := ctP m q) j
    have es : cN (ctP m q) (j + 1) = cN (ctP m q) j + (if ctP m q j then 1 else 0) := rfl
    rw [es]
    generalize cN (ctP m q) j = w at hc ⊢
    have hI := I.2.2.1 j hj
    obtain ⟨x4, hx4, ex4⟩ := hI.2.2.2.2.2.2.2.2.1
    obtain ⟨x7, hx7, ex7⟩ := hI.2.2.2.2.2.2.2.2.2.1
    have eW := r_isWrong R e (show j < 300 by omega) hI.2.2.2.2.2.2.2.2.2.2.2.1
    by_cases q8 : q < 8
    · by_cases z : x4 = q - 5
      · rw [if_pos (show ctP m q j from by unfold ctP; rw [if_pos q8, ex4, z])]
        simp (disch := omega) only [BX12_count_168, MX12_count_269, MX12_count_282, ↓reduceIte, Nat.reduceLT, Nat.reduceLeDiff, Nat.reduceEqDiff, ZL, nAdd, nMul, nSub, nLt, nLe, nEq, nCl, nDiv, nRem2, nM1, nM2, nM3, nM4, nM5, nM6, gg_in, gg_rf, gg_T, if_true, if_false, ↓lt_eq, ob_some, b2_some, up1_some, kd_sI, ln_sI, gP_sI, gI_sI, kd_rI, ln_rI, gP_rI, gI_rI, kd_bmp, ln_bmp, gP_bmp, gI_bmp, up_at, i0, i1, RS.f R, e, b1, r_slug0, ex4]
      · rw [if_neg (show ¬ ctP m q j from by
          unfold ctP
          rw [if_pos q8, ex4, nEq (by omega) (by omega)]
          exact z)]
        simp (disch := omega) only [BX12_count_168, MX12_count_269, MX12_count_282, ↓reduceIte, Nat.reduceLT, Nat.reduceLeDiff, Nat.reduceEqDiff, ZL, nAdd, nMul, nSub, nLt, nLe, nEq, nCl, nDiv, nRem2, nM1, nM2, nM3, nM4, nM5, nM6, gg_in, gg_rf, gg_T, if_true, if_false, ↓lt_eq, ob_some, b2_some, up1_some, kd_sI, ln_sI, gP_sI, gI_sI, kd_rI, ln_rI, gP_rI, gI_rI, kd_bmp, ln_bmp, gP_bmp, gI_bmp, up_at, i0, i1, RS.f R, e, b1, r_slug0, ex4]
    · by_cases q9 : q = 8
      · by_cases z : x7 = 1
        · rw [if_pos (show ctP m q j from by unfold ctP; rw [if_neg q8, if_pos q9, ex7, z])]
          simp (disch := omega) only [BX12_count_168, MX12_count_269, MX12_count_282, ↓reduceIte, Nat.reduceLT, Nat.reduceLeDiff, Nat.reduceEqDiff, ZL, nAdd, nMul, nSub, nLt, nLe, nEq, nCl, nDiv, nRem2, nM1, nM2, nM3, nM4, nM5, nM6, gg_in, gg_rf, gg_T, if_true, if_false, ↓lt_eq, ob_some, b2_some, up1_some, kd_sI, ln_sI, gP_sI, gI_sI, kd_rI, ln_rI, gP_rI, gI_rI, kd_bmp, ln_bmp, gP_bmp, gI_bmp, up_at, i0, i1, RS.f R, e, b1, r_slug0, ex7]
        · rw [if_neg (show ¬ ctP m q j from by
            unfold ctP
            rw [if_neg q8, if_pos q9, ex7, nEq (by omega) (by omega)]
            exact z)]
          simp (disch := omega) only [BX12_count_168, MX12_count_269, MX12_count_282, ↓reduceIte, Nat.reduceLT, Nat.reduceLeDiff, Nat.reduceEqDiff, ZL, nAdd, nMul, nSub, nLt, nLe, nEq, nCl, nDiv, nRem2, nM1, nM2, nM3, nM4, nM5, nM6, gg_in, gg_rf, gg_T, if_true, if_false, ↓lt_eq, ob_some, b2_some, up1_some, kd_sI, ln_sI, gP_sI, gI_sI, kd_rI, ln_rI, gP_rI, gI_rI, kd_bmp, ln_bmp, gP_bmp, gI_bmp, up_at, i0, i1, RS.f R, e, b1, r_slug0, ex7]
      · by_cases z : x4 = 0
        · by_cases z2 : wrN m (64630 + 852 * j) (Nn m (64630 + 852 * j + 9)) = 0
          · rw [if_neg (show ¬ ctP m q j from by
              unfold ctP
              rw [if_neg q8, if_neg q9]
              exact fun u => u.2 z2)]
            rw [if_pos z2] at eW
            simp (disch := omega) only [BX12_count_168, MX12_count_268, MX12_count_269, MX12_count_282, ↓reduceIte, Nat.reduceLT, Nat.reduceLeDiff, Nat.reduceEqDiff, ZL, nAdd, nMul, nSub, nLt, nLe, nEq, nCl, nDiv, nRem2, nM1, nM2, nM3, nM4, nM5, nM6, gg_in, gg_rf, gg_T, if_true, if_false, ↓lt_eq, ob_some, b2_some, up1_some, kd_sI, ln_sI, gP_sI, gI_sI, kd_rI, ln_rI, gP_rI, gI_rI, kd_bmp, ln_bmp, gP_bmp, gI_bmp, up_at, i0, i1, RS.f R, e, b1, r_slug0, ex4, eW]
          · rw [if_pos (show ctP m q j from by
              unfold ctP
              rw [if_neg q8, if_neg q9]
              exact ⟨by rw [ex4, z], z2⟩)]
            rw [if_neg z2] at eW
            simp (disch := omega) only [BX12_count_168, MX12_count_268, MX12_count_269, MX12_count_282, ↓reduceIte, Nat.reduceLT, Nat.reduceLeDiff, Nat.reduceEqDiff, ZL, nAdd, nMul, nSub, nLt, nLe, nEq, nCl, nDiv, nRem2, nM1, nM2, nM3, nM4, nM5, nM6, gg_in, gg_rf, gg_T, if_true, if_false, ↓lt_eq, ob_some, b2_some, up1_some, kd_sI, ln_sI, gP_sI, gI_sI, kd_rI, ln_rI, gP_rI, gI_rI, kd_bmp, ln_bmp, gP_bmp, gI_bmp, up_at, i0, i1, RS.f R, e, b1, r_slug0, ex4, eW]
        · rw [if_neg (show ¬ ctP m q j from by
            unfold ctP
            rw [if_neg q8, if_neg q9, ex4, nEq (by omega) (by omega)]
            exact fun u => z u.1)]
          simp (disch := omega) only [BX12_count_168, MX12_count_268, MX12_count_269, MX12_count_282, ↓reduceIte, Nat.reduceLT, Nat.reduceLeDiff, Nat.reduceEqDiff, ZL, nAdd, nMul, nSub, nLt, nLe, nEq, nCl, nDiv, nRem2, nM1, nM2, nM3, nM4, nM5, nM6, gg_in, gg_rf, gg_T, if_true, if_false, ↓lt_eq, ob_some, b2_some, up1_some, kd_sI, ln_sI, gP_sI, gI_sI, kd_rI, ln_rI, gP_rI, gI_rI, kd_bmp, ln_bmp, gP_bmp, gI_bmp, up_at, i0, i1, RS.f R, e, b1, r_slug0, ex4]
  · show BX12_count_168 h 73 (nI q) _ (nI (Nn m 4)) = _
    unfold BX12_count_168
    simp (disch := omega) only [↓reduceIte, Nat.reduceLT, Nat.reduceLeDiff, Nat.reduceEqDiff, ZL, nAdd, nMul, nSub, nLt, nLe, nEq, nCl, nDiv, nRem2, nM1, nM2, nM3, nM4, nM5, nM6, gg_in, gg_rf, gg_T, if_true, if_false, ↓lt_eq, ob_some, b2_some, up1_some, kd_sI, ln_sI, gP_sI, gI_sI, kd_rI, ln_rI, gP_rI, gI_rI, kd_bmp, ln_bmp, gP_bmp, gI_bmp, up_at, i0, i1, RS.f R, e, b1]
theorem p_count (C : CSt tg h m k i t n f) (R : RSt h m k i t n f) (v : Int32) : Pr (cm []) Gq h (nX (MX11_count h 1 v)) (fun h' => MX12_count h' 73 v) := by
  obtain ⟨O, X, X2, S, V, D, DV, I, T, Im, Tr⟩ := id C
  obtain ⟨⟨b0, b0'⟩, ⟨b1, b1'⟩, ⟨b2, b2'⟩, ⟨b3, b3'⟩, ⟨b4, b4'⟩, ⟨b5, b5'⟩, ⟨b6, b6'⟩, ⟨b7, b7'⟩⟩ := I.1.f
  have rs : ∀ h', RSt h' m k i t n f → MX12_styleOf (sI h' 73 0 (nI 0)) 73 (nI (Nn m 0)) = some (stV (stI m (nI (Nn m 0)) (Nn m 2))) := fun h' R' => by
    have R2 := R'.th (v := nI 0)
    exact r_styleOf R2.1 R2.2.1 I.1 _
  have stl := stI_le (m := m) (x := nI (Nn m 0)) (Nn m 2)
  rcases ni_d v 15 with hv | ⟨q, hq, rfl⟩
  · refine Pr.get C R (-nI 1) ?_ fun h' R' => ?_
    · unfold MX11_count
      simp only [ZL]
      rw [if_neg (hv 0 (by omega)), if_neg (hv 1 (by omega)), if_neg (hv 2 (by omega)), if_neg (hv 3 (by omega)), if_neg (hv 4 (by omega)), if_neg (hv 5 (by omega)), if_neg (hv 6 (by omega)), if_neg (hv 7 (by omega)), if_neg (hv 8 (by omega)), if_neg (hv 9 (by omega)), if_neg (hv 10 (by omega)), if_neg (hv 11 (by omega)), if_neg (hv 12 (by omega)), if_neg (hv 13 (by omega)), if_neg (hv 14 (by omega))]
      rfl
    · have n5 : MX12_isIn (sI h' 73 0 (nI 0)) v (nI 5) (nI 9) = some (nI 0) := r_isIn_f1 (by omega) (by omega) fun j h1 h2 => hv j (by omega)
      unfold MX12_count
      have g0 : gI (sI h' 73 0 (nI 0)) (gP h' 73 1) (nI 0).toNatClampNeg = nI (Nn m 0) := by
        simp (disch := omega) only [↓reduceIte, Nat.reduceLT, Nat.reduceLeDiff, Nat.reduceEqDiff, ZL, nAdd, nMul, nSub, nLt, nLe, nEq, nCl, nDiv, nRem2, nM1, nM2, nM3, nM4, nM5, nM6, gg_in, gg_rf, gg_T, if_true, if_false, ↓lt_eq, ob_some, b2_some, up1_some, kd_sI, ln_sI, gP_sI, gI_sI, kd_rI, ln_rI, gP_rI, gI_rI, kd_bmp, ln_bmp, gP_bmp, gI_bmp, up_at, i0, i1, RS.f R'.1, R'.2.1, b0]
      simp only [ZL]
      rw [gg_t (RS.f R'.1).1, lt_eq, gg_t (by simp only [RS.f R'.1]), gg_in (by simp only [RS.f R'.1]; omega) (by simp only [RS.f R'.1]; omega), g0, rs h' R', ob_some, if_neg (hv 0 (by omega)), if_neg (hv 1 (by omega)), if_neg (hv 2 (by omega)), if_neg (hv 3 (by omega)), if_neg (hv 4 (by omega)), if_neg (hv 10 (by omega)), if_neg (hv 11 (by omega)), if_neg (hv 12 (by omega)), if_neg (hv 13 (by omega)), if_neg (hv 14 (by omega)), n5, ob_some, if_pos rfl]
  · rcases (show q = 0 ∨ q = 1 ∨ q = 2 ∨ q = 3 ∨ q = 4 ∨ q = 5 ∨ q = 6 ∨ q = 7 ∨ q = 8 ∨ q = 9 ∨ q = 10 ∨ q = 11 ∨ q = 12 ∨ q = 13 ∨ q = 14 by omega) with rfl | rfl | rfl | rfl | rfl | rfl | rfl | rfl | rfl | rfl | rfl | rfl | rfl | rfl | rfl
    · refine Pr.get C R (m 0) ?_ fun h' R' => ?_
      · simp (disch := omega) only [MX11_count, ↓reduceIte, Nat.reduceLT, Nat.reduceLeDiff, Nat.reduceEqDiff, ZL, nAdd, nMul, nSub, nLt, nLe, nEq, nCl, nDiv, nRem2, nM1, nM2, nM3, nM4, nM5, nM6, gg_in, gg_rf, gg_T, if_true, if_false, ↓lt_eq, ob_some, b2_some, up1_some, kd_sI, ln_sI, gP_sI, gI_sI, kd_rI, ln_rI, gP_rI, gI_rI, kd_bmp, ln_bmp, gP_bmp, gI_bmp, up_at, i0, i1, X.f, S.1, D.1, V.1, nX]
      · simp (disch := omega) only [MX12_count, ↓reduceIte, Nat.reduceLT, Nat.reduceLeDiff, Nat.reduceEqDiff, ZL, nAdd, nMul, nSub, nLt, nLe, nEq, nCl, nDiv, nRem2, nM1, nM2, nM3, nM4, nM5, nM6, gg_in, gg_rf, gg_T, if_true, if_false, ↓lt_eq, ob_some, b2_some, up1_some, kd_sI, ln_sI, gP_sI, gI_sI, kd_rI, ln_rI, gP_rI, gI_rI, kd_bmp, ln_bmp, gP_bmp, gI_bmp, up_at, i0, i1, RS.f R'.1, R'.2.1, b0, rs h' R', b0]
    · refine Pr.get C R (m 1) ?_ fun h' R' => ?_
      · simp (disch := omega) only [MX11_count, ↓reduceIte, Nat.reduceLT, Nat.reduceLeDiff, Nat.reduceEqDiff, ZL, nAdd, nMul, nSub, nLt, nLe, nEq, nCl, nDiv, nRem2, nM1, nM2, nM3, nM4, nM5, nM6, gg_in, gg_rf, gg_T, if_true, if_false, ↓lt_eq, ob_some, b2_some, up1_some, kd_sI, ln_sI, gP_sI, gI_sI, kd_rI, ln_rI, gP_rI, gI_rI, kd_bmp, ln_bmp, gP_bmp, gI_bmp, up_at, i0, i1, X.f, S.1, D.1, V.2.1, nX]
      · simp (disch := omega) only [MX12_count, ↓reduceIte, Nat.reduceLT, Nat.reduceLeDiff, Nat.reduceEqDiff, ZL, nAdd, nMul, nSub, nLt, nLe, nEq, nCl, nDiv, nRem2, nM1, nM2, nM3, nM4, nM5, nM6, gg_in, gg_rf, gg_T, if_true, if_false, ↓lt_eq, ob_some, b2_some, up1_some, kd_sI, ln_sI, gP_sI, gI_sI, kd_rI, ln_rI, gP_rI, gI_rI, kd_bmp, ln_bmp, gP_bmp, gI_bmp, up_at, i0, i1, RS.f R'.1, R'.2.1, b0, rs h' R', b1]
    · have cs := c_styleAt S V I.1 (st_ne O X S) (nI (Nn m 0))
      by_cases z : stI m (nI (Nn m 0)) (Nn m 2) = 0
      · refine Pr.get C R (nI 0) ?_ fun h' R' => ?_
        · have e0 : stC h 19 (stI m (nI (Nn m 0)) (Nn m 2)) = gP h 19 4 := by unfold stC; rw [if_pos z]
          rw [e0] at cs
          obtain ⟨-, y1, y2, -⟩ := S.2.2.2.2.2.2.2.2.2.2.2.2.2.2.1
          simp (disch := omega) only [MX11_count, MX7_rulesNow, ↓reduceIte, Nat.reduceLT, Nat.reduceLeDiff, Nat.reduceEqDiff, ZL, nAdd, nMul, nSub, nLt, nLe, nEq, nCl, nDiv, nRem2, nM1, nM2, nM3, nM4, nM5, nM6, gg_in, gg_rf, gg_T, if_true, if_false, ↓lt_eq, ob_some, b2_some, up1_some, kd_sI, ln_sI, gP_sI, gI_sI, kd_rI, ln_rI, gP_rI, gI_rI, kd_bmp, ln_bmp, gP_bmp, gI_bmp, up_at, i0, i1, X.f, S.1, V.1, b0, cs, y1.1, y2, nX]
        · have e0 : stV (stI m (nI (Nn m 0)) (Nn m 2)) = -nI 1 := by unfold stV; rw [if_pos z]
          have rs2 := rs h' R'
          rw [e0] at rs2
          simp (disch := omega) only [MX12_count, ↓reduceIte, Nat.reduceLT, Nat.reduceLeDiff, Nat.reduceEqDiff, ZL, nAdd, nMul, nSub, nLt, nLe, nEq, nCl, nDiv, nRem2, nM1, nM2, nM3, nM4, nM5, nM6, gg_in, gg_rf, gg_T, if_true, if_false, ↓lt_eq, ob_some, b2_some, up1_some, kd_sI, ln_sI, gP_sI, gI_sI, kd_rI, ln_rI, gP_rI, gI_rI, kd_bmp, ln_bmp, gP_bmp, gI_bmp, up_at, i0, i1, RS.f R'.1, R'.2.1, b0, rs2]
      · obtain ⟨w, hw⟩ : ∃ w, stI m (nI (Nn m 0)) (Nn m 2) = w + 1 := ⟨stI m (nI (Nn m 0)) (Nn m 2) - 1, by omega⟩
        refine Pr.get C R (m (320962 + 562 * w + 1)) ?_ fun h' R' => ?_
        · have e0 : stC h 19 (stI m (nI (Nn m 0)) (Nn m 2)) = gP h (gP h 19 2) w := by unfold stC; rw [if_neg z, hw, Nat.add_sub_cancel]
          rw [e0] at cs
          obtain ⟨u0, u1⟩ := V.2.2.2.2.2.2.2.2.2.2.1 w (by omega)
          have uS := S.2.2.2.2.2.2.2.2.2.2.2.2.2.2.2.2.2.1 w u0
          simp (disch := omega) only [MX11_count, MX7_rulesNow, ↓reduceIte, Nat.reduceLT, Nat.reduceLeDiff, Nat.reduceEqDiff, ZL, nAdd, nMul, nSub, nLt, nLe, nEq, nCl, nDiv, nRem2, nM1, nM2, nM3, nM4, nM5, nM6, gg_in, gg_rf, gg_T, if_true, if_false, ↓lt_eq, ob_some, b2_some, up1_some, kd_sI, ln_sI, gP_sI, gI_sI, kd_rI, ln_rI, gP_rI, gI_rI, kd_bmp, ln_bmp, gP_bmp, gI_bmp, up_at, i0, i1, X.f, S.1, V.1, b0, cs, uS.1, u1.2.1, nX]
        · have e0 : stV (stI m (nI (Nn m 0)) (Nn m 2)) = nI (320962 + 562 * w) := by unfold stV; rw [if_neg z, hw, Nat.add_sub_cancel]
          have rs2 := rs h' R'
          rw [e0] at rs2
          simp (disch := omega) only [MX12_count, ↓reduceIte, Nat.reduceLT, Nat.reduceLeDiff, Nat.reduceEqDiff, ZL, nAdd, nMul, nSub, nLt, nLe, nEq, nCl, nDiv, nRem2, nM1, nM2, nM3, nM4, nM5, nM6, gg_in, gg_rf, gg_T, if_true, if_false, ↓lt_eq, ob_some, b2_some, up1_some, kd_sI, ln_sI, gP_sI, gI_sI, kd_rI, ln_rI, gP_rI, gI_rI, kd_bmp, ln_bmp, gP_bmp, gI_bmp, up_at, i0, i1, RS.f R'.1, R'.2.1, b0, rs2]
    · refine Pr.get C R (m 3) ?_ fun h' R' => ?_
      · simp (disch := omega) only [MX11_count, ↓reduceIte, Nat.reduceLT, Nat.reduceLeDiff, Nat.reduceEqDiff, ZL, nAdd, nMul, nSub, nLt, nLe, nEq, nCl, nDiv, nRem2, nM1, nM2, nM3, nM4, nM5, nM6, gg_in, gg_rf, gg_T, if_true, if_false, ↓lt_eq, ob_some, b2_some, up1_some, kd_sI, ln_sI, gP_sI, gI_sI, kd_rI, ln_rI, gP_rI, gI_rI, kd_bmp, ln_bmp, gP_bmp, gI_bmp, up_at, i0, i1, X.f, S.1, D.1, V.2.2.2.1, nX]
      · simp (disch := omega) only [MX12_count, ↓reduceIte, Nat.reduceLT, Nat.reduceLeDiff, Nat.reduceEqDiff, ZL, nAdd, nMul, nSub, nLt, nLe, nEq, nCl, nDiv, nRem2, nM1, nM2, nM3, nM4, nM5, nM6, gg_in, gg_rf, gg_T, if_true, if_false, ↓lt_eq, ob_some, b2_some, up1_some, kd_sI, ln_sI, gP_sI, gI_sI, kd_rI, ln_rI, gP_rI, gI_rI, kd_bmp, ln_bmp, gP_bmp, gI_bmp, up_at, i0, i1, RS.f R'.1, R'.2.1, b0, rs h' R', b3]
    · refine Pr.get C R (m 4) ?_ fun h' R' => ?_
      · simp (disch := omega) only [MX11_count, ↓reduceIte, Nat.reduceLT, Nat.reduceLeDiff, Nat.reduceEqDiff, ZL, nAdd, nMul, nSub, nLt, nLe, nEq, nCl, nDiv, nRem2, nM1, nM2, nM3, nM4, nM5, nM6, gg_in, gg_rf, gg_T, if_true, if_false, ↓lt_eq, ob_some, b2_some, up1_some, kd_sI, ln_sI, gP_sI, gI_sI, kd_rI, ln_rI, gP_rI, gI_rI, kd_bmp, ln_bmp, gP_bmp, gI_bmp, up_at, i0, i1, X.f, S.1, D.1, V.2.2.2.2.1, nX]
      · simp (disch := omega) only [MX12_count, ↓reduceIte, Nat.reduceLT, Nat.reduceLeDiff, Nat.reduceEqDiff, ZL, nAdd, nMul, nSub, nLt, nLe, nEq, nCl, nDiv, nRem2, nM1, nM2, nM3, nM4, nM5, nM6, gg_in, gg_rf, gg_T, if_true, if_false, ↓lt_eq, ob_some, b2_some, up1_some, kd_sI, ln_sI, gP_sI, gI_sI, kd_rI, ln_rI, gP_rI, gI_rI, kd_bmp, ln_bmp, gP_bmp, gI_bmp, up_at, i0, i1, RS.f R'.1, R'.2.1, b0, rs h' R', b4]
    · have cc := c_countState S V I (x := 0) (by omega)
      have dP : ∀ s, Decidable (ctP m 5 s) := fun _ => Classical.propDecidable _
      have ec : cN (ctP m 5) (Nn m 4) = cN (fun s => m (64630 + 852 * s + 4) = nI 0) (Nn m 4) := cN_congr _ fun s _ => by unfold ctP; simp
      refine Pr.get C R (nI (cN (fun s => m (64630 + 852 * s + 4) = nI 0) (Nn m 4))) ?_ fun h' R' => ?_
      · simp (disch := omega) only [MX11_count, ↓reduceIte, Nat.reduceLT, Nat.reduceLeDiff, Nat.reduceEqDiff, ZL, nAdd, nMul, nSub, nLt, nLe, nEq, nCl, nDiv, nRem2, nM1, nM2, nM3, nM4, nM5, nM6, gg_in, gg_rf, gg_T, if_true, if_false, ↓lt_eq, ob_some, b2_some, up1_some, kd_sI, ln_sI, gP_sI, gI_sI, kd_rI, ln_rI, gP_rI, gI_rI, kd_bmp, ln_bmp, gP_bmp, gI_bmp, up_at, i0, i1, X.f, S.1, cc, nX]
      · have R2 := R'.th (v := nI 0)
        have rc := r_count R2.1 R2.2.1 I (q := 5) (by omega) (by omega)
        rw [ec] at rc
        simp (disch := omega) only [MX12_count, ↓reduceIte, Nat.reduceLT, Nat.reduceLeDiff, Nat.reduceEqDiff, ZL, nAdd, nMul, nSub, nLt, nLe, nEq, nCl, nDiv, nRem2, nM1, nM2, nM3, nM4, nM5, nM6, gg_in, gg_rf, gg_T, if_true, if_false, ↓lt_eq, ob_some, b2_some, up1_some, kd_sI, ln_sI, gP_sI, gI_sI, kd_rI, ln_rI, gP_rI, gI_rI, kd_bmp, ln_bmp, gP_bmp, gI_bmp, up_at, i0, i1, RS.f R'.1, R'.2.1, b0, rs h' R', r_isIn_t, rc]
    · have cc := c_countState S V I (x := 1) (by omega)
      have dP : ∀ s, Decidable (ctP m 6 s) := fun _ => Classical.propDecidable _
      have ec : cN (ctP m 6) (Nn m 4) = cN (fun s => m (64630 + 852 * s + 4) = nI 1) (Nn m 4) := cN_congr _ fun s _ => by unfold ctP; simp
      refine Pr.get C R (nI (cN (fun s => m (64630 + 852 * s + 4) = nI 1) (Nn m 4))) ?_ fun h' R' => ?_
      · simp (disch := omega) only [MX11_count, ↓reduceIte, Nat.reduceLT, Nat.reduceLeDiff, Nat.reduceEqDiff, ZL, nAdd, nMul, nSub, nLt, nLe, nEq, nCl, nDiv, nRem2, nM1, nM2, nM3, nM4, nM5, nM6, gg_in, gg_rf, gg_T, if_true, if_false, ↓lt_eq, ob_some, b2_some, up1_some, kd_sI, ln_sI, gP_sI, gI_sI, kd_rI, ln_rI, gP_rI, gI_rI, kd_bmp, ln_bmp, gP_bmp, gI_bmp, up_at, i0, i1, X.f, S.1, cc, nX]
      · have R2 := R'.th (v := nI 0)
        have rc := r_count R2.1 R2.2.1 I (q := 6) (by omega) (by omega)
        rw [ec] at rc
        simp (disch := omega) only [MX12_count, ↓reduceIte, Nat.reduceLT, Nat.reduceLeDiff, Nat.reduceEqDiff, ZL, nAdd, nMul, nSub, nLt, nLe, nEq, nCl, nDiv, nRem2, nM1, nM2, nM3, nM4, nM5, nM6, gg_in, gg_rf, gg_T, if_true, if_false, ↓lt_eq, ob_some, b2_some, up1_some, kd_sI, ln_sI, gP_sI, gI_sI, kd_rI, ln_rI, gP_rI, gI_rI, kd_bmp, ln_bmp, gP_bmp, gI_bmp, up_at, i0, i1, RS.f R'.1, R'.2.1, b0, rs h' R', r_isIn_t, rc]
    · have cc := c_countState S V I (x := 2) (by omega)
      have dP : ∀ s, Decidable (ctP m 7 s) := fun _ => Classical.propDecidable _
      have ec : cN (ctP m 7) (Nn m 4) = cN (fun s => m (64630 + 852 * s + 4) = nI 2) (Nn m 4) := cN_congr _ fun s _ => by unfold ctP; simp
      refine Pr.get C R (nI (cN (fun s => m (64630 + 852 * s + 4) = nI 2) (Nn m 4))) ?_ fun h' R' => ?_
      · simp (disch := omega) only [MX11_count, ↓reduceIte, Nat.reduceLT, Nat.reduceLeDiff, Nat.reduceEqDiff, ZL, nAdd, nMul, nSub, nLt, nLe, nEq, nCl, nDiv, nRem2, nM1, nM2, nM3, nM4, nM5, nM6, gg_in, gg_rf, gg_T, if_true, if_false, ↓lt_eq, ob_some, b2_some, up1_some, kd_sI, ln_sI, gP_sI, gI_sI, kd_rI, ln_rI, gP_rI, gI_rI, kd_bmp, ln_bmp, gP_bmp, gI_bmp, up_at, i0, i1, X.f, S.1, cc, nX]
      · have R2 := R'.th (v := nI 0)
        have rc := r_count R2.1 R2.2.1 I (q := 7) (by omega) (by omega)
        rw [ec] at rc
        simp (disch := omega) only [MX12_count, ↓reduceIte, Nat.reduceLT, Nat.reduceLeDiff, Nat.reduceEqDiff, ZL, nAdd, nMul, nSub, nLt, nLe, nEq, nCl, nDiv, nRem2, nM1, nM2, nM3, nM4, nM5, nM6, gg_in, gg_rf, gg_T, if_true, if_false, ↓lt_eq, ob_some, b2_some, up1_some, kd_sI, ln_sI, gP_sI, gI_sI, kd_rI, ln_rI, gP_rI, gI_rI, kd_bmp, ln_bmp, gP_bmp, gI_bmp, up_at, i0, i1, RS.f R'.1, R'.2.1, b0, rs h' R', r_isIn_t, rc]
    · have cc := c_countCorr S V I
      have dP : ∀ s, Decidable (ctP m 8 s) := fun _ => Classical.propDecidable _
      have ec : cN (ctP m 8) (Nn m 4) = cN (fun s => m (64630 + 852 * s + 7) = nI 1) (Nn m 4) := cN_congr _ fun s _ => by unfold ctP; simp
      refine Pr.get C R (nI (cN (fun s => m (64630 + 852 * s + 7) = nI 1) (Nn m 4))) ?_ fun h' R' => ?_
      · simp (disch := omega) only [MX11_count, ↓reduceIte, Nat.reduceLT, Nat.reduceLeDiff, Nat.reduceEqDiff, ZL, nAdd, nMul, nSub, nLt, nLe, nEq, nCl, nDiv, nRem2, nM1, nM2, nM3, nM4, nM5, nM6, gg_in, gg_rf, gg_T, if_true, if_false, ↓lt_eq, ob_some, b2_some, up1_some, kd_sI, ln_sI, gP_sI, gI_sI, kd_rI, ln_rI, gP_rI, gI_rI, kd_bmp, ln_bmp, gP_bmp, gI_bmp, up_at, i0, i1, X.f, S.1, cc, nX]
      · have R2 := R'.th (v := nI 0)
        have rc := r_count R2.1 R2.2.1 I (q := 8) (by omega) (by omega)
        rw [ec] at rc
        simp (disch := omega) only [MX12_count, ↓reduceIte, Nat.reduceLT, Nat.reduceLeDiff, Nat.reduceEqDiff, ZL, nAdd, nMul, nSub, nLt, nLe, nEq, nCl, nDiv, nRem2, nM1, nM2, nM3, nM4, nM5, nM6, gg_in, gg_rf, gg_T, if_true, if_false, ↓lt_eq, ob_some, b2_some, up1_some, kd_sI, ln_sI, gP_sI, gI_sI, kd_rI, ln_rI, gP_rI, gI_rI, kd_bmp, ln_bmp, gP_bmp, gI_bmp, up_at, i0, i1, RS.f R'.1, R'.2.1, b0, rs h' R', r_isIn_t, rc]
    · have c1 := c_countRead S V I (a := 1) (b := 1) (by omega) (by omega)
      have c0 := c_countRead S V I (a := 0) (b := 1) (by omega) (by omega)
      have dP : ∀ s, Decidable (ctP m 9 s) := fun _ => Classical.propDecidable _
      obtain ⟨A, hA⟩ : ∃ A, A = cN (fun s => m (64630 + 852 * s + 4) = nI 0 ∧ (m (64630 + 852 * s + 10) + nI 2 * m (64630 + 852 * s + 11) = nI 0 ↔ 1 = 0) ∧ (wrN m (64630 + 852 * s) (Nn m (64630 + 852 * s + 9)) = 0 ↔ 1 = 0)) (Nn m 4) := ⟨_, rfl⟩
      obtain ⟨B, hB⟩ : ∃ B, B = cN (fun s => m (64630 + 852 * s + 4) = nI 0 ∧ (m (64630 + 852 * s + 10) + nI 2 * m (64630 + 852 * s + 11) = nI 0 ↔ 0 = 0) ∧ (wrN m (64630 + 852 * s) (Nn m (64630 + 852 * s + 9)) = 0 ↔ 1 = 0)) (Nn m 4) := ⟨_, rfl⟩
      have ec : A + B = cN (ctP m 9) (Nn m 4) := by
        rw [hA, hB]
        refine cN_add _ fun s _ => ⟨?_, ?_⟩
        · unfold ctP
          by_cases z1 : m (64630 + 852 * s + 10) + nI 2 * m (64630 + 852 * s + 11) = nI 0 <;> by_cases z2 : wrN m (64630 + 852 * s) (Nn m (64630 + 852 * s + 9)) = 0 <;> by_cases z3 : m (64630 + 852 * s + 4) = nI 0 <;> simp [z1, z2, z3]
        · by_cases z1 : m (64630 + 852 * s + 10) + nI 2 * m (64630 + 852 * s + 11) = nI 0 <;> simp [z1]
      rw [← hA] at c1
      rw [← hB] at c0
      refine Pr.get C R (nI (cN (ctP m 9) (Nn m 4))) ?_ fun h' R' => ?_
      · simp (disch := omega) only [MX11_count, ↓reduceIte, Nat.reduceLT, Nat.reduceLeDiff, Nat.reduceEqDiff, ZL, nAdd, nMul, nSub, nLt, nLe, nEq, nCl, nDiv, nRem2, nM1, nM2, nM3, nM4, nM5, nM6, gg_in, gg_rf, gg_T, if_true, if_false, ↓lt_eq, ob_some, b2_some, up1_some, kd_sI, ln_sI, gP_sI, gI_sI, kd_rI, ln_rI, gP_rI, gI_rI, kd_bmp, ln_bmp, gP_bmp, gI_bmp, up_at, i0, i1, X.f, S.1, c1, c0, ec, nX]
      · have R2 := R'.th (v := nI 0)
        have rc := r_count R2.1 R2.2.1 I (q := 9) (by omega) (by omega)
        simp (disch := omega) only [MX12_count, ↓reduceIte, Nat.reduceLT, Nat.reduceLeDiff, Nat.reduceEqDiff, ZL, nAdd, nMul, nSub, nLt, nLe, nEq, nCl, nDiv, nRem2, nM1, nM2, nM3, nM4, nM5, nM6, gg_in, gg_rf, gg_T, if_true, if_false, ↓lt_eq, ob_some, b2_some, up1_some, kd_sI, ln_sI, gP_sI, gI_sI, kd_rI, ln_rI, gP_rI, gI_rI, kd_bmp, ln_bmp, gP_bmp, gI_bmp, up_at, i0, i1, RS.f R'.1, R'.2.1, b0, rs h' R', r_isIn_t, rc]
    · refine Pr.get C R (m 5) ?_ fun h' R' => ?_
      · simp (disch := omega) only [MX11_count, ↓reduceIte, Nat.reduceLT, Nat.reduceLeDiff, Nat.reduceEqDiff, ZL, nAdd, nMul, nSub, nLt, nLe, nEq, nCl, nDiv, nRem2, nM1, nM2, nM3, nM4, nM5, nM6, gg_in, gg_rf, gg_T, if_true, if_false, ↓lt_eq, ob_some, b2_some, up1_some, kd_sI, ln_sI, gP_sI, gI_sI, kd_rI, ln_rI, gP_rI, gI_rI, kd_bmp, ln_bmp, gP_bmp, gI_bmp, up_at, i0, i1, X.f, S.1, D.1, DV.2.1, nX]
      · simp (disch := omega) only [MX12_count, ↓reduceIte, Nat.reduceLT, Nat.reduceLeDiff, Nat.reduceEqDiff, ZL, nAdd, nMul, nSub, nLt, nLe, nEq, nCl, nDiv, nRem2, nM1, nM2, nM3, nM4, nM5, nM6, gg_in, gg_rf, gg_T, if_true, if_false, ↓lt_eq, ob_some, b2_some, up1_some, kd_sI, ln_sI, gP_sI, gI_sI, kd_rI, ln_rI, gP_rI, gI_rI, kd_bmp, ln_bmp, gP_bmp, gI_bmp, up_at, i0, i1, RS.f R'.1, R'.2.1, b0, rs h' R', b5]
    · refine Pr.get C R (m 6) ?_ fun h' R' => ?_
      · simp (disch := omega) only [MX11_count, ↓reduceIte, Nat.reduceLT, Nat.reduceLeDiff, Nat.reduceEqDiff, ZL, nAdd, nMul, nSub, nLt, nLe, nEq, nCl, nDiv, nRem2, nM1, nM2, nM3, nM4, nM5, nM6, gg_in, gg_rf, gg_T, if_true, if_false, ↓lt_eq, ob_some, b2_some, up1_some, kd_sI, ln_sI, gP_sI, gI_sI, kd_rI, ln_rI, gP_rI, gI_rI, kd_bmp, ln_bmp, gP_bmp, gI_bmp, up_at, i0, i1, X.f, S.1, D.1, DV.1, nX]
      · simp (disch := omega) only [MX12_count, ↓reduceIte, Nat.reduceLT, Nat.reduceLeDiff, Nat.reduceEqDiff, ZL, nAdd, nMul, nSub, nLt, nLe, nEq, nCl, nDiv, nRem2, nM1, nM2, nM3, nM4, nM5, nM6, gg_in, gg_rf, gg_T, if_true, if_false, ↓lt_eq, ob_some, b2_some, up1_some, kd_sI, ln_sI, gP_sI, gI_sI, kd_rI, ln_rI, gP_rI, gI_rI, kd_bmp, ln_bmp, gP_bmp, gI_bmp, up_at, i0, i1, RS.f R'.1, R'.2.1, b0, rs h' R', b6]
    · have cj := c_jobs S V I
      refine Pr.get C R (nI (jbN m (Nn m 3))) ?_ fun h' R' => ?_
      · simp (disch := omega) only [MX11_count, ↓reduceIte, Nat.reduceLT, Nat.reduceLeDiff, Nat.reduceEqDiff, ZL, nAdd, nMul, nSub, nLt, nLe, nEq, nCl, nDiv, nRem2, nM1, nM2, nM3, nM4, nM5, nM6, gg_in, gg_rf, gg_T, if_true, if_false, ↓lt_eq, ob_some, b2_some, up1_some, kd_sI, ln_sI, gP_sI, gI_sI, kd_rI, ln_rI, gP_rI, gI_rI, kd_bmp, ln_bmp, gP_bmp, gI_bmp, up_at, i0, i1, X.f, S.1, cj, nX]
      · have R2 := R'.th (v := nI 0)
        have rj := r_jobs R2.1 R2.2.1 I
        simp (disch := omega) only [MX12_count, ↓reduceIte, Nat.reduceLT, Nat.reduceLeDiff, Nat.reduceEqDiff, ZL, nAdd, nMul, nSub, nLt, nLe, nEq, nCl, nDiv, nRem2, nM1, nM2, nM3, nM4, nM5, nM6, gg_in, gg_rf, gg_T, if_true, if_false, ↓lt_eq, ob_some, b2_some, up1_some, kd_sI, ln_sI, gP_sI, gI_sI, kd_rI, ln_rI, gP_rI, gI_rI, kd_bmp, ln_bmp, gP_bmp, gI_bmp, up_at, i0, i1, RS.f R'.1, R'.2.1, b0, rs h' R', rj]
    · refine Pr.get C R (m 2) ?_ fun h' R' => ?_
      · simp (disch := omega) only [MX11_count, ↓reduceIte, Nat.reduceLT, Nat.reduceLeDiff, Nat.reduceEqDiff, ZL, nAdd, nMul, nSub, nLt, nLe, nEq, nCl, nDiv, nRem2, nM1, nM2, nM3, nM4, nM5, nM6, gg_in, gg_rf, gg_T, if_true, if_false, ↓lt_eq, ob_some, b2_some, up1_some, kd_sI, ln_sI, gP_sI, gI_sI, kd_rI, ln_rI, gP_rI, gI_rI, kd_bmp, ln_bmp, gP_bmp, gI_bmp, up_at, i0, i1, X.f, S.1, D.1, V.2.2.1, nX]
      · simp (disch := omega) only [MX12_count, ↓reduceIte, Nat.reduceLT, Nat.reduceLeDiff, Nat.reduceEqDiff, ZL, nAdd, nMul, nSub, nLt, nLe, nEq, nCl, nDiv, nRem2, nM1, nM2, nM3, nM4, nM5, nM6, gg_in, gg_rf, gg_T, if_true, if_false, ↓lt_eq, ob_some, b2_some, up1_some, kd_sI, ln_sI, gP_sI, gI_sI, kd_rI, ln_rI, gP_rI, gI_rI, kd_bmp, ln_bmp, gP_bmp, gI_bmp, up_at, i0, i1, RS.f R'.1, R'.2.1, b0, rs h' R', b2]
    · have mn := c_rows I.1
      refine Pr.get C R (m 7) ?_ fun h' R' => ?_
      · simp (disch := omega) only [MX11_count, MX7_rowCount, ↓reduceIte, Nat.reduceLT, Nat.reduceLeDiff, Nat.reduceEqDiff, ZL, nAdd, nMul, nSub, nLt, nLe, nEq, nCl, nDiv, nRem2, nM1, nM2, nM3, nM4, nM5, nM6, gg_in, gg_rf, gg_T, if_true, if_false, ↓lt_eq, ob_some, b2_some, up1_some, kd_sI, ln_sI, gP_sI, gI_sI, kd_rI, ln_rI, gP_rI, gI_rI, kd_bmp, ln_bmp, gP_bmp, gI_bmp, up_at, i0, i1, X.f, S.1, V.1, b0, mn, b7, nX]
      · simp (disch := omega) only [MX12_count, ↓reduceIte, Nat.reduceLT, Nat.reduceLeDiff, Nat.reduceEqDiff, ZL, nAdd, nMul, nSub, nLt, nLe, nEq, nCl, nDiv, nRem2, nM1, nM2, nM3, nM4, nM5, nM6, gg_in, gg_rf, gg_T, if_true, if_false, ↓lt_eq, ob_some, b2_some, up1_some, kd_sI, ln_sI, gP_sI, gI_sI, kd_rI, ln_rI, gP_rI, gI_rI, kd_bmp, ln_bmp, gP_bmp, gI_bmp, up_at, i0, i1, RS.f R'.1, R'.2.1, b0, rs h' R', b7]
end
