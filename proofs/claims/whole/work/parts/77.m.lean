/-! proof: the pair -/
section
variable {tg : Nat → List Nat} {h h' : Hp} {m k t : Nat → Int32} {i n f : Int32} {r : Nat}
def mkP (m : Nat → Int32) (c s : Nat) : Prop := m (64630 + 852 * s + 4) = nI 0 ∧ (m (64630 + 852 * s + 10) + nI 2 * m (64630 + 852 * s + 11)) &&& nI c = nI c
def rdP (m : Nat → Int32) (a b s : Nat) : Prop := m (64630 + 852 * s + 4) = nI 0 ∧ (m (64630 + 852 * s + 10) + nI 2 * m (64630 + 852 * s + 11) = nI 0 ↔ a = 0) ∧ (wrN m (64630 + 852 * s) (Nn m (64630 + 852 * s + 9)) = 0 ↔ b = 0)
theorem mkT : ∀ x, x < 2 → ∀ y, y < 2 → ((nI (x + 2 * y) &&& nI 1 = nI 1) ↔ x = 1) ∧ ((nI (x + 2 * y) &&& nI 2 = nI 2) ↔ y = 1) ∧ ((nI (x + 2 * y) &&& nI 3 = nI 3) ↔ x * y = 1) := by decide
theorem c_countMarked (S : RmS h r) (V : RmV h r m) (I : MI m) (c : Nat) [dP : ∀ s, Decidable (mkP m c s)] : MX7_countMarked h r (nI c) = some (nI (cN (mkP m c) (Nn m 4)), h) := by
  obtain ⟨-, -, -, -, ⟨b1, b2⟩, -⟩ := I.1.f
  unfold MX7_countMarked MX7_countMarked_4
  simp only [ZL]
  refine it_seq2 (fun j => (nI (cN (mkP m c) j), nI j, h)) (Nn m 4) rfl (fun j hj => ?_) ?_
  · show BX7_countMarked_4 h r (nI c) (nI (cN (mkP m c) j)) (nI j) = _
    have es : cN (mkP m c) (j + 1) = cN (mkP m c) j + (if mkP m c j then 1 else 0) := rfl
    rw [es]
    generalize cN (mkP m c) j = w
    obtain ⟨y0, y1⟩ := V.2.2.2.2.2.2.2.2.2.1 j hj
    have yS := S.2.2.2.2.2.2.2.2.2.2.2.2.2.2.2.2.2.2.2 j y0
    have ow := c_ownSlug S (show j < 300 by omega) y0
    have w10 := y1.2.2.2.2.1
    have w13 := y1.2.2.2.2.2.2.2.2.2.2.1
    unfold BX7_countMarked_4 MX7_countMarked_43 MX7_countMarked_44
    simp only [ZL]
    rw [gg_t S.1, V.2.2.2.2.1, b1, if_neg (by rw [nLe (by omega) (by omega)]; omega), ow, b2_some, gg_t yS.1, w10, w13]
    by_cases z1 : m (64630 + 852 * j + 4) = nI 0
    · by_cases z2 : (m (64630 + 852 * j + 10) + nI 2 * m (64630 + 852 * j + 11)) &&& nI c = nI c
      · rw [if_pos z1, if_pos z2, if_pos (show mkP m c j from ⟨z1, z2⟩), nAdd, nAdd]
      · rw [if_pos z1, if_neg z2, if_neg (show ¬ mkP m c j from fun q => z2 q.2), nAdd, nAdd]
    · rw [if_neg z1, if_neg (show ¬ mkP m c j from fun q => z1 q.1), nAdd, nAdd]
  · show BX7_countMarked_4 h r (nI c) _ (nI (Nn m 4)) = _
    unfold BX7_countMarked_4
    simp (disch := omega) only [↓reduceIte, Nat.reduceLT, Nat.reduceLeDiff, Nat.reduceEqDiff, ZL, nAdd, nMul, nSub, nLt, nLe, nEq, nCl, nDiv, nRem2, nM1, nM2, nM3, nM4, nM5, nM6, gg_in, gg_rf, gg_T, if_true, if_false, ↓lt_eq, ob_some, b2_some, up1_some, kd_sI, ln_sI, gP_sI, gI_sI, kd_rI, ln_rI, gP_rI, gI_rI, kd_bmp, ln_bmp, gP_bmp, gI_bmp, up_at, i0, i1, S.1, V.2.2.2.2.1, b1]
theorem r_proof (R : RS h) (e : gI h 74 = m) (I : MI m) (v : Int32) [d1 : ∀ s, Decidable (mkP m 1 s)] [d2 : ∀ s, Decidable (mkP m 2 s)] [d3 : ∀ s, Decidable (mkP m 3 s)] [d4 : ∀ s, Decidable (rdP m 1 0 s)] [d5 : ∀ s, Decidable (rdP m 0 1 s)] : MX12_proof_43 h 73 v (nI 0) (nI 0) (nI 0) (nI 0) (nI 0) (nI 0) = MX12_proof_182 h v (nI (cN (mkP m 1) (Nn m 4))) (nI (cN (mkP m 2) (Nn m 4))) (nI (cN (mkP m 3) (Nn m 4))) (nI (cN (rdP m 1 0) (Nn m 4))) (nI (cN (rdP m 0 1) (Nn m 4))) := by
  obtain ⟨-, -, -, -, ⟨b1, b2⟩, -⟩ := I.1.f
  unfold MX12_proof_43
  refine it_seq (fun j => (nI (cN (mkP m 1) j), nI (cN (mkP m 2) j), nI (cN (mkP m 3) j), nI (cN (rdP m 1 0) j), nI (cN (rdP m 0 1) j), nI j)) (Nn m 4) (fun j hj => ?_) (it_exit ?_)
  · show BX12_proof_43 h 73 v (nI (cN (mkP m 1) j)) (nI (cN (mkP m 2) j)) (nI (cN (mkP m 3) j)) (nI (cN (rdP m 1 0) j)) (nI (cN (rdP m 0 1) j)) (nI j) = some (.inl (nI (cN (mkP m 1) j + (if mkP m 1 j then 1 else 0)), nI (cN (mkP m 2) j + (if mkP m 2 j then 1 else 0)), nI (cN (mkP m 3) j + (if mkP m 3 j then 1 else 0)), nI (cN (rdP m 1 0) j + (if rdP m 1 0 j then 1 else 0)), nI (cN (rdP m 0 1) j + (if rdP m 0 1 j then 1 else 0)), nI (j + 1)))
    generalize cN (mkP m 1) j = u1
    generalize cN (mkP m 2) j = u2
    generalize cN (mkP m 3) j = u3
    generalize cN (rdP m 1 0) j = u4
    generalize cN (rdP m 0 1) j = u5
    have hI := I.2.2.1 j hj
    obtain ⟨x4, hx4, ex4⟩ := hI.2.2.2.2.2.2.2.2.1
    obtain ⟨x, hx, ex⟩ := hI.2.2.2.2.2.2.2.2.2.2.2.2.1
    obtain ⟨y, hy, ey⟩ := hI.2.2.2.2.2.2.2.2.2.2.2.2.2.1
    have eW := r_isWrong R e (show j < 300 by omega) hI.2.2.2.2.2.2.2.2.2.2.2.1
    have T := mkT x (by omega) y (by omega)
    have em : m (64630 + 852 * j + 10) + nI 2 * m (64630 + 852 * j + 11) = nI (x + 2 * y) := by rw [ex, ey, nMul, nAdd]
    have a11 : 64630 + 852 * j + 10 + 1 = 64630 + 852 * j + 11 := by omega
    by_cases z4 : x4 = 0
    · subst z4
      have e1 : (if mkP m 1 j then 1 else 0) = x := by
        by_cases z : x = 1
        · rw [if_pos ⟨ex4, by rw [em]; exact T.1.mpr z⟩, z]
        · rw [if_neg (fun q => z (T.1.mp (by rw [← em]; exact q.2)))]; omega
      have e2 : (if mkP m 2 j then 1 else 0) = y := by
        by_cases z : y = 1
        · rw [if_pos ⟨ex4, by rw [em]; exact T.2.1.mpr z⟩, z]
        · rw [if_neg (fun q => z (T.2.1.mp (by rw [← em]; exact q.2)))]; omega
      have e3 : (if mkP m 3 j then 1 else 0) = x * y := by
        by_cases z : x * y = 1
        · rw [if_pos ⟨ex4, by rw [em]; exact T.2.2.mpr z⟩, z]
        · rw [if_neg (fun q => z (T.2.2.mp (by rw [← em]; exact q.2)))]
          rcases (show x = 0 ∨ x = 1 by omega) with rfl | rfl
          · omega
          · rcases (show y = 0 ∨ y = 1 by omega) with rfl | rfl <;> omega
      rw [e1, e2, e3]
      have s0 : (m (64630 + 852 * j + 10) + nI 2 * m (64630 + 852 * j + 11) = nI 0) ↔ x + 2 * y = 0 := by rw [em, nEq (by omega) (by omega)]
      by_cases zw : wrN m (64630 + 852 * j) (Nn m (64630 + 852 * j + 9)) = 0
      · rw [if_pos zw] at eW
        rw [if_neg (show ¬ rdP m 0 1 j from fun q => by have := q.2.2.mp zw; omega)]
        by_cases zx : x + 2 * y = 0
        · rw [if_neg (show ¬ rdP m 1 0 j from fun q => by have := q.2.1.mp (s0.mpr zx); omega)]
          obtain ⟨rfl, rfl⟩ : x = 0 ∧ y = 0 := by omega
          simp (disch := omega) only [BX12_proof_43, MX12_proof_149, MX12_proof_150, MX12_proof_172, MX12_proof_173, ↓reduceIte, Nat.reduceLT, Nat.reduceLeDiff, Nat.reduceEqDiff, ZL, nAdd, nMul, nSub, nLt, nLe, nEq, nCl, nDiv, nRem2, nM1, nM2, nM3, nM4, nM5, nM6, gg_in, gg_rf, gg_T, if_true, if_false, ↓lt_eq, ob_some, b2_some, up1_some, kd_sI, ln_sI, gP_sI, gI_sI, kd_rI, ln_rI, gP_rI, gI_rI, kd_bmp, ln_bmp, gP_bmp, gI_bmp, up_at, i0, i1, RS.f R, e, b1, r_slug0, ex4, ex, ey, a11, eW]
        · rw [if_pos (show rdP m 1 0 j from ⟨ex4, ⟨fun q => absurd (s0.mp q) zx, fun q => absurd q (by omega)⟩, ⟨fun _ => rfl, fun _ => zw⟩⟩)]
          simp (disch := omega) only [BX12_proof_43, MX12_proof_149, MX12_proof_150, MX12_proof_172, MX12_proof_173, ↓reduceIte, Nat.reduceLT, Nat.reduceLeDiff, Nat.reduceEqDiff, ZL, nAdd, nMul, nSub, nLt, nLe, nEq, nCl, nDiv, nRem2, nM1, nM2, nM3, nM4, nM5, nM6, gg_in, gg_rf, gg_T, if_true, if_false, ↓lt_eq, ob_some, b2_some, up1_some, kd_sI, ln_sI, gP_sI, gI_sI, kd_rI, ln_rI, gP_rI, gI_rI, kd_bmp, ln_bmp, gP_bmp, gI_bmp, up_at, i0, i1, RS.f R, e, b1, r_slug0, ex4, ex, ey, a11, eW]
      · rw [if_neg zw] at eW
        rw [if_neg (show ¬ rdP m 1 0 j from fun q => zw (q.2.2.mpr rfl))]
        by_cases zx : x + 2 * y = 0
        · rw [if_pos (show rdP m 0 1 j from ⟨ex4, ⟨fun _ => rfl, fun _ => s0.mpr zx⟩, ⟨fun q => absurd q zw, fun q => absurd q (by omega)⟩⟩)]
          obtain ⟨rfl, rfl⟩ : x = 0 ∧ y = 0 := by omega
          simp (disch := omega) only [BX12_proof_43, MX12_proof_149, MX12_proof_150, MX12_proof_172, MX12_proof_173, ↓reduceIte, Nat.reduceLT, Nat.reduceLeDiff, Nat.reduceEqDiff, ZL, nAdd, nMul, nSub, nLt, nLe, nEq, nCl, nDiv, nRem2, nM1, nM2, nM3, nM4, nM5, nM6, gg_in, gg_rf, gg_T, if_true, if_false, ↓lt_eq, ob_some, b2_some, up1_some, kd_sI, ln_sI, gP_sI, gI_sI, kd_rI, ln_rI, gP_rI, gI_rI, kd_bmp, ln_bmp, gP_bmp, gI_bmp, up_at, i0, i1, RS.f R, e, b1, r_slug0, ex4, ex, ey, a11, eW]
        · rw [if_neg (show ¬ rdP m 0 1 j from fun q => zx (s0.mp (q.2.1.mpr rfl)))]
          simp (disch := omega) only [BX12_proof_43, MX12_proof_149, MX12_proof_150, MX12_proof_172, MX12_proof_173, ↓reduceIte, Nat.reduceLT, Nat.reduceLeDiff, Nat.reduceEqDiff, ZL, nAdd, nMul, nSub, nLt, nLe, nEq, nCl, nDiv, nRem2, nM1, nM2, nM3, nM4, nM5, nM6, gg_in, gg_rf, gg_T, if_true, if_false, ↓lt_eq, ob_some, b2_some, up1_some, kd_sI, ln_sI, gP_sI, gI_sI, kd_rI, ln_rI, gP_rI, gI_rI, kd_bmp, ln_bmp, gP_bmp, gI_bmp, up_at, i0, i1, RS.f R, e, b1, r_slug0, ex4, ex, ey, a11, eW]
    · have n0 : ¬ m (64630 + 852 * j + 4) = nI 0 := by
        rw [ex4, nEq (by omega) (by omega)]
        exact z4
      rw [if_neg (show ¬ mkP m 1 j from fun q => n0 q.1), if_neg (show ¬ mkP m 2 j from fun q => n0 q.1), if_neg (show ¬ mkP m 3 j from fun q => n0 q.1), if_neg (show ¬ rdP m 1 0 j from fun q => n0 q.1), if_neg (show ¬ rdP m 0 1 j from fun q => n0 q.1)]
      simp (disch := omega) only [BX12_proof_43, ↓reduceIte, Nat.reduceLT, Nat.reduceLeDiff, Nat.reduceEqDiff, ZL, nAdd, nMul, nSub, nLt, nLe, nEq, nCl, nDiv, nRem2, nM1, nM2, nM3, nM4, nM5, nM6, gg_in, gg_rf, gg_T, if_true, if_false, ↓lt_eq, ob_some, b2_some, up1_some, kd_sI, ln_sI, gP_sI, gI_sI, kd_rI, ln_rI, gP_rI, gI_rI, kd_bmp, ln_bmp, gP_bmp, gI_bmp, up_at, i0, i1, RS.f R, e, b1, r_slug0, ex4, Nat.add_zero]
  · show BX12_proof_43 h 73 v _ _ _ _ _ (nI (Nn m 4)) = _
    unfold BX12_proof_43
    simp only [ZL]
    rw [gg_t (RS.f R).1, gg_t (by simp only [RS.f R]), gg_in (by simp only [RS.f R]; omega) (by simp only [RS.f R]; omega), if_pos (by simp (disch := omega) only [↓reduceIte, Nat.reduceLT, Nat.reduceLeDiff, Nat.reduceEqDiff, ZL, nAdd, nMul, nSub, nLt, nLe, nEq, nCl, nDiv, nRem2, nM1, nM2, nM3, nM4, nM5, nM6, gg_in, gg_rf, gg_T, if_true, if_false, ↓lt_eq, ob_some, b2_some, up1_some, kd_sI, ln_sI, gP_sI, gI_sI, kd_rI, ln_rI, gP_rI, gI_rI, kd_bmp, ln_bmp, gP_bmp, gI_bmp, up_at, i0, i1, RS.f R, e, b1, Nat.le_refl])]
end
