/-! count -/
section
variable {tg : Nat → List Nat} {h h' : Hp} {m k t : Nat → Int32} {i n f : Int32} {r : Nat}
def lyW (m : Nat → Int32) (s : Nat) : Prop := m (64630 + 852 * s + 4) = nI 0 ∧ wrN m (64630 + 852 * s) (Nn m (64630 + 852 * s + 9)) ≠ 0
theorem bl {a b : Nat} (ha : a < 2) (hb : b < 2) : (nI a = nI b) = (a = b) := nEq (by omega) (by omega)
theorem c_countRead (S : RmS h r) (V : RmV h r m) (I : MI m) {a b : Nat} (ha : a < 2) (hb : b < 2) : MX7_countRead h r (nI a) (nI b) = some (nI (cN (fun s => m (64630 + 852 * s + 4) = nI 0 ∧ (m (64630 + 852 * s + 10) + nI 2 * m (64630 + 852 * s + 11) = nI 0 ↔ a = 0) ∧ (wrN m (64630 + 852 * s) (Nn m (64630 + 852 * s + 9)) = 0 ↔ b = 0)) (Nn m 4)), h) := by
  obtain ⟨-, -, -, -, ⟨b1, b2⟩, -⟩ := I.1.f
  unfold MX7_countRead MX7_countRead_5
  simp only [ZL]
  refine it_seq2 (fun j => (nI (cN (fun s => m (64630 + 852 * s + 4) = nI 0 ∧ (m (64630 + 852 * s + 10) + nI 2 * m (64630 + 852 * s + 11) = nI 0 ↔ a = 0) ∧ (wrN m (64630 + 852 * s) (Nn m (64630 + 852 * s + 9)) = 0 ↔ b = 0)) j), nI j, h)) (Nn m 4) rfl (fun j hj => ?_) ?_
  · show BX7_countRead_5 h r (nI a) (nI b) (nI (cN _ j)) (nI j) = _
    have es : cN (fun s => m (64630 + 852 * s + 4) = nI 0 ∧ (m (64630 + 852 * s + 10) + nI 2 * m (64630 + 852 * s + 11) = nI 0 ↔ a = 0) ∧ (wrN m (64630 + 852 * s) (Nn m (64630 + 852 * s + 9)) = 0 ↔ b = 0)) (j + 1) = cN (fun s => m (64630 + 852 * s + 4) = nI 0 ∧ (m (64630 + 852 * s + 10) + nI 2 * m (64630 + 852 * s + 11) = nI 0 ↔ a = 0) ∧ (wrN m (64630 + 852 * s) (Nn m (64630 + 852 * s + 9)) = 0 ↔ b = 0)) j + (if m (64630 + 852 * j + 4) = nI 0 ∧ (m (64630 + 852 * j + 10) + nI 2 * m (64630 + 852 * j + 11) = nI 0 ↔ a = 0) ∧ (wrN m (64630 + 852 * j) (Nn m (64630 + 852 * j + 9)) = 0 ↔ b = 0) then 1 else 0) := rfl
    rw [es]
    have hc := cN_le (P := fun s => m (64630 + 852 * s + 4) = nI 0 ∧ (m (64630 + 852 * s + 10) + nI 2 * m (64630 + 852 * s + 11) = nI 0 ↔ a = 0) ∧ (wrN m (64630 + 852 * s) (Nn m (64630 + 852 * s + 9)) = 0 ↔ b = 0)) j
    generalize cN (fun s => m (64630 + 852 * s + 4) = nI 0 ∧ (m (64630 + 852 * s + 10) + nI 2 * m (64630 + 852 * s + 11) = nI 0 ↔ a = 0) ∧ (wrN m (64630 + 852 * s) (Nn m (64630 + 852 * s + 9)) = 0 ↔ b = 0)) j = w at hc ⊢
    obtain ⟨y0, y1⟩ := V.2.2.2.2.2.2.2.2.2.1 j hj
    have yS := S.2.2.2.2.2.2.2.2.2.2.2.2.2.2.2.2.2.2.2 j y0
    have ow := c_ownSlug S (show j < 300 by omega) y0
    have wle := wrN_le m (64630 + 852 * j) (Nn m (64630 + 852 * j + 9))
    have n9 := ((I.2.2.1 j hj).2.2.2.2.2.2.2.2.2.2.2.1.eq (by omega)).2
    obtain ⟨w5, w8, w9, w3, w10, w11, w12, w14, w7, w2, w13, w6, wl, wb, w4⟩ := y1
    -- the marks: 0 or 1
    obtain ⟨x, hx, ex⟩ : ∃ x : Nat, x < 2 ∧ ((m (64630 + 852 * j + 10) + nI 2 * m (64630 + 852 * j + 11) = nI 0) ↔ x = 0) := by
      by_cases z : m (64630 + 852 * j + 10) + nI 2 * m (64630 + 852 * j + 11) = nI 0
      · exact ⟨0, by omega, by simp [z]⟩
      · exact ⟨1, by omega, by simp [z]⟩
    obtain ⟨y, hy, ey⟩ : ∃ y : Nat, y < 2 ∧ (wrN m (64630 + 852 * j) (Nn m (64630 + 852 * j + 9)) = 0 ↔ y = 0) := by
      by_cases z : wrN m (64630 + 852 * j) (Nn m (64630 + 852 * j + 9)) = 0
      · exact ⟨0, by omega, by simp [z]⟩
      · exact ⟨1, by omega, by simp [z]⟩
    have step : ∀ x' y' : Nat, x' < 2 → y' < 2 → (x' = 0 ↔ x = 0) → (y' = 0 ↔ y = 0) → MX7_countRead_50 h r (nI a) (nI b) (nI w) (nI j) (gP h (gP h r 10) j) (nI x') (nI y') = some (.inl (nI (w + (if m (64630 + 852 * j + 4) = nI 0 ∧ (m (64630 + 852 * j + 10) + nI 2 * m (64630 + 852 * j + 11) = nI 0 ↔ a = 0) ∧ (wrN m (64630 + 852 * j) (Nn m (64630 + 852 * j + 9)) = 0 ↔ b = 0) then 1 else 0)), nI (j + 1), h)) := fun x' y' hx' hy' e1 e2 => by
      unfold MX7_countRead_50 MX7_countRead_77 MX7_countRead_78
      rw [gg_t yS.1, w10]
      by_cases z1 : m (64630 + 852 * j + 4) = nI 0
      · by_cases z2 : x' = a
        · by_cases z3 : y' = b
          · rw [if_pos (show m (64630 + 852 * j + 4) = nI 0 ∧ (m (64630 + 852 * j + 10) + nI 2 * m (64630 + 852 * j + 11) = nI 0 ↔ a = 0) ∧ (wrN m (64630 + 852 * j) (Nn m (64630 + 852 * j + 9)) = 0 ↔ b = 0) from ⟨z1, ex.trans (by omega), ey.trans (by omega)⟩)]
            simp (disch := omega) only [↓reduceIte, Nat.reduceLT, Nat.reduceLeDiff, Nat.reduceEqDiff, ZL, nAdd, nMul, nSub, nLt, nLe, nEq, nCl, nDiv, nRem2, nM1, nM2, nM3, nM4, nM5, nM6, gg_in, gg_rf, gg_T, if_true, if_false, ↓lt_eq, ob_some, b2_some, up1_some, kd_sI, ln_sI, gP_sI, gI_sI, kd_rI, ln_rI, gP_rI, gI_rI, kd_bmp, ln_bmp, gP_bmp, gI_bmp, up_at, i0, i1, z1, z2, z3]
          · rw [if_neg (show ¬ (m (64630 + 852 * j + 4) = nI 0 ∧ (m (64630 + 852 * j + 10) + nI 2 * m (64630 + 852 * j + 11) = nI 0 ↔ a = 0) ∧ (wrN m (64630 + 852 * j) (Nn m (64630 + 852 * j + 9)) = 0 ↔ b = 0)) from fun q => by
              have := q.2.2
              rw [ey] at this
              omega)]
            simp (disch := omega) only [↓reduceIte, Nat.reduceLT, Nat.reduceLeDiff, Nat.reduceEqDiff, ZL, nAdd, nMul, nSub, nLt, nLe, nEq, nCl, nDiv, nRem2, nM1, nM2, nM3, nM4, nM5, nM6, gg_in, gg_rf, gg_T, if_true, if_false, ↓lt_eq, ob_some, b2_some, up1_some, kd_sI, ln_sI, gP_sI, gI_sI, kd_rI, ln_rI, gP_rI, gI_rI, kd_bmp, ln_bmp, gP_bmp, gI_bmp, up_at, i0, i1, z1, z2, if_neg z3]
        · rw [if_neg (show ¬ (m (64630 + 852 * j + 4) = nI 0 ∧ (m (64630 + 852 * j + 10) + nI 2 * m (64630 + 852 * j + 11) = nI 0 ↔ a = 0) ∧ (wrN m (64630 + 852 * j) (Nn m (64630 + 852 * j + 9)) = 0 ↔ b = 0)) from fun q => by
            have := q.2.1
            rw [ex] at this
            omega)]
          simp (disch := omega) only [↓reduceIte, Nat.reduceLT, Nat.reduceLeDiff, Nat.reduceEqDiff, ZL, nAdd, nMul, nSub, nLt, nLe, nEq, nCl, nDiv, nRem2, nM1, nM2, nM3, nM4, nM5, nM6, gg_in, gg_rf, gg_T, if_true, if_false, ↓lt_eq, ob_some, b2_some, up1_some, kd_sI, ln_sI, gP_sI, gI_sI, kd_rI, ln_rI, gP_rI, gI_rI, kd_bmp, ln_bmp, gP_bmp, gI_bmp, up_at, i0, i1, z1, if_neg z2]
      · simp only [ZL]
        rw [if_neg z1, if_neg (fun q => z1 q.1), nAdd, nAdd]
    unfold BX7_countRead_5 MX7_countRead_35
    simp only [ZL]
    rw [gg_t S.1, V.2.2.2.2.1, b1, if_neg (by rw [nLe (by omega) (by omega)]; omega), ow, b2_some, gg_t yS.1, w13]
    by_cases z1 : m (64630 + 852 * j + 10) + nI 2 * m (64630 + 852 * j + 11) = nI 0
    · rw [if_pos z1, gg_t yS.1, w4]
      by_cases z2 : wrN m (64630 + 852 * j) (Nn m (64630 + 852 * j + 9)) = 0
      · rw [z2, if_pos (by decide)]
        exact (step 0 0 (by omega) (by omega) ⟨fun _ => ex.mp z1, fun _ => rfl⟩ ⟨fun _ => ey.mp z2, fun _ => rfl⟩).trans (by rw [z2])
      · rw [if_neg (by rw [nLe (by omega) (by omega)]; omega)]
        exact step 0 1 (by omega) (by omega) ⟨fun _ => ex.mp z1, fun _ => rfl⟩ ⟨fun e => absurd e (by omega), fun e => absurd (ey.mpr e) z2⟩
    · rw [if_neg z1, gg_t yS.1, w4]
      by_cases z2 : wrN m (64630 + 852 * j) (Nn m (64630 + 852 * j + 9)) = 0
      · rw [z2, if_pos (by decide)]
        exact (step 1 0 (by omega) (by omega) ⟨fun e => absurd e (by omega), fun e => absurd (ex.mpr e) z1⟩ ⟨fun _ => ey.mp z2, fun _ => rfl⟩).trans (by rw [z2])
      · rw [if_neg (by rw [nLe (by omega) (by omega)]; omega)]
        exact step 1 1 (by omega) (by omega) ⟨fun e => absurd e (by omega), fun e => absurd (ex.mpr e) z1⟩ ⟨fun e => absurd e (by omega), fun e => absurd (ey.mpr e) z2⟩
  · show BX7_countRead_5 h r (nI a) (nI b) _ (nI (Nn m 4)) = _
    unfold BX7_countRead_5
    simp (disch := omega) only [↓reduceIte, Nat.reduceLT, Nat.reduceLeDiff, Nat.reduceEqDiff, ZL, nAdd, nMul, nSub, nLt, nLe, nEq, nCl, nDiv, nRem2, nM1, nM2, nM3, nM4, nM5, nM6, gg_in, gg_rf, gg_T, if_true, if_false, ↓lt_eq, ob_some, b2_some, up1_some, kd_sI, ln_sI, gP_sI, gI_sI, kd_rI, ln_rI, gP_rI, gI_rI, kd_bmp, ln_bmp, gP_bmp, gI_bmp, up_at, i0, i1, S.1, V.2.2.2.2.1, b1]
end
