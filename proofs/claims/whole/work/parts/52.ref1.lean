/-! the reference's small methods -/
section
variable {h : Hp}
theorem r_isIn (v a b : Int32) : MX12_isIn h v a b = some (if v < a then nI 0 else if b < v then nI 0 else nI 1) := by
  unfold MX12_isIn
  by_cases q1 : v < a
  · simp only [if_pos q1, ZL]
  · by_cases q2 : b < v
    · simp only [if_neg q1, if_pos q2, ZL]
    · simp only [if_neg q1, if_neg q2, ZL]
theorem r_part0 (q : Nat) : MX12_part0 h (nI q) = some (nI (130 + 645 * q)) := by
  unfold MX12_part0
  simp (disch := omega) only [ZL, nAdd, nMul, nSub, nLt, nLe, nEq, nCl, nDiv, nRem2]
theorem r_slug0 (q : Nat) : MX12_slug0 h (nI q) = some (nI (64630 + 852 * q)) := by
  unfold MX12_slug0
  simp (disch := omega) only [ZL, nAdd, nMul, nSub, nLt, nLe, nEq, nCl, nDiv, nRem2]
theorem r_machine0 (q : Nat) : MX12_machine0 h (nI q) = some (nI (320230 + 183 * q)) := by
  unfold MX12_machine0
  simp (disch := omega) only [ZL, nAdd, nMul, nSub, nLt, nLe, nEq, nCl, nDiv, nRem2]
/-- cell i of m is a number up to B -/
def oN (μ : Nat → Int32) (i B : Nat) : Prop := ∃ n, n ≤ B ∧ μ i = nI n
def Nn (μ : Nat → Int32) (i : Nat) : Nat := (μ i).toNatClampNeg
theorem oN.eq {μ : Nat → Int32} {i B : Nat} (o : oN μ i B) (hB : B < 2147483648) : μ i = nI (Nn μ i) ∧ Nn μ i ≤ B := by
  obtain ⟨n, h1, h2⟩ := o
  have e : Nn μ i = n := by
    unfold Nn
    rw [h2, nCl (by omega)]
  rw [e]
  exact ⟨h2, h1⟩
theorem r_isMachine (R : RS h) (v : Int32) (o : oN (gI h 74) 3 4) : (MX12_isMachine h 73 v = some (nI 0) ∧ ∀ k, k < Nn (gI h 74) 3 → v ≠ nI k) ∨ ∃ k, k < Nn (gI h 74) 3 ∧ k < 4 ∧ v = nI k ∧ MX12_isMachine h 73 v = some (nI 1) := by
  obtain ⟨e, b⟩ := o.eq (by omega)
  unfold MX12_isMachine
  rcases arg v (Nn (gI h 74) 3) (by omega) with hv | hv | ⟨k, hk, rfl⟩
  · refine Or.inl ⟨?_, fun k hk e2 => ?_⟩
    · simp only [ZL, if_pos hv]
    · subst e2
      rw [nLt (by omega) (by omega)] at hv
      omega
  · refine Or.inl ⟨?_, fun k hk e2 => ?_⟩
    · by_cases h0 : v < nI 0
      · simp only [ZL, if_pos h0]
      · simp (disch := omega) only [↓reduceIte, Nat.reduceLT, Nat.reduceLeDiff, Nat.reduceEqDiff, ZL, nAdd, nMul, nSub, nLt, nLe, nEq, nCl, nDiv, nRem2, nM1, nM2, nM3, nM4, nM5, nM6, gg_in, gg_rf, gg_T, if_true, if_false, ↓lt_eq, ob_some, b2_some, up1_some, kd_sI, ln_sI, gP_sI, gI_sI, kd_rI, ln_rI, gP_rI, gI_rI, kd_bmp, ln_bmp, gP_bmp, gI_bmp, up_at, i0, i1, RS.f R, e, hv]
    · subst e2
      rw [nLe (by omega) (by omega)] at hv
      omega
  · refine Or.inr ⟨k, hk, by omega, rfl, ?_⟩
    simp (disch := omega) only [↓reduceIte, Nat.reduceLT, Nat.reduceLeDiff, Nat.reduceEqDiff, ZL, nAdd, nMul, nSub, nLt, nLe, nEq, nCl, nDiv, nRem2, nM1, nM2, nM3, nM4, nM5, nM6, gg_in, gg_rf, gg_T, if_true, if_false, ↓lt_eq, ob_some, b2_some, up1_some, kd_sI, ln_sI, gP_sI, gI_sI, kd_rI, ln_rI, gP_rI, gI_rI, kd_bmp, ln_bmp, gP_bmp, gI_bmp, up_at, i0, i1, RS.f R, e]
end
