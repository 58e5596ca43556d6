/-! parts, machines, slugs: found on both sides -/
theorem ni_c {v : Int32} {N : Nat} (hN : N < 2147483648) (h : ∀ k, k < N → v ≠ nI k) : v < nI 0 ∨ (¬ v < nI 0 ∧ nI N ≤ v ∧ ¬ v < nI N) := by
  rcases arg v N hN with q | q | ⟨k, hk, rfl⟩
  · exact Or.inl q
  · by_cases q0 : v < nI 0
    · exact Or.inl q0
    · refine Or.inr ⟨q0, q, fun z => ?_⟩
      rw [Int32.le_iff_toInt_le] at q
      rw [Int32.lt_iff_toInt_lt] at z
      omega
  · exact absurd rfl (h k hk)
theorem ni_d (v : Int32) (N : Nat) : (∀ k, k < N → v ≠ nI k) ∨ ∃ k, k < N ∧ v = nI k := by
  by_cases q : ∃ k, k < N ∧ v = nI k
  · exact Or.inr q
  · exact Or.inl (fun k hk e => q ⟨k, hk, e⟩)
section
variable {h : Hp} {m : Nat → Int32} {r : Nat}
theorem MIb.f (B : MIb m) : (m 0 = nI (Nn m 0) ∧ Nn m 0 ≤ 600) ∧ (m 1 = nI (Nn m 1) ∧ Nn m 1 ≤ 20) ∧ (m 2 = nI (Nn m 2) ∧ Nn m 2 ≤ 10) ∧ (m 3 = nI (Nn m 3) ∧ Nn m 3 ≤ 4) ∧ (m 4 = nI (Nn m 4) ∧ Nn m 4 ≤ 300) ∧ (m 5 = nI (Nn m 5) ∧ Nn m 5 ≤ 200) ∧ (m 6 = nI (Nn m 6) ∧ Nn m 6 ≤ 8) ∧ (m 7 = nI (Nn m 7) ∧ Nn m 7 = min 8 (Nn m 0)) := by
  obtain ⟨b0, b1, b2, b3, b4, b5, b6, b7, -⟩ := B
  have e7 : Nn m 7 = min 8 (Nn m 0) := by
    unfold Nn at b7 ⊢
    rw [b7, nCl (by omega)]
  refine ⟨b0.eq (by omega), b1.eq (by omega), b2.eq (by omega), b3.eq (by omega), b4.eq (by omega), b5.eq (by omega), b6.eq (by omega), ?_, e7⟩
  rw [e7, b7]
theorem r_isMachine_f (R : RS h) (e : gI h 74 = m) (B : MIb m) {v : Int32} (hv : ∀ k, k < Nn m 3 → v ≠ nI k) : MX12_isMachine h 73 v = some (nI 0) := by
  obtain ⟨-, -, -, ⟨b1, b2⟩, -⟩ := B.f
  unfold MX12_isMachine
  rcases ni_c (by omega) hv with q | ⟨q0, q, -⟩
  · simp only [ZL, if_pos q]
  · simp (disch := omega) only [↓reduceIte, Nat.reduceLT, Nat.reduceLeDiff, Nat.reduceEqDiff, ZL, nAdd, nMul, nSub, nLt, nLe, nEq, nCl, nDiv, nRem2, nM1, nM2, nM3, nM4, nM5, nM6, gg_in, gg_rf, gg_T, if_true, if_false, ↓lt_eq, ob_some, b2_some, up1_some, kd_sI, ln_sI, gP_sI, gI_sI, kd_rI, ln_rI, gP_rI, gI_rI, kd_bmp, ln_bmp, gP_bmp, gI_bmp, up_at, i0, i1, RS.f R, e, b1, q, q0]
theorem r_isMachine_t (R : RS h) (e : gI h 74 = m) (B : MIb m) {k : Nat} (hk : k < Nn m 3) : MX12_isMachine h 73 (nI k) = some (nI 1) := by
  obtain ⟨-, -, -, ⟨b1, b2⟩, -⟩ := B.f
  unfold MX12_isMachine
  simp (disch := omega) only [↓reduceIte, Nat.reduceLT, Nat.reduceLeDiff, Nat.reduceEqDiff, ZL, nAdd, nMul, nSub, nLt, nLe, nEq, nCl, nDiv, nRem2, nM1, nM2, nM3, nM4, nM5, nM6, gg_in, gg_rf, gg_T, if_true, if_false, ↓lt_eq, ob_some, b2_some, up1_some, kd_sI, ln_sI, gP_sI, gI_sI, kd_rI, ln_rI, gP_rI, gI_rI, kd_bmp, ln_bmp, gP_bmp, gI_bmp, up_at, i0, i1, RS.f R, e, b1]
theorem r_isSlug_f (R : RS h) (e : gI h 74 = m) (B : MIb m) {v : Int32} (hv : ∀ k, k < Nn m 4 → v ≠ nI k) : MX12_isSlug h 73 v = some (nI 0) := by
  obtain ⟨-, -, -, -, ⟨b1, b2⟩, -⟩ := B.f
  unfold MX12_isSlug
  rcases ni_c (by omega) hv with q | ⟨q0, q, -⟩
  · simp only [ZL, if_pos q]
  · simp (disch := omega) only [↓reduceIte, Nat.reduceLT, Nat.reduceLeDiff, Nat.reduceEqDiff, ZL, nAdd, nMul, nSub, nLt, nLe, nEq, nCl, nDiv, nRem2, nM1, nM2, nM3, nM4, nM5, nM6, gg_in, gg_rf, gg_T, if_true, if_false, ↓lt_eq, ob_some, b2_some, up1_some, kd_sI, ln_sI, gP_sI, gI_sI, kd_rI, ln_rI, gP_rI, gI_rI, kd_bmp, ln_bmp, gP_bmp, gI_bmp, up_at, i0, i1, RS.f R, e, b1, q, q0]
theorem r_isSlug_t (R : RS h) (e : gI h 74 = m) (B : MIb m) {k : Nat} (hk : k < Nn m 4) : MX12_isSlug h 73 (nI k) = some (nI 1) := by
  obtain ⟨-, -, -, -, ⟨b1, b2⟩, -⟩ := B.f
  unfold MX12_isSlug
  simp (disch := omega) only [↓reduceIte, Nat.reduceLT, Nat.reduceLeDiff, Nat.reduceEqDiff, ZL, nAdd, nMul, nSub, nLt, nLe, nEq, nCl, nDiv, nRem2, nM1, nM2, nM3, nM4, nM5, nM6, gg_in, gg_rf, gg_T, if_true, if_false, ↓lt_eq, ob_some, b2_some, up1_some, kd_sI, ln_sI, gP_sI, gI_sI, kd_rI, ln_rI, gP_rI, gI_rI, kd_bmp, ln_bmp, gP_bmp, gI_bmp, up_at, i0, i1, RS.f R, e, b1]
theorem vP.d (m : Nat → Int32) (v : Int32) : (∀ q, vP m q → v ≠ nI q) ∨ ∃ q, vP m q ∧ v = nI q := by
  by_cases q : ∃ q, vP m q ∧ v = nI q
  · exact Or.inr q
  · exact Or.inl (fun k hk e => q ⟨k, hk, e⟩)
/-- what is no part: below 0, or too large, or no part of its story -/
theorem vP.no (B : MIb m) {v : Int32} (hv : ∀ q, vP m q → v ≠ nI q) : v < nI 0 ∨ ∃ q, q < 2147483648 ∧ v = nI q ∧ (Nn m 1 ≤ q / 5 ∨ (q / 5 < Nn m 1 ∧ q < 100 ∧ oN m (110 + q / 5) 5 ∧ Nn m (110 + q / 5) ≤ q % 5)) := by
  rcases arg2 v with q | ⟨q, hq, rfl⟩
  · exact Or.inl q
  · refine Or.inr ⟨q, hq, rfl, ?_⟩
    by_cases q1 : q / 5 < Nn m 1
    · obtain ⟨-, ⟨-, b⟩, -⟩ := B.f
      have h1 := B.2.2.2.2.2.2.2.2.2 (q / 5) q1
      refine Or.inr ⟨q1, by omega, h1.2.2.1, ?_⟩
      by_cases q2 : q % 5 < Nn m (110 + q / 5)
      · exact absurd rfl (hv q ⟨by omega, q1, q2⟩)
      · omega
    · exact Or.inl (by omega)
theorem r_isPart_f (R : RS h) (e : gI h 74 = m) (B : MIb m) {v : Int32} (hv : ∀ q, vP m q → v ≠ nI q) : MX12_isPart h 73 v = some (nI 0) := by
  obtain ⟨-, ⟨b1, b2⟩, -⟩ := B.f
  unfold MX12_isPart
  rcases vP.no B hv with q | ⟨q, hq, rfl, q1 | ⟨q1, q2, o, q3⟩⟩
  · simp only [ZL, if_pos q]
  · simp (disch := omega) only [↓reduceIte, Nat.reduceLT, Nat.reduceLeDiff, Nat.reduceEqDiff, ZL, nAdd, nMul, nSub, nLt, nLe, nEq, nCl, nDiv, nRem2, nM1, nM2, nM3, nM4, nM5, nM6, gg_in, gg_rf, gg_T, if_true, if_false, ↓lt_eq, ob_some, b2_some, up1_some, kd_sI, ln_sI, gP_sI, gI_sI, kd_rI, ln_rI, gP_rI, gI_rI, kd_bmp, ln_bmp, gP_bmp, gI_bmp, up_at, i0, i1, RS.f R, e, b1]
  · obtain ⟨o1, o2⟩ := o.eq (by omega)
    simp (disch := omega) only [↓reduceIte, Nat.reduceLT, Nat.reduceLeDiff, Nat.reduceEqDiff, ZL, nAdd, nMul, nSub, nLt, nLe, nEq, nCl, nDiv, nRem2, nM1, nM2, nM3, nM4, nM5, nM6, gg_in, gg_rf, gg_T, if_true, if_false, ↓lt_eq, ob_some, b2_some, up1_some, kd_sI, ln_sI, gP_sI, gI_sI, kd_rI, ln_rI, gP_rI, gI_rI, kd_bmp, ln_bmp, gP_bmp, gI_bmp, up_at, i0, i1, RS.f R, e, b1, o1]
theorem r_isPart_t (R : RS h) (e : gI h 74 = m) (B : MIb m) {q : Nat} (hq : vP m q) : MX12_isPart h 73 (nI q) = some (nI 1) := by
  obtain ⟨-, ⟨b1, b2⟩, -⟩ := B.f
  obtain ⟨q0, q1, q2⟩ := hq
  obtain ⟨o1, o2⟩ := (B.2.2.2.2.2.2.2.2.2 (q / 5) q1).2.2.1.eq (by omega)
  unfold MX12_isPart
  simp (disch := omega) only [↓reduceIte, Nat.reduceLT, Nat.reduceLeDiff, Nat.reduceEqDiff, ZL, nAdd, nMul, nSub, nLt, nLe, nEq, nCl, nDiv, nRem2, nM1, nM2, nM3, nM4, nM5, nM6, gg_in, gg_rf, gg_T, if_true, if_false, ↓lt_eq, ob_some, b2_some, up1_some, kd_sI, ln_sI, gP_sI, gI_sI, kd_rI, ln_rI, gP_rI, gI_rI, kd_bmp, ln_bmp, gP_bmp, gI_bmp, up_at, i0, i1, RS.f R, e, b1, o1]
theorem c_findMachine_f (S : RmS h r) (V : RmV h r m) (B : MIb m) {v : Int32} (hv : ∀ k, k < Nn m 3 → v ≠ nI k) : MX7_findMachine h r v = some 0 := by
  obtain ⟨-, -, -, ⟨b1, b2⟩, -⟩ := B.f
  unfold MX7_findMachine
  rcases ni_c (by omega) hv with q | ⟨q0, q, q2⟩
  · simp only [ZL, if_pos q]
  · simp (disch := omega) only [↓reduceIte, Nat.reduceLT, Nat.reduceLeDiff, Nat.reduceEqDiff, ZL, nAdd, nMul, nSub, nLt, nLe, nEq, nCl, nDiv, nRem2, nM1, nM2, nM3, nM4, nM5, nM6, gg_in, gg_rf, gg_T, if_true, if_false, ↓lt_eq, ob_some, b2_some, up1_some, kd_sI, ln_sI, gP_sI, gI_sI, kd_rI, ln_rI, gP_rI, gI_rI, kd_bmp, ln_bmp, gP_bmp, gI_bmp, up_at, i0, i1, S.1, V.2.2.2.1, b1, q2, q0]
theorem c_findMachine_t (S : RmS h r) (V : RmV h r m) (B : MIb m) {k : Nat} (hk : k < Nn m 3) : ∃ c, c = gP h (gP h r 8) k ∧ MX7_findMachine h r (nI k) = some c ∧ c ≠ 0 ∧ MaS h c ∧ MaV h c m k := by
  obtain ⟨-, -, -, ⟨b1, b2⟩, -⟩ := B.f
  obtain ⟨c1, c2⟩ := V.2.2.2.2.2.2.2.2.1 k hk
  refine ⟨_, rfl, ?_, c1, S.2.2.2.2.2.2.2.2.2.2.2.2.2.2.2.2.2.2.1 k c1, c2⟩
  obtain ⟨-, a2, a3⟩ := S.2.2.2.2.2.1
  unfold MX7_findMachine
  simp (disch := omega) only [↓reduceIte, Nat.reduceLT, Nat.reduceLeDiff, Nat.reduceEqDiff, ZL, nAdd, nMul, nSub, nLt, nLe, nEq, nCl, nDiv, nRem2, nM1, nM2, nM3, nM4, nM5, nM6, gg_in, gg_rf, gg_T, if_true, if_false, ↓lt_eq, ob_some, b2_some, up1_some, kd_sI, ln_sI, gP_sI, gI_sI, kd_rI, ln_rI, gP_rI, gI_rI, kd_bmp, ln_bmp, gP_bmp, gI_bmp, up_at, i0, i1, S.1, V.2.2.2.1, b1, a2, a3]
theorem c_findSlug_f (S : RmS h r) (V : RmV h r m) (B : MIb m) {v : Int32} (hv : ∀ k, k < Nn m 4 → v ≠ nI k) : MX7_findSlug h r v = some 0 := by
  obtain ⟨-, -, -, -, ⟨b1, b2⟩, -⟩ := B.f
  unfold MX7_findSlug
  rcases ni_c (by omega) hv with q | ⟨q0, q, q2⟩
  · simp only [ZL, if_pos q]
  · simp (disch := omega) only [↓reduceIte, Nat.reduceLT, Nat.reduceLeDiff, Nat.reduceEqDiff, ZL, nAdd, nMul, nSub, nLt, nLe, nEq, nCl, nDiv, nRem2, nM1, nM2, nM3, nM4, nM5, nM6, gg_in, gg_rf, gg_T, if_true, if_false, ↓lt_eq, ob_some, b2_some, up1_some, kd_sI, ln_sI, gP_sI, gI_sI, kd_rI, ln_rI, gP_rI, gI_rI, kd_bmp, ln_bmp, gP_bmp, gI_bmp, up_at, i0, i1, S.1, V.2.2.2.2.1, b1, q2, q0]
theorem c_findSlug_t (S : RmS h r) (V : RmV h r m) (B : MIb m) {k : Nat} (hk : k < Nn m 4) : ∃ c, c = gP h (gP h r 10) k ∧ MX7_findSlug h r (nI k) = some c ∧ c ≠ 0 ∧ SlS h c ∧ SlV h c m (64630 + 852 * k) := by
  obtain ⟨-, -, -, -, ⟨b1, b2⟩, -⟩ := B.f
  obtain ⟨c1, c2⟩ := V.2.2.2.2.2.2.2.2.2.1 k hk
  refine ⟨_, rfl, ?_, c1, S.2.2.2.2.2.2.2.2.2.2.2.2.2.2.2.2.2.2.2 k c1, c2⟩
  obtain ⟨-, a2, a3⟩ := S.2.2.2.2.2.2.1
  unfold MX7_findSlug
  simp (disch := omega) only [↓reduceIte, Nat.reduceLT, Nat.reduceLeDiff, Nat.reduceEqDiff, ZL, nAdd, nMul, nSub, nLt, nLe, nEq, nCl, nDiv, nRem2, nM1, nM2, nM3, nM4, nM5, nM6, gg_in, gg_rf, gg_T, if_true, if_false, ↓lt_eq, ob_some, b2_some, up1_some, kd_sI, ln_sI, gP_sI, gI_sI, kd_rI, ln_rI, gP_rI, gI_rI, kd_bmp, ln_bmp, gP_bmp, gI_bmp, up_at, i0, i1, S.1, V.2.2.2.2.1, b1, a2, a3]
theorem c_findPart_f (S : RmS h r) (V : RmV h r m) (B : MIb m) {v : Int32} (hv : ∀ q, vP m q → v ≠ nI q) : MX7_findPart h r v = some 0 := by
  obtain ⟨-, ⟨b1, b2⟩, -⟩ := B.f
  obtain ⟨-, a2, a3⟩ := S.2.2.2.1
  obtain ⟨-, a5, a6⟩ := S.2.2.2.2.1
  unfold MX7_findPart
  rcases vP.no B hv with q | ⟨q, hq, rfl, q1 | ⟨q1, q2, o, q3⟩⟩
  · simp only [ZL, if_pos q]
  · simp (disch := omega) only [↓reduceIte, Nat.reduceLT, Nat.reduceLeDiff, Nat.reduceEqDiff, ZL, nAdd, nMul, nSub, nLt, nLe, nEq, nCl, nDiv, nRem2, nM1, nM2, nM3, nM4, nM5, nM6, gg_in, gg_rf, gg_T, if_true, if_false, ↓lt_eq, ob_some, b2_some, up1_some, kd_sI, ln_sI, gP_sI, gI_sI, kd_rI, ln_rI, gP_rI, gI_rI, kd_bmp, ln_bmp, gP_bmp, gI_bmp, up_at, i0, i1, S.1, V.2.1, b1]
  · obtain ⟨o1, o2⟩ := o.eq (by omega)
    simp (disch := omega) only [↓reduceIte, Nat.reduceLT, Nat.reduceLeDiff, Nat.reduceEqDiff, ZL, nAdd, nMul, nSub, nLt, nLe, nEq, nCl, nDiv, nRem2, nM1, nM2, nM3, nM4, nM5, nM6, gg_in, gg_rf, gg_T, if_true, if_false, ↓lt_eq, ob_some, b2_some, up1_some, kd_sI, ln_sI, gP_sI, gI_sI, kd_rI, ln_rI, gP_rI, gI_rI, kd_bmp, ln_bmp, gP_bmp, gI_bmp, up_at, i0, i1, S.1, V.2.1, b1, a2, a3, a5, a6, V.2.2.2.2.2.2.1 (q / 5) q1, o1]
theorem c_findPart_t (S : RmS h r) (V : RmV h r m) (B : MIb m) {q : Nat} (hq : vP m q) : ∃ c, c = gP h (gP h r 5) q ∧ MX7_findPart h r (nI q) = some c ∧ c ≠ 0 ∧ PtS h c ∧ PtV h c m q := by
  obtain ⟨-, ⟨b1, b2⟩, -⟩ := B.f
  obtain ⟨c1, c2⟩ := V.2.2.2.2.2.2.2.1 q hq
  refine ⟨_, rfl, ?_, c1, S.2.2.2.2.2.2.2.2.2.2.2.2.2.2.2.2.1 q c1, c2⟩
  obtain ⟨q0, q1, q2⟩ := hq
  obtain ⟨-, a2, a3⟩ := S.2.2.2.1
  obtain ⟨-, a5, a6⟩ := S.2.2.2.2.1
  obtain ⟨o1, o2⟩ := (B.2.2.2.2.2.2.2.2.2 (q / 5) q1).2.2.1.eq (by omega)
  unfold MX7_findPart
  simp (disch := omega) only [↓reduceIte, Nat.reduceLT, Nat.reduceLeDiff, Nat.reduceEqDiff, ZL, nAdd, nMul, nSub, nLt, nLe, nEq, nCl, nDiv, nRem2, nM1, nM2, nM3, nM4, nM5, nM6, gg_in, gg_rf, gg_T, if_true, if_false, ↓lt_eq, ob_some, b2_some, up1_some, kd_sI, ln_sI, gP_sI, gI_sI, kd_rI, ln_rI, gP_rI, gI_rI, kd_bmp, ln_bmp, gP_bmp, gI_bmp, up_at, i0, i1, S.1, V.2.1, b1, a2, a3, a5, a6, V.2.2.2.2.2.2.1 (q / 5) q1, o1]
end
