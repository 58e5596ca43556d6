/-! calls that read -/
def cm : List Nat → Nat → Nat
  | [], _ => 9
  | a :: r, k => if k = a then 1 else cm r k + 1
theorem zk0 : (zOk (nI 0) = true) = True := by simp [zOk, ZL]
theorem zk1 : (zOk (nI 1) = true) = True := by simp [zOk, ZL]
section
variable {tg : Nat → List Nat} {h h' : Hp} {m k t : Nat → Int32} {i n f : Int32}
theorem r_isIn_t {a j b : Nat} (h1 : a ≤ j) (h2 : j ≤ b) (hb : b < 2147483648) : MX12_isIn h (nI j) (nI a) (nI b) = some (nI 1) := by
  rw [r_isIn]
  simp (disch := omega) only [↓reduceIte, Nat.reduceLT, Nat.reduceLeDiff, Nat.reduceEqDiff, ZL, nAdd, nMul, nSub, nLt, nLe, nEq, nCl, nDiv, nRem2, nM1, nM2, nM3, nM4, nM5, nM6, gg_in, gg_rf, gg_T, if_true, if_false, ↓lt_eq, ob_some, b2_some, up1_some, kd_sI, ln_sI, gP_sI, gI_sI, kd_rI, ln_rI, gP_rI, gI_rI, kd_bmp, ln_bmp, gP_bmp, gI_bmp, up_at, i0, i1]
theorem r_isIn_f {v : Int32} {b : Nat} (hb : b + 1 < 2147483648) (hv : ∀ j, j < b + 1 → v ≠ nI j) : MX12_isIn h v (nI 0) (nI b) = some (nI 0) := by
  rw [r_isIn]
  rcases arg2 v with q | ⟨j, hj, rfl⟩
  · rw [if_pos q]
  · have : ¬ j < b + 1 := fun z => absurd rfl (hv j z)
    simp (disch := omega) only [↓reduceIte, Nat.reduceLT, Nat.reduceLeDiff, Nat.reduceEqDiff, ZL, nAdd, nMul, nSub, nLt, nLe, nEq, nCl, nDiv, nRem2, nM1, nM2, nM3, nM4, nM5, nM6, gg_in, gg_rf, gg_T, if_true, if_false, ↓lt_eq, ob_some, b2_some, up1_some, kd_sI, ln_sI, gP_sI, gI_sI, kd_rI, ln_rI, gP_rI, gI_rI, kd_bmp, ln_bmp, gP_bmp, gI_bmp, up_at, i0, i1]
theorem r_isIn_f1 {v : Int32} {a b : Nat} (hb : b + 1 < 2147483648) (ha : a < 2147483648) (hv : ∀ j, a ≤ j → j < b + 1 → v ≠ nI j) : MX12_isIn h v (nI a) (nI b) = some (nI 0) := by
  rw [r_isIn]
  rcases arg2 v with q | ⟨j, hj, rfl⟩
  · rw [if_pos]
    rw [Int32.lt_iff_toInt_lt, nI_toInt (by omega)] at q ⊢
    omega
  · by_cases z : j < a
    · simp (disch := omega) only [↓reduceIte, Nat.reduceLT, Nat.reduceLeDiff, Nat.reduceEqDiff, ZL, nAdd, nMul, nSub, nLt, nLe, nEq, nCl, nDiv, nRem2, nM1, nM2, nM3, nM4, nM5, nM6, gg_in, gg_rf, gg_T, if_true, if_false, ↓lt_eq, ob_some, b2_some, up1_some, kd_sI, ln_sI, gP_sI, gI_sI, kd_rI, ln_rI, gP_rI, gI_rI, kd_bmp, ln_bmp, gP_bmp, gI_bmp, up_at, i0, i1]
    · have : ¬ j < b + 1 := fun z2 => absurd rfl (hv j (by omega) z2)
      simp (disch := omega) only [↓reduceIte, Nat.reduceLT, Nat.reduceLeDiff, Nat.reduceEqDiff, ZL, nAdd, nMul, nSub, nLt, nLe, nEq, nCl, nDiv, nRem2, nM1, nM2, nM3, nM4, nM5, nM6, gg_in, gg_rf, gg_T, if_true, if_false, ↓lt_eq, ob_some, b2_some, up1_some, kd_sI, ln_sI, gP_sI, gI_sI, kd_rI, ln_rI, gP_rI, gI_rI, kd_bmp, ln_bmp, gP_bmp, gI_bmp, up_at, i0, i1]
/-- up to one less than n, n may be 0 -/
theorem r_isIn_n {v : Int32} {b : Nat} (hb : b < 1073741824) (hv : ∀ j, j < b → v ≠ nI j) : MX12_isIn h v (nI 0) (nI b - nI 1) = some (nI 0) := by
  rw [r_isIn]
  rcases arg2 v with q | ⟨j, hj, rfl⟩
  · rw [if_pos q]
  · have : ¬ j < b := fun z => absurd rfl (hv j z)
    rw [if_neg, if_pos]
    · rw [Int32.lt_iff_toInt_lt, nI_toInt (by omega), pk_sub_toInt (by omega) (by omega)]
      omega
    · rw [nLt (by omega) (by omega)]
      omega
theorem r_isIn_nt {j b : Nat} (hb : b < 1073741824) (hj : j < b) : MX12_isIn h (nI j) (nI 0) (nI b - nI 1) = some (nI 1) := by
  rw [nSub (by omega)]
  exact r_isIn_t (by omega) (by omega) (by omega)
theorem c2m (v : Int32) {N : Nat} (hN : N < 2147483648) (h : ∀ k, k < N → v ≠ nI k) : v < nI 0 ∨ (¬ v < nI 0 ∧ nI N ≤ v ∧ ¬ v < nI N) := ni_c hN h
theorem d6 {j : Nat} (h : j < 6) : j = 0 ∨ j = 1 ∨ j = 2 ∨ j = 3 ∨ j = 4 ∨ j = 5 := by omega
theorem p_runs (C : CSt tg h m k i t n f) (R : RSt h m k i t n f) (v w : Int32) : Pr (cm [1, 4]) Gq h (MX11_runs h 1 v w) (fun h' => MX12_runs h' 73 v w) := by
  obtain ⟨O, X, X2, S, V, D, DV, I, T, Im, Tr⟩ := id C
  rcases ni_d v (Nn m 3) with hv | ⟨q, hq, rfl⟩
  · refine Pr.thr C R 1 1 rfl (by omega) (by omega) ?_ fun h' R' => ⟨nI 0, ?_⟩
    · simp (disch := omega) only [MX11_runs, ↓reduceIte, Nat.reduceLT, Nat.reduceLeDiff, Nat.reduceEqDiff, ZL, nAdd, nMul, nSub, nLt, nLe, nEq, nCl, nDiv, nRem2, nM1, nM2, nM3, nM4, nM5, nM6, gg_in, gg_rf, gg_T, if_true, if_false, ↓lt_eq, ob_some, b2_some, up1_some, kd_sI, ln_sI, gP_sI, gI_sI, kd_rI, ln_rI, gP_rI, gI_rI, kd_bmp, ln_bmp, gP_bmp, gI_bmp, up_at, i0, i1, X.f, S.1, c_findMachine_f S V I.1 hv]
    · simp (disch := omega) only [MX12_runs, ↓reduceIte, Nat.reduceLT, Nat.reduceLeDiff, Nat.reduceEqDiff, ZL, nAdd, nMul, nSub, nLt, nLe, nEq, nCl, nDiv, nRem2, nM1, nM2, nM3, nM4, nM5, nM6, gg_in, gg_rf, gg_T, if_true, if_false, ↓lt_eq, ob_some, b2_some, up1_some, kd_sI, ln_sI, gP_sI, gI_sI, kd_rI, ln_rI, gP_rI, gI_rI, kd_bmp, ln_bmp, gP_bmp, gI_bmp, up_at, i0, i1, RS.f R'.1, r_isMachine_f R'.1 R'.2.1 I.1 hv]
      simp (disch := omega) only [MX12_runs_27, ↓reduceIte, Nat.reduceLT, Nat.reduceLeDiff, Nat.reduceEqDiff, ZL, nAdd, nMul, nSub, nLt, nLe, nEq, nCl, nDiv, nRem2, nM1, nM2, nM3, nM4, nM5, nM6, gg_in, gg_rf, gg_T, if_true, if_false, ↓lt_eq, ob_some, b2_some, up1_some, kd_sI, ln_sI, gP_sI, gI_sI, kd_rI, ln_rI, gP_rI, gI_rI, kd_bmp, ln_bmp, gP_bmp, gI_bmp, up_at, i0, i1, RS.f R'.1]
  · obtain ⟨-, -, -, ⟨b1, b2⟩, -⟩ := I.1.f
    obtain ⟨c, hc, ec, c0, cS, cV⟩ := c_findMachine_t S V I.1 hq
    rcases ni_d w 6 with hw | ⟨j, hj, rfl⟩
    · refine Pr.thr C R 4 2 rfl (by omega) (by omega) ?_ fun h' R' => ⟨nI 0, ?_⟩
      · simp (disch := omega) only [MX11_runs, ↓reduceIte, Nat.reduceLT, Nat.reduceLeDiff, Nat.reduceEqDiff, ZL, nAdd, nMul, nSub, nLt, nLe, nEq, nCl, nDiv, nRem2, nM1, nM2, nM3, nM4, nM5, nM6, gg_in, gg_rf, gg_T, if_true, if_false, ↓lt_eq, ob_some, b2_some, up1_some, kd_sI, ln_sI, gP_sI, gI_sI, kd_rI, ln_rI, gP_rI, gI_rI, kd_bmp, ln_bmp, gP_bmp, gI_bmp, up_at, i0, i1, X.f, S.1, ec, if_neg c0, if_neg (hw 0 (by omega)), if_neg (hw 1 (by omega)), if_neg (hw 2 (by omega)), if_neg (hw 3 (by omega)), if_neg (hw 4 (by omega)), if_neg (hw 5 (by omega))]
      · simp (disch := omega) only [MX12_runs, ↓reduceIte, Nat.reduceLT, Nat.reduceLeDiff, Nat.reduceEqDiff, ZL, nAdd, nMul, nSub, nLt, nLe, nEq, nCl, nDiv, nRem2, nM1, nM2, nM3, nM4, nM5, nM6, gg_in, gg_rf, gg_T, if_true, if_false, ↓lt_eq, ob_some, b2_some, up1_some, kd_sI, ln_sI, gP_sI, gI_sI, kd_rI, ln_rI, gP_rI, gI_rI, kd_bmp, ln_bmp, gP_bmp, gI_bmp, up_at, i0, i1, RS.f R'.1, r_isMachine_t R'.1 R'.2.1 I.1 hq, r_isIn_f (by omega) hw]
        simp (disch := omega) only [MX12_runs_27, ↓reduceIte, Nat.reduceLT, Nat.reduceLeDiff, Nat.reduceEqDiff, ZL, nAdd, nMul, nSub, nLt, nLe, nEq, nCl, nDiv, nRem2, nM1, nM2, nM3, nM4, nM5, nM6, gg_in, gg_rf, gg_T, if_true, if_false, ↓lt_eq, ob_some, b2_some, up1_some, kd_sI, ln_sI, gP_sI, gI_sI, kd_rI, ln_rI, gP_rI, gI_rI, kd_bmp, ln_bmp, gP_bmp, gI_bmp, up_at, i0, i1, RS.f R'.1]
    · obtain ⟨⟨-, a2, a3⟩, -⟩ := cS.2.2
      obtain ⟨-, -, v3, v4, v5, v6, v7, vj⟩ := cV
      obtain ⟨-, -, o3, o4, oj⟩ := I.2.2.2.1 q hq
      obtain ⟨o3, -⟩ := o3.eq (by omega)
      obtain ⟨o4, o5⟩ := o4.eq (by omega)
      rcases d6 hj with rfl | rfl | rfl | rfl | rfl | rfl
      · refine Pr.get C R (m (320230 + 183 * q + 29)) ?_ fun h' R' => ?_
        · simp (disch := omega) only [MX11_runs, ↓reduceIte, Nat.reduceLT, Nat.reduceLeDiff, Nat.reduceEqDiff, ZL, nAdd, nMul, nSub, nLt, nLe, nEq, nCl, nDiv, nRem2, nM1, nM2, nM3, nM4, nM5, nM6, gg_in, gg_rf, gg_T, if_true, if_false, ↓lt_eq, ob_some, b2_some, up1_some, kd_sI, ln_sI, gP_sI, gI_sI, kd_rI, ln_rI, gP_rI, gI_rI, kd_bmp, ln_bmp, gP_bmp, gI_bmp, up_at, i0, i1, X.f, S.1, ec, if_neg c0, cS.1, v4]
        · simp (disch := omega) only [MX12_runs_27, MX12_runs, ↓reduceIte, Nat.reduceLT, Nat.reduceLeDiff, Nat.reduceEqDiff, ZL, nAdd, nMul, nSub, nLt, nLe, nEq, nCl, nDiv, nRem2, nM1, nM2, nM3, nM4, nM5, nM6, gg_in, gg_rf, gg_T, if_true, if_false, ↓lt_eq, ob_some, b2_some, up1_some, kd_sI, ln_sI, gP_sI, gI_sI, kd_rI, ln_rI, gP_rI, gI_rI, kd_bmp, ln_bmp, gP_bmp, gI_bmp, up_at, i0, i1, RS.f R'.1, R'.2.1, r_isMachine_t R'.1 R'.2.1 I.1 hq, r_isIn_t, r_machine0]
      · refine Pr.get C R (m (320230 + 183 * q + 30)) ?_ fun h' R' => ?_
        · simp (disch := omega) only [MX11_runs, ↓reduceIte, Nat.reduceLT, Nat.reduceLeDiff, Nat.reduceEqDiff, ZL, nAdd, nMul, nSub, nLt, nLe, nEq, nCl, nDiv, nRem2, nM1, nM2, nM3, nM4, nM5, nM6, gg_in, gg_rf, gg_T, if_true, if_false, ↓lt_eq, ob_some, b2_some, up1_some, kd_sI, ln_sI, gP_sI, gI_sI, kd_rI, ln_rI, gP_rI, gI_rI, kd_bmp, ln_bmp, gP_bmp, gI_bmp, up_at, i0, i1, X.f, S.1, ec, if_neg c0, cS.1, v5]
        · simp (disch := omega) only [MX12_runs_27, MX12_runs, ↓reduceIte, Nat.reduceLT, Nat.reduceLeDiff, Nat.reduceEqDiff, ZL, nAdd, nMul, nSub, nLt, nLe, nEq, nCl, nDiv, nRem2, nM1, nM2, nM3, nM4, nM5, nM6, gg_in, gg_rf, gg_T, if_true, if_false, ↓lt_eq, ob_some, b2_some, up1_some, kd_sI, ln_sI, gP_sI, gI_sI, kd_rI, ln_rI, gP_rI, gI_rI, kd_bmp, ln_bmp, gP_bmp, gI_bmp, up_at, i0, i1, RS.f R'.1, R'.2.1, r_isMachine_t R'.1 R'.2.1 I.1 hq, r_isIn_t, r_machine0]
      · refine Pr.get C R (m (320230 + 183 * q + 31)) ?_ fun h' R' => ?_
        · simp (disch := omega) only [MX11_runs, ↓reduceIte, Nat.reduceLT, Nat.reduceLeDiff, Nat.reduceEqDiff, ZL, nAdd, nMul, nSub, nLt, nLe, nEq, nCl, nDiv, nRem2, nM1, nM2, nM3, nM4, nM5, nM6, gg_in, gg_rf, gg_T, if_true, if_false, ↓lt_eq, ob_some, b2_some, up1_some, kd_sI, ln_sI, gP_sI, gI_sI, kd_rI, ln_rI, gP_rI, gI_rI, kd_bmp, ln_bmp, gP_bmp, gI_bmp, up_at, i0, i1, X.f, S.1, ec, if_neg c0, cS.1, v6]
        · simp (disch := omega) only [MX12_runs_27, MX12_runs, ↓reduceIte, Nat.reduceLT, Nat.reduceLeDiff, Nat.reduceEqDiff, ZL, nAdd, nMul, nSub, nLt, nLe, nEq, nCl, nDiv, nRem2, nM1, nM2, nM3, nM4, nM5, nM6, gg_in, gg_rf, gg_T, if_true, if_false, ↓lt_eq, ob_some, b2_some, up1_some, kd_sI, ln_sI, gP_sI, gI_sI, kd_rI, ln_rI, gP_rI, gI_rI, kd_bmp, ln_bmp, gP_bmp, gI_bmp, up_at, i0, i1, RS.f R'.1, R'.2.1, r_isMachine_t R'.1 R'.2.1 I.1 hq, r_isIn_t, r_machine0]
      · refine Pr.get C R (m (320230 + 183 * q + 32)) ?_ fun h' R' => ?_
        · simp (disch := omega) only [MX11_runs, ↓reduceIte, Nat.reduceLT, Nat.reduceLeDiff, Nat.reduceEqDiff, ZL, nAdd, nMul, nSub, nLt, nLe, nEq, nCl, nDiv, nRem2, nM1, nM2, nM3, nM4, nM5, nM6, gg_in, gg_rf, gg_T, if_true, if_false, ↓lt_eq, ob_some, b2_some, up1_some, kd_sI, ln_sI, gP_sI, gI_sI, kd_rI, ln_rI, gP_rI, gI_rI, kd_bmp, ln_bmp, gP_bmp, gI_bmp, up_at, i0, i1, X.f, S.1, ec, if_neg c0, cS.1, v7]
        · simp (disch := omega) only [MX12_runs_27, MX12_runs, ↓reduceIte, Nat.reduceLT, Nat.reduceLeDiff, Nat.reduceEqDiff, ZL, nAdd, nMul, nSub, nLt, nLe, nEq, nCl, nDiv, nRem2, nM1, nM2, nM3, nM4, nM5, nM6, gg_in, gg_rf, gg_T, if_true, if_false, ↓lt_eq, ob_some, b2_some, up1_some, kd_sI, ln_sI, gP_sI, gI_sI, kd_rI, ln_rI, gP_rI, gI_rI, kd_bmp, ln_bmp, gP_bmp, gI_bmp, up_at, i0, i1, RS.f R'.1, R'.2.1, r_isMachine_t R'.1 R'.2.1 I.1 hq, r_isIn_t, r_machine0]
      · refine Pr.get C R (m (320230 + 183 * q + 28)) ?_ fun h' R' => ?_
        · obtain ⟨x, hx, e⟩ := (I.2.2.2.1 q hq).2.2.1
          rcases (show x = 0 ∨ x = 1 by omega) with rfl | rfl
          · simp (disch := omega) only [MX11_runs, ↓reduceIte, Nat.reduceLT, Nat.reduceLeDiff, Nat.reduceEqDiff, ZL, nAdd, nMul, nSub, nLt, nLe, nEq, nCl, nDiv, nRem2, nM1, nM2, nM3, nM4, nM5, nM6, gg_in, gg_rf, gg_T, if_true, if_false, ↓lt_eq, ob_some, b2_some, up1_some, kd_sI, ln_sI, gP_sI, gI_sI, kd_rI, ln_rI, gP_rI, gI_rI, kd_bmp, ln_bmp, gP_bmp, gI_bmp, up_at, i0, i1, X.f, S.1, ec, if_neg c0, cS.1, v3, e]
          · simp (disch := omega) only [MX11_runs, ↓reduceIte, Nat.reduceLT, Nat.reduceLeDiff, Nat.reduceEqDiff, ZL, nAdd, nMul, nSub, nLt, nLe, nEq, nCl, nDiv, nRem2, nM1, nM2, nM3, nM4, nM5, nM6, gg_in, gg_rf, gg_T, if_true, if_false, ↓lt_eq, ob_some, b2_some, up1_some, kd_sI, ln_sI, gP_sI, gI_sI, kd_rI, ln_rI, gP_rI, gI_rI, kd_bmp, ln_bmp, gP_bmp, gI_bmp, up_at, i0, i1, X.f, S.1, ec, if_neg c0, cS.1, v3, e]
        · simp (disch := omega) only [MX12_runs_27, MX12_runs, ↓reduceIte, Nat.reduceLT, Nat.reduceLeDiff, Nat.reduceEqDiff, ZL, nAdd, nMul, nSub, nLt, nLe, nEq, nCl, nDiv, nRem2, nM1, nM2, nM3, nM4, nM5, nM6, gg_in, gg_rf, gg_T, if_true, if_false, ↓lt_eq, ob_some, b2_some, up1_some, kd_sI, ln_sI, gP_sI, gI_sI, kd_rI, ln_rI, gP_rI, gI_rI, kd_bmp, ln_bmp, gP_bmp, gI_bmp, up_at, i0, i1, RS.f R'.1, R'.2.1, r_isMachine_t R'.1 R'.2.1 I.1 hq, r_isIn_t, r_machine0]
      · by_cases z : Nn m (320230 + 183 * q + 29) = 0
        · refine Pr.get C R (-1) ?_ fun h' R' => ?_
          · simp (disch := omega) only [MX11_runs, ↓reduceIte, Nat.reduceLT, Nat.reduceLeDiff, Nat.reduceEqDiff, ZL, nAdd, nMul, nSub, nLt, nLe, nEq, nCl, nDiv, nRem2, nM1, nM2, nM3, nM4, nM5, nM6, gg_in, gg_rf, gg_T, if_true, if_false, ↓lt_eq, ob_some, b2_some, up1_some, kd_sI, ln_sI, gP_sI, gI_sI, kd_rI, ln_rI, gP_rI, gI_rI, kd_bmp, ln_bmp, gP_bmp, gI_bmp, up_at, i0, i1, X.f, S.1, ec, if_neg c0, cS.1, v4, o4]
          · simp (disch := omega) only [MX12_runs_27, MX12_runs, ↓reduceIte, Nat.reduceLT, Nat.reduceLeDiff, Nat.reduceEqDiff, ZL, nAdd, nMul, nSub, nLt, nLe, nEq, nCl, nDiv, nRem2, nM1, nM2, nM3, nM4, nM5, nM6, gg_in, gg_rf, gg_T, if_true, if_false, ↓lt_eq, ob_some, b2_some, up1_some, kd_sI, ln_sI, gP_sI, gI_sI, kd_rI, ln_rI, gP_rI, gI_rI, kd_bmp, ln_bmp, gP_bmp, gI_bmp, up_at, i0, i1, RS.f R'.1, R'.2.1, r_isMachine_t R'.1 R'.2.1 I.1 hq, r_isIn_t, r_machine0, o4]
        · refine Pr.get C R (m (320230 + 183 * q + 33)) ?_ fun h' R' => ?_
          · have vz := (vj 0 (by omega)).1
            simp (disch := omega) only [MX11_runs, ↓reduceIte, Nat.reduceLT, Nat.reduceLeDiff, Nat.reduceEqDiff, ZL, nAdd, nMul, nSub, nLt, nLe, nEq, nCl, nDiv, nRem2, nM1, nM2, nM3, nM4, nM5, nM6, gg_in, gg_rf, gg_T, if_true, if_false, ↓lt_eq, ob_some, b2_some, up1_some, kd_sI, ln_sI, gP_sI, gI_sI, kd_rI, ln_rI, gP_rI, gI_rI, kd_bmp, ln_bmp, gP_bmp, gI_bmp, up_at, i0, i1, X.f, S.1, ec, if_neg c0, cS.1, v4, o4, a2, a3]
            exact congrArg (fun z => some (Sum.inl z, h)) vz
          · simp (disch := omega) only [MX12_runs_27, MX12_runs, ↓reduceIte, Nat.reduceLT, Nat.reduceLeDiff, Nat.reduceEqDiff, ZL, nAdd, nMul, nSub, nLt, nLe, nEq, nCl, nDiv, nRem2, nM1, nM2, nM3, nM4, nM5, nM6, gg_in, gg_rf, gg_T, if_true, if_false, ↓lt_eq, ob_some, b2_some, up1_some, kd_sI, ln_sI, gP_sI, gI_sI, kd_rI, ln_rI, gP_rI, gI_rI, kd_bmp, ln_bmp, gP_bmp, gI_bmp, up_at, i0, i1, RS.f R'.1, R'.2.1, r_isMachine_t R'.1 R'.2.1 I.1 hq, r_isIn_t, r_machine0, o4]
end
