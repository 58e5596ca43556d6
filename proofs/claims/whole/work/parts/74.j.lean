/-! own objects, the style in force, counts -/
/-- the style in force at t among the first n: 0 none, y + 1 style y -/
def stI (m : Nat → Int32) (t : Int32) : Nat → Nat
  | 0 => 0
  | n + 1 => if t < m (320962 + 562 * n) then stI m t n else if stI m t n = 0 then n + 1 else if m (320962 + 562 * n) < m (320962 + 562 * (stI m t n - 1)) then stI m t n else n + 1
def stV (e : Nat) : Int32 := if e = 0 then -nI 1 else nI (320962 + 562 * (e - 1))
def cN (P : Nat → Prop) [∀ j, Decidable (P j)] : Nat → Nat
  | 0 => 0
  | n + 1 => cN P n + (if P n then 1 else 0)
theorem cN_le {P : Nat → Prop} [∀ j, Decidable (P j)] : ∀ n, cN P n ≤ n
  | 0 => Nat.le_refl 0
  | n + 1 => by
    have := cN_le (P := P) n
    unfold cN
    split <;> omega
theorem cN_congr {P Q : Nat → Prop} [∀ j, Decidable (P j)] [∀ j, Decidable (Q j)] : ∀ n, (∀ j, j < n → (P j ↔ Q j)) → cN P n = cN Q n
  | 0, _ => rfl
  | n + 1, H => by
    unfold cN
    rw [cN_congr n (fun j hj => H j (by omega))]
    have := H n (by omega)
    by_cases p : P n
    · rw [if_pos p, if_pos (this.mp p)]
    · rw [if_neg p, if_neg (fun q => p (this.mpr q))]
theorem cN_add {P Q U : Nat → Prop} [∀ j, Decidable (P j)] [∀ j, Decidable (Q j)] [∀ j, Decidable (U j)] : ∀ n, (∀ j, j < n → (U j ↔ (P j ∨ Q j)) ∧ ¬ (P j ∧ Q j)) → cN P n + cN Q n = cN U n
  | 0, _ => rfl
  | n + 1, H => by
    unfold cN
    have ih := cN_add (P := P) (Q := Q) (U := U) n (fun j hj => H j (by omega))
    obtain ⟨h1, h2⟩ := H n (by omega)
    by_cases p : P n
    · have q : ¬ Q n := fun q => h2 ⟨p, q⟩
      rw [if_pos p, if_neg q, if_pos (h1.mpr (Or.inl p))]
      omega
    · by_cases q : Q n
      · rw [if_neg p, if_pos q, if_pos (h1.mpr (Or.inr q))]
        omega
      · rw [if_neg p, if_neg q, if_neg (fun u => by rcases h1.mp u with u | u; exact p u; exact q u)]
        omega
def jbN (m : Nat → Int32) : Nat → Nat
  | 0 => 0
  | n + 1 => jbN m n + Nn m (320230 + 183 * n + 29)
section
variable {tg : Nat → List Nat} {h h' : Hp} {m k t : Nat → Int32} {i n f : Int32} {r : Nat}
theorem stI_le {x : Int32} : ∀ n, stI m x n ≤ n
  | 0 => Nat.le_refl 0
  | n + 1 => by
    have := stI_le (x := x) n
    unfold stI
    split
    · omega
    · split
      · omega
      · split <;> omega
theorem c_ownSlug (S : RmS h r) {s : Nat} (hs : s < 300) (hz : gP h (gP h r 10) s ≠ 0) : MX7_ownSlug h r (nI s) = some (gP h (gP h r 10) s, h) := by
  obtain ⟨-, a1, a2⟩ := S.2.2.2.2.2.2.1
  unfold MX7_ownSlug MX7_ownSlug_43
  rw [if_neg (nI_pos (by omega)), gg_t S.1, gg_t a1, a2, if_pos (nI_lt (by omega) (by omega)), gg_in (by omega) (by omega), nCl (by omega), if_neg hz, gg_t S.1, gg_t a1, gg_in (by omega) (by omega)]
theorem c_ownMachine (S : RmS h r) {s : Nat} (hs : s < 4) (hz : gP h (gP h r 8) s ≠ 0) : MX7_ownMachine h r (nI s) = some (gP h (gP h r 8) s, h) := by
  obtain ⟨-, a1, a2⟩ := S.2.2.2.2.2.1
  unfold MX7_ownMachine MX7_ownMachine_43
  rw [if_neg (nI_pos (by omega)), gg_t S.1, gg_t a1, a2, if_pos (nI_lt (by omega) (by omega)), gg_in (by omega) (by omega), nCl (by omega), if_neg hz, gg_t S.1, gg_t a1, gg_in (by omega) (by omega)]
theorem c_ownStyle (S : RmS h r) {s : Nat} (hs : s < 10) (hz : gP h (gP h r 2) s ≠ 0) : MX7_ownStyle h r (nI s) = some (gP h (gP h r 2) s, h) := by
  obtain ⟨-, a1, a2⟩ := S.2.2.1
  unfold MX7_ownStyle MX7_ownStyle_40
  rw [if_neg (nI_pos (by omega)), gg_t S.1, gg_t a1, a2, if_pos (nI_lt (by omega) (by omega)), gg_in (by omega) (by omega), nCl (by omega), if_neg hz, gg_t S.1, gg_t a1, gg_in (by omega) (by omega)]
theorem r_styleOf (R : RS h) (e : gI h 74 = m) (B : MIb m) (x : Int32) : MX12_styleOf h 73 x = some (stV (stI m x (Nn m 2))) := by
  obtain ⟨-, -, ⟨b1, b2⟩, -⟩ := B.f
  unfold MX12_styleOf MX12_styleOf_4
  simp only [ZL]
  refine it_seq2 (fun j => (stV (stI m x j), nI j)) (Nn m 2) rfl (fun j hj => ?_) ?_
  · show BX12_styleOf_4 h 73 x (stV (stI m x j)) (nI j) = _
    have hle := stI_le (m := m) (x := x) j
    have es : stI m x (j + 1) = if x < m (320962 + 562 * j) then stI m x j else if stI m x j = 0 then j + 1 else if m (320962 + 562 * j) < m (320962 + 562 * (stI m x j - 1)) then stI m x j else j + 1 := rfl
    rw [es]
    generalize stI m x j = w at hle
    have e1 : stV (j + 1) = nI (320962 + 562 * j) := by unfold stV; rw [if_neg (by omega), Nat.add_sub_cancel]
    unfold BX12_styleOf_4
    by_cases z1 : x < m (320962 + 562 * j)
    · simp (disch := omega) only [↓reduceIte, Nat.reduceLT, Nat.reduceLeDiff, Nat.reduceEqDiff, ZL, nAdd, nMul, nSub, nLt, nLe, nEq, nCl, nDiv, nRem2, nM1, nM2, nM3, nM4, nM5, nM6, gg_in, gg_rf, gg_T, if_true, if_false, ↓lt_eq, ob_some, b2_some, up1_some, kd_sI, ln_sI, gP_sI, gI_sI, kd_rI, ln_rI, gP_rI, gI_rI, kd_bmp, ln_bmp, gP_bmp, gI_bmp, up_at, i0, i1, RS.f R, e, b1, if_pos z1]
    · by_cases z2 : w = 0
      · subst z2
        have e0 : stV 0 = -nI 1 := rfl
        simp (disch := omega) only [MX12_styleOf_57, ↓reduceIte, Nat.reduceLT, Nat.reduceLeDiff, Nat.reduceEqDiff, ZL, nAdd, nMul, nSub, nLt, nLe, nEq, nCl, nDiv, nRem2, nM1, nM2, nM3, nM4, nM5, nM6, gg_in, gg_rf, gg_T, if_true, if_false, ↓lt_eq, ob_some, b2_some, up1_some, kd_sI, ln_sI, gP_sI, gI_sI, kd_rI, ln_rI, gP_rI, gI_rI, kd_bmp, ln_bmp, gP_bmp, gI_bmp, up_at, i0, i1, RS.f R, e, b1, if_neg z1, e0, e1]
      · have e0 : stV w = nI (320962 + 562 * (w - 1)) := by unfold stV; rw [if_neg z2]
        by_cases z3 : m (320962 + 562 * j) < m (320962 + 562 * (w - 1))
        · simp (disch := omega) only [MX12_styleOf_57, ↓reduceIte, Nat.reduceLT, Nat.reduceLeDiff, Nat.reduceEqDiff, ZL, nAdd, nMul, nSub, nLt, nLe, nEq, nCl, nDiv, nRem2, nM1, nM2, nM3, nM4, nM5, nM6, gg_in, gg_rf, gg_T, if_true, if_false, ↓lt_eq, ob_some, b2_some, up1_some, kd_sI, ln_sI, gP_sI, gI_sI, kd_rI, ln_rI, gP_rI, gI_rI, kd_bmp, ln_bmp, gP_bmp, gI_bmp, up_at, i0, i1, RS.f R, e, b1, if_neg z1, if_neg z2, e0, e1, if_pos z3]
        · simp (disch := omega) only [MX12_styleOf_57, ↓reduceIte, Nat.reduceLT, Nat.reduceLeDiff, Nat.reduceEqDiff, ZL, nAdd, nMul, nSub, nLt, nLe, nEq, nCl, nDiv, nRem2, nM1, nM2, nM3, nM4, nM5, nM6, gg_in, gg_rf, gg_T, if_true, if_false, ↓lt_eq, ob_some, b2_some, up1_some, kd_sI, ln_sI, gP_sI, gI_sI, kd_rI, ln_rI, gP_rI, gI_rI, kd_bmp, ln_bmp, gP_bmp, gI_bmp, up_at, i0, i1, RS.f R, e, b1, if_neg z1, if_neg z2, e0, e1, if_neg z3]
  · show BX12_styleOf_4 h 73 x _ (nI (Nn m 2)) = _
    unfold BX12_styleOf_4
    simp (disch := omega) only [↓reduceIte, Nat.reduceLT, Nat.reduceLeDiff, Nat.reduceEqDiff, ZL, nAdd, nMul, nSub, nLt, nLe, nEq, nCl, nDiv, nRem2, nM1, nM2, nM3, nM4, nM5, nM6, gg_in, gg_rf, gg_T, if_true, if_false, ↓lt_eq, ob_some, b2_some, up1_some, kd_sI, ln_sI, gP_sI, gI_sI, kd_rI, ln_rI, gP_rI, gI_rI, kd_bmp, ln_bmp, gP_bmp, gI_bmp, up_at, i0, i1, RS.f R, e, b1]
/-- the cell of style e - 1; the style without rules for 0 -/
def stC (h : Hp) (r e : Nat) : Nat := if e = 0 then gP h r 4 else gP h (gP h r 2) (e - 1)
theorem c_styleAt (S : RmS h r) (V : RmV h r m) (B : MIb m) (hne : ∀ y, gP h (gP h r 2) y ≠ 0 → gP h r 4 ≠ gP h (gP h r 2) y) (x : Int32) : MX7_styleAt h r x = some (stC h r (stI m x (Nn m 2)), h) := by
  obtain ⟨-, -, ⟨b1, b2⟩, -⟩ := B.f
  unfold MX7_styleAt MX7_styleAt_7
  rw [gg_t S.1]
  simp only [ZL]
  refine it_seq2 (fun j => (stC h r (stI m x j), nI j, h)) (Nn m 2) rfl (fun j hj => ?_) ?_
  · show BX7_styleAt_7 h r x (stC h r (stI m x j)) (nI j) = _
    have hle := stI_le (m := m) (x := x) j
    have es : stI m x (j + 1) = if x < m (320962 + 562 * j) then stI m x j else if stI m x j = 0 then j + 1 else if m (320962 + 562 * j) < m (320962 + 562 * (stI m x j - 1)) then stI m x j else j + 1 := rfl
    rw [es]
    generalize stI m x j = w at hle
    obtain ⟨y0, y1⟩ := V.2.2.2.2.2.2.2.2.2.2.1 j hj
    have yS := S.2.2.2.2.2.2.2.2.2.2.2.2.2.2.2.2.2.1 j y0
    have e1 : stC h r (j + 1) = gP h (gP h r 2) j := by unfold stC; rw [if_neg (by omega), Nat.add_sub_cancel]
    have ow := c_ownStyle S (show j < 10 by omega) y0
    unfold BX7_styleAt_7
    rw [gg_t S.1, V.2.2.1, b1, if_neg (by rw [nLe (by omega) (by omega)]; omega), ow, b2_some, gg_t yS.1, y1.1]
    by_cases z1 : x < m (320962 + 562 * j)
    · rw [if_pos z1, if_pos z1, nI_1]
    · rw [if_neg z1, if_neg z1, gg_t S.1]
      by_cases z2 : w = 0
      · subst z2
        have e0 : stC h r 0 = gP h r 4 := rfl
        rw [e0, if_pos rfl, if_pos rfl, e1]
        unfold MX7_styleAt_51
        rw [nI_1]
      · have e0 : stC h r w = gP h (gP h r 2) (w - 1) := by unfold stC; rw [if_neg z2]
        obtain ⟨u0, u1⟩ := V.2.2.2.2.2.2.2.2.2.2.1 (w - 1) (by omega)
        have uS := S.2.2.2.2.2.2.2.2.2.2.2.2.2.2.2.2.2.1 (w - 1) u0
        rw [e0, if_neg (fun z => hne _ u0 z.symm), gg_t uS.1, u1.1, if_neg z2]
        by_cases z3 : m (320962 + 562 * j) < m (320962 + 562 * (w - 1))
        · rw [if_pos z3, if_pos z3, nI_1, e0]
        · rw [if_neg z3, if_neg z3, e1]
          unfold MX7_styleAt_51
          rw [nI_1]
  · show BX7_styleAt_7 h r x _ (nI (Nn m 2)) = _
    unfold BX7_styleAt_7
    simp (disch := omega) only [↓reduceIte, Nat.reduceLT, Nat.reduceLeDiff, Nat.reduceEqDiff, ZL, nAdd, nMul, nSub, nLt, nLe, nEq, nCl, nDiv, nRem2, nM1, nM2, nM3, nM4, nM5, nM6, gg_in, gg_rf, gg_T, if_true, if_false, ↓lt_eq, ob_some, b2_some, up1_some, kd_sI, ln_sI, gP_sI, gI_sI, kd_rI, ln_rI, gP_rI, gI_rI, kd_bmp, ln_bmp, gP_bmp, gI_bmp, up_at, i0, i1, S.1, V.2.2.1, b1]
theorem st_ne (O : Own tg h) (X : XS h) (S : RmS h 19) : ∀ y, gP h (gP h 19 2) y ≠ 0 → gP h 19 4 ≠ gP h (gP h 19 2) y := fun y hy => by
  obtain ⟨-, -, t3, -, -, -, t19, -⟩ := tgs O X
  have z2 := S.2.2.1.1
  have n3 : gP h 19 2 ≠ 3 := ne_t (tg := tg) (by rw [tgc O z2 (by omega), t19, t3]; simp)
  exact ne_d O (by omega) S.2.2.2.2.2.2.2.2.2.2.2.2.2.2.1.1 z2 n3 hy
theorem r_jobs (R : RS h) (e : gI h 74 = m) (I : MI m) : MX12_jobs h 73 = some (nI (jbN m (Nn m 3))) := by
  obtain ⟨-, -, -, ⟨b1, b2⟩, -⟩ := I.1.f
  unfold MX12_jobs MX12_jobs_4
  simp only [ZL]
  refine it_seq2 (fun j => (nI (jbN m j), nI j)) (Nn m 3) rfl (fun j hj => ?_) ?_
  · show BX12_jobs_4 h 73 (nI (jbN m j)) (nI j) = _
    obtain ⟨o1, o2⟩ := (I.2.2.2.1 j hj).2.2.2.1.eq (by omega)
    unfold BX12_jobs_4
    simp (disch := omega) only [↓reduceIte, Nat.reduceLT, Nat.reduceLeDiff, Nat.reduceEqDiff, ZL, nAdd, nMul, nSub, nLt, nLe, nEq, nCl, nDiv, nRem2, nM1, nM2, nM3, nM4, nM5, nM6, gg_in, gg_rf, gg_T, if_true, if_false, ↓lt_eq, ob_some, b2_some, up1_some, kd_sI, ln_sI, gP_sI, gI_sI, kd_rI, ln_rI, gP_rI, gI_rI, kd_bmp, ln_bmp, gP_bmp, gI_bmp, up_at, i0, i1, RS.f R, e, b1, r_machine0, o1, jbN]
  · show BX12_jobs_4 h 73 _ (nI (Nn m 3)) = _
    unfold BX12_jobs_4
    simp (disch := omega) only [↓reduceIte, Nat.reduceLT, Nat.reduceLeDiff, Nat.reduceEqDiff, ZL, nAdd, nMul, nSub, nLt, nLe, nEq, nCl, nDiv, nRem2, nM1, nM2, nM3, nM4, nM5, nM6, gg_in, gg_rf, gg_T, if_true, if_false, ↓lt_eq, ob_some, b2_some, up1_some, kd_sI, ln_sI, gP_sI, gI_sI, kd_rI, ln_rI, gP_rI, gI_rI, kd_bmp, ln_bmp, gP_bmp, gI_bmp, up_at, i0, i1, RS.f R, e, b1]
theorem c_jobs (S : RmS h r) (V : RmV h r m) (I : MI m) : MX7_countJobs h r = some (nI (jbN m (Nn m 3)), h) := by
  obtain ⟨-, -, -, ⟨b1, b2⟩, -⟩ := I.1.f
  unfold MX7_countJobs MX7_countJobs_4
  simp only [ZL]
  refine it_seq2 (fun j => (nI (jbN m j), nI j, h)) (Nn m 3) rfl (fun j hj => ?_) ?_
  · show BX7_countJobs_4 h r (nI (jbN m j)) (nI j) = _
    obtain ⟨o1, o2⟩ := (I.2.2.2.1 j hj).2.2.2.1.eq (by omega)
    obtain ⟨y0, y1⟩ := V.2.2.2.2.2.2.2.2.1 j hj
    have yS := S.2.2.2.2.2.2.2.2.2.2.2.2.2.2.2.2.2.2.1 j y0
    have ow := c_ownMachine S (show j < 4 by omega) y0
    unfold BX7_countJobs_4
    rw [gg_t S.1, V.2.2.2.1, b1, if_neg (by rw [nLe (by omega) (by omega)]; omega), ow, b2_some, gg_t yS.1, y1.2.2.2.1, o1]
    simp (disch := omega) only [ZL, nAdd, nMul, nSub, nLt, nLe, nEq, nCl, nDiv, nRem2, jbN]
  · show BX7_countJobs_4 h r _ (nI (Nn m 3)) = _
    unfold BX7_countJobs_4
    simp (disch := omega) only [↓reduceIte, Nat.reduceLT, Nat.reduceLeDiff, Nat.reduceEqDiff, ZL, nAdd, nMul, nSub, nLt, nLe, nEq, nCl, nDiv, nRem2, nM1, nM2, nM3, nM4, nM5, nM6, gg_in, gg_rf, gg_T, if_true, if_false, ↓lt_eq, ob_some, b2_some, up1_some, kd_sI, ln_sI, gP_sI, gI_sI, kd_rI, ln_rI, gP_rI, gI_rI, kd_bmp, ln_bmp, gP_bmp, gI_bmp, up_at, i0, i1, S.1, V.2.2.2.1, b1]
theorem c_countState (S : RmS h r) (V : RmV h r m) (I : MI m) {x : Nat} (hx : x < 3) : MX7_countState h r (nI x) = some (nI (cN (fun s => m (64630 + 852 * s + 4) = nI x) (Nn m 4)), h) := by
  obtain ⟨-, -, -, -, ⟨b1, b2⟩, -⟩ := I.1.f
  unfold MX7_countState MX7_countState_4
  simp only [ZL]
  refine it_seq2 (fun j => (nI (cN (fun s => m (64630 + 852 * s + 4) = nI x) j), nI j, h)) (Nn m 4) rfl (fun j hj => ?_) ?_
  · show BX7_countState_4 h r (nI x) (nI (cN _ j)) (nI j) = _
    have hc := cN_le (P := fun s => m (64630 + 852 * s + 4) = nI x) j
    obtain ⟨y0, y1⟩ := V.2.2.2.2.2.2.2.2.2.1 j hj
    have yS := S.2.2.2.2.2.2.2.2.2.2.2.2.2.2.2.2.2.2.2 j y0
    have ow := c_ownSlug S (show j < 300 by omega) y0
    unfold BX7_countState_4 MX7_countState_30
    rw [gg_t S.1, V.2.2.2.2.1, b1, if_neg (by rw [nLe (by omega) (by omega)]; omega), ow, b2_some, gg_t yS.1, y1.2.2.2.2.1]
    by_cases z : m (64630 + 852 * j + 4) = nI x
    · simp (disch := omega) only [ZL, nAdd, nMul, nSub, nLt, nLe, nEq, nCl, nDiv, nRem2, if_pos z, cN]
    · simp (disch := omega) only [ZL, nAdd, nMul, nSub, nLt, nLe, nEq, nCl, nDiv, nRem2, if_neg z, cN]
  · show BX7_countState_4 h r (nI x) _ (nI (Nn m 4)) = _
    unfold BX7_countState_4
    simp (disch := omega) only [↓reduceIte, Nat.reduceLT, Nat.reduceLeDiff, Nat.reduceEqDiff, ZL, nAdd, nMul, nSub, nLt, nLe, nEq, nCl, nDiv, nRem2, nM1, nM2, nM3, nM4, nM5, nM6, gg_in, gg_rf, gg_T, if_true, if_false, ↓lt_eq, ob_some, b2_some, up1_some, kd_sI, ln_sI, gP_sI, gI_sI, kd_rI, ln_rI, gP_rI, gI_rI, kd_bmp, ln_bmp, gP_bmp, gI_bmp, up_at, i0, i1, S.1, V.2.2.2.2.1, b1]
theorem c_countCorr (S : RmS h r) (V : RmV h r m) (I : MI m) : MX7_countCorrected h r = some (nI (cN (fun s => m (64630 + 852 * s + 7) = nI 1) (Nn m 4)), h) := by
  obtain ⟨-, -, -, -, ⟨b1, b2⟩, -⟩ := I.1.f
  unfold MX7_countCorrected MX7_countCorrected_4
  simp only [ZL]
  refine it_seq2 (fun j => (nI (cN (fun s => m (64630 + 852 * s + 7) = nI 1) j), nI j, h)) (Nn m 4) rfl (fun j hj => ?_) ?_
  · show BX7_countCorrected_4 h r (nI (cN _ j)) (nI j) = _
    have hc := cN_le (P := fun s => m (64630 + 852 * s + 7) = nI 1) j
    obtain ⟨y0, y1⟩ := V.2.2.2.2.2.2.2.2.2.1 j hj
    have yS := S.2.2.2.2.2.2.2.2.2.2.2.2.2.2.2.2.2.2.2 j y0
    have ow := c_ownSlug S (show j < 300 by omega) y0
    obtain ⟨x, hx, ex⟩ := (I.2.2.1 j hj).2.2.2.2.2.2.2.2.2.1
    unfold BX7_countCorrected_4 MX7_countCorrected_29
    rw [gg_t S.1, V.2.2.2.2.1, b1, if_neg (by rw [nLe (by omega) (by omega)]; omega), ow, b2_some, gg_t yS.1, y1.2.2.2.2.2.2.2.1, ex]
    rcases (show x = 0 ∨ x = 1 by omega) with rfl | rfl
    · simp (disch := omega) only [↓reduceIte, Nat.reduceLT, Nat.reduceLeDiff, Nat.reduceEqDiff, ZL, nAdd, nMul, nSub, nLt, nLe, nEq, nCl, nDiv, nRem2, nM1, nM2, nM3, nM4, nM5, nM6, gg_in, gg_rf, gg_T, if_true, if_false, ↓lt_eq, ob_some, b2_some, up1_some, kd_sI, ln_sI, gP_sI, gI_sI, kd_rI, ln_rI, gP_rI, gI_rI, kd_bmp, ln_bmp, gP_bmp, gI_bmp, up_at, i0, i1, ex, cN]
    · simp (disch := omega) only [↓reduceIte, Nat.reduceLT, Nat.reduceLeDiff, Nat.reduceEqDiff, ZL, nAdd, nMul, nSub, nLt, nLe, nEq, nCl, nDiv, nRem2, nM1, nM2, nM3, nM4, nM5, nM6, gg_in, gg_rf, gg_T, if_true, if_false, ↓lt_eq, ob_some, b2_some, up1_some, kd_sI, ln_sI, gP_sI, gI_sI, kd_rI, ln_rI, gP_rI, gI_rI, kd_bmp, ln_bmp, gP_bmp, gI_bmp, up_at, i0, i1, ex, cN]
  · show BX7_countCorrected_4 h r _ (nI (Nn m 4)) = _
    unfold BX7_countCorrected_4
    simp (disch := omega) only [↓reduceIte, Nat.reduceLT, Nat.reduceLeDiff, Nat.reduceEqDiff, ZL, nAdd, nMul, nSub, nLt, nLe, nEq, nCl, nDiv, nRem2, nM1, nM2, nM3, nM4, nM5, nM6, gg_in, gg_rf, gg_T, if_true, if_false, ↓lt_eq, ob_some, b2_some, up1_some, kd_sI, ln_sI, gP_sI, gI_sI, kd_rI, ln_rI, gP_rI, gI_rI, kd_bmp, ln_bmp, gP_bmp, gI_bmp, up_at, i0, i1, S.1, V.2.2.2.2.1, b1]
end
