/-! tear, broken -/
section
variable {tg : Nat → List Nat} {h h1 h' : Hp} {m m' k t : Nat → Int32} {i n f : Int32}
theorem c_rows (B : MIb m) : jmin (nI 8) (nI (Nn m 0)) = nI (Nn m 7) := by
  obtain ⟨-, -, -, -, -, -, -, ⟨b7, b7'⟩⟩ := B.f
  rw [b7']
  unfold jmin
  by_cases z : Nn m 0 < 8
  · rw [if_pos (nI_lt z (by omega)), Nat.min_eq_right (by omega)]
  · rw [if_neg (nI_nlt (by obtain ⟨⟨-, q⟩, -⟩ := B.f; omega) (by obtain ⟨⟨-, q⟩, -⟩ := B.f; omega)), Nat.min_eq_left (by omega)]
theorem c_rowPlace_f {r : Nat} (S : RmS h r) (V : RmV h r m) (B : MIb m) {v w : Int32} (hb : (∀ j, j < Nn m 7 → v ≠ nI j) ∨ ∀ j, j < 4 → w ≠ nI j) : MX7_rowPlace h r v w = some (-nI 1) := by
  obtain ⟨⟨b0, b0'⟩, -, -, -, -, -, -, ⟨b7, b7'⟩⟩ := B.f
  have mn := c_rows B
  unfold MX7_rowPlace MX7_rowCount
  rcases ni_d v (Nn m 7) with hv | ⟨j, hj, rfl⟩
  · rcases ni_c (by omega) hv with z | ⟨z1, z2, z3⟩
    · simp (disch := omega) only [↓reduceIte, Nat.reduceLT, Nat.reduceLeDiff, Nat.reduceEqDiff, ZL, nAdd, nMul, nSub, nLt, nLe, nEq, nCl, nDiv, nRem2, nM1, nM2, nM3, nM4, nM5, nM6, gg_in, gg_rf, gg_T, if_true, if_false, ↓lt_eq, ob_some, b2_some, up1_some, kd_sI, ln_sI, gP_sI, gI_sI, kd_rI, ln_rI, gP_rI, gI_rI, kd_bmp, ln_bmp, gP_bmp, gI_bmp, up_at, i0, i1, z]
    · simp (disch := omega) only [↓reduceIte, Nat.reduceLT, Nat.reduceLeDiff, Nat.reduceEqDiff, ZL, nAdd, nMul, nSub, nLt, nLe, nEq, nCl, nDiv, nRem2, nM1, nM2, nM3, nM4, nM5, nM6, gg_in, gg_rf, gg_T, if_true, if_false, ↓lt_eq, ob_some, b2_some, up1_some, kd_sI, ln_sI, gP_sI, gI_sI, kd_rI, ln_rI, gP_rI, gI_rI, kd_bmp, ln_bmp, gP_bmp, gI_bmp, up_at, i0, i1, if_neg z1, S.1, V.1, b0, mn, z2]
  · have hw : ∀ j, j < 4 → w ≠ nI j := by
      rcases hb with hb | hb
      · exact absurd rfl (hb j hj)
      · exact hb
    rcases ni_c (by omega) hw with z | ⟨z1, z2, z3⟩
    · simp (disch := omega) only [↓reduceIte, Nat.reduceLT, Nat.reduceLeDiff, Nat.reduceEqDiff, ZL, nAdd, nMul, nSub, nLt, nLe, nEq, nCl, nDiv, nRem2, nM1, nM2, nM3, nM4, nM5, nM6, gg_in, gg_rf, gg_T, if_true, if_false, ↓lt_eq, ob_some, b2_some, up1_some, kd_sI, ln_sI, gP_sI, gI_sI, kd_rI, ln_rI, gP_rI, gI_rI, kd_bmp, ln_bmp, gP_bmp, gI_bmp, up_at, i0, i1, z, S.1, V.1, b0, mn]
    · simp (disch := omega) only [↓reduceIte, Nat.reduceLT, Nat.reduceLeDiff, Nat.reduceEqDiff, ZL, nAdd, nMul, nSub, nLt, nLe, nEq, nCl, nDiv, nRem2, nM1, nM2, nM3, nM4, nM5, nM6, gg_in, gg_rf, gg_T, if_true, if_false, ↓lt_eq, ob_some, b2_some, up1_some, kd_sI, ln_sI, gP_sI, gI_sI, kd_rI, ln_rI, gP_rI, gI_rI, kd_bmp, ln_bmp, gP_bmp, gI_bmp, up_at, i0, i1, if_neg z1, S.1, V.1, b0, mn, if_neg z3]
theorem c_rowPlace_t {r : Nat} (S : RmS h r) (V : RmV h r m) (B : MIb m) {j l : Nat} (hj : j < Nn m 7) (hl : l < 4) : MX7_rowPlace h r (nI j) (nI l) = some (nI ((Nn m 0 - Nn m 7 + j) % 8 * 4 + l)) := by
  obtain ⟨⟨b0, b0'⟩, -, -, -, -, -, -, ⟨b7, b7'⟩⟩ := B.f
  have mn := c_rows B
  unfold MX7_rowPlace MX7_rowCount
  simp (disch := omega) only [↓reduceIte, Nat.reduceLT, Nat.reduceLeDiff, Nat.reduceEqDiff, ZL, nAdd, nMul, nSub, nLt, nLe, nEq, nCl, nDiv, nRem2, nM1, nM2, nM3, nM4, nM5, nM6, gg_in, gg_rf, gg_T, if_true, if_false, ↓lt_eq, ob_some, b2_some, up1_some, kd_sI, ln_sI, gP_sI, gI_sI, kd_rI, ln_rI, gP_rI, gI_rI, kd_bmp, ln_bmp, gP_bmp, gI_bmp, up_at, i0, i1, S.1, V.1, b0, mn]
  rw [show Nn m 0 - Nn m 7 + j - (Nn m 0 - Nn m 7 + j) / 8 * 8 = (Nn m 0 - Nn m 7 + j) % 8 by omega]
theorem r_isRow_f (R : RSt h m k i t n f) (B : MIb m) {v w : Int32} (hb : (∀ j, j < Nn m 7 → v ≠ nI j) ∨ ∀ j, j < 4 → w ≠ nI j) : MX12_isRow h 73 v w = some (nI 0) := by
  obtain ⟨-, -, -, -, -, -, -, ⟨b7, b7'⟩⟩ := B.f
  unfold MX12_isRow
  rcases ni_d v (Nn m 7) with hv | ⟨j, hj, rfl⟩
  · simp (disch := omega) only [↓reduceIte, Nat.reduceLT, Nat.reduceLeDiff, Nat.reduceEqDiff, ZL, nAdd, nMul, nSub, nLt, nLe, nEq, nCl, nDiv, nRem2, nM1, nM2, nM3, nM4, nM5, nM6, gg_in, gg_rf, gg_T, if_true, if_false, ↓lt_eq, ob_some, b2_some, up1_some, kd_sI, ln_sI, gP_sI, gI_sI, kd_rI, ln_rI, gP_rI, gI_rI, kd_bmp, ln_bmp, gP_bmp, gI_bmp, up_at, i0, i1, RS.f R.1, R.2.1, b7, r_isIn_n (b := Nn m 7) (by omega) hv]
  · have hw : ∀ j, j < 3 + 1 → w ≠ nI j := by
      rcases hb with hb | hb
      · exact absurd rfl (hb j hj)
      · exact hb
    simp (disch := omega) only [↓reduceIte, Nat.reduceLT, Nat.reduceLeDiff, Nat.reduceEqDiff, ZL, nAdd, nMul, nSub, nLt, nLe, nEq, nCl, nDiv, nRem2, nM1, nM2, nM3, nM4, nM5, nM6, gg_in, gg_rf, gg_T, if_true, if_false, ↓lt_eq, ob_some, b2_some, up1_some, kd_sI, ln_sI, gP_sI, gI_sI, kd_rI, ln_rI, gP_rI, gI_rI, kd_bmp, ln_bmp, gP_bmp, gI_bmp, up_at, i0, i1, RS.f R.1, R.2.1, b7, r_isIn_t, r_isIn_f (b := 3) (by omega) hw]
theorem r_isRow_t (R : RSt h m k i t n f) (B : MIb m) {j l : Nat} (hj : j < Nn m 7) (hl : l < 4) : MX12_isRow h 73 (nI j) (nI l) = some (nI 1) := by
  obtain ⟨-, -, -, -, -, -, -, ⟨b7, b7'⟩⟩ := B.f
  unfold MX12_isRow
  simp (disch := omega) only [↓reduceIte, Nat.reduceLT, Nat.reduceLeDiff, Nat.reduceEqDiff, ZL, nAdd, nMul, nSub, nLt, nLe, nEq, nCl, nDiv, nRem2, nM1, nM2, nM3, nM4, nM5, nM6, gg_in, gg_rf, gg_T, if_true, if_false, ↓lt_eq, ob_some, b2_some, up1_some, kd_sI, ln_sI, gP_sI, gI_sI, kd_rI, ln_rI, gP_rI, gI_rI, kd_bmp, ln_bmp, gP_bmp, gI_bmp, up_at, i0, i1, RS.f R.1, R.2.1, b7, r_isIn_t]
theorem p_tear (C : CSt tg h m k i t n f) (R : RSt h m k i t n f) (v w u : Int32) : Pr (cm [4]) Gq h (MX11_tear h 1 v w u) (fun h' => MX12_tear h' 73 v w u) := by
  obtain ⟨O, X, X2, S, V, D, DV, I, T, Im, Tr⟩ := id C
  obtain ⟨-, -, t3, -, -, -, t19, -⟩ := tgs O X
  obtain ⟨⟨b0, b0'⟩, -, -, -, -, -, -, ⟨b7, b7'⟩⟩ := I.1.f
  obtain ⟨z1, a1, a2⟩ := S.2.2.2.2.2.2.2.1
  by_cases hb : (∀ j, j < Nn m 7 → v ≠ nI j) ∨ ∀ j, j < 4 → w ≠ nI j
  · refine Pr.thr C R 4 1 rfl (by omega) (by omega) ?_ fun h' R' => ⟨nI 0, ?_⟩
    · unfold MX11_tear
      rw [gg_t X.1, X5 X, gg_t S.1, c_rowPlace_f S V I.1 hb, ob_some, if_pos (by decide)]
    · unfold MX12_tear
      rw [gg_t (RS.f R'.1).1, r_isRow_f R' I.1 hb, ob_some, if_pos (by decide)]
      simp (disch := omega) only [MX12_tear_15, ↓reduceIte, Nat.reduceLT, Nat.reduceLeDiff, Nat.reduceEqDiff, ZL, nAdd, nMul, nSub, nLt, nLe, nEq, nCl, nDiv, nRem2, nM1, nM2, nM3, nM4, nM5, nM6, gg_in, gg_rf, gg_T, if_true, if_false, ↓lt_eq, ob_some, b2_some, up1_some, kd_sI, ln_sI, gP_sI, gI_sI, kd_rI, ln_rI, gP_rI, gI_rI, kd_bmp, ln_bmp, gP_bmp, gI_bmp, up_at, i0, i1, RS.f R'.1]
  · rcases ni_d v (Nn m 7) with hv | ⟨j, hj, rfl⟩
    · exact absurd (Or.inl hv) hb
    · rcases ni_d w 4 with hw | ⟨l, hl, rfl⟩
      · exact absurd (Or.inr hw) hb
      · obtain ⟨vv, -⟩ := V.2.2.2.2.2.2.2.2.2.2.2 j hj l hl
        obtain ⟨P, hP⟩ : ∃ P, P = (Nn m 0 - Nn m 7 + j) % 8 * 4 + l := ⟨_, rfl⟩
        have hP32 : P < 32 := by omega
        rw [← hP] at vv
        obtain ⟨y, hy⟩ : ∃ y, y = m (337180 + 5 * j + 1 + l) ^^^ u := ⟨_, rfl⟩
        have F1 : Fr (fun x => x = gP h 19 12) h (sI h (gP h 19 12) P y) := Fr.sI rfl
        have sf := own_sm O t3 t19 (by omega) z1 (show 19 ≠ 0 by omega) F1
        have mo : ∀ x, x ≠ 337180 + 5 * j + 1 + l → va_up m (337180 + 5 * j + 1 + l) y x = m x := fun x hx => by simp only [up_at, if_neg hx]
        refine Pr.room (h1 := sI h (gP h 19 12) P y) (m' := va_up m (337180 + 5 * j + 1 + l) y) C R y ?_ F1 (fun x hx => by
          have hx : x = gP h 19 12 := hx
          subst hx
          exact ⟨z1, by rw [tgc O z1 (by omega), t19]; exact List.suffix_cons _ _⟩) (S.own F1 (by omega) sf) (RmV.own I V F1 sf (by omega) (fun x hx => mo x (by omega)) (fun q hq => ?_) (fun j2 hj2 l2 hl2 => ?_)) (MI.wr I (fun x hx => mo x (by omega)) (fun q hq => ?_) (fun q hq => mo _ (by omega))) (fun x hx => mo x (by unfold rgDk at hx; omega)) fun h' R' => ?_
        · unfold MX11_tear
          rw [gg_t X.1, X5 X, gg_t S.1, c_rowPlace_t S V I.1 hj hl, ob_some, ← hP]
          simp (disch := omega) only [↓reduceIte, Nat.reduceLT, Nat.reduceLeDiff, Nat.reduceEqDiff, ZL, nAdd, nMul, nSub, nLt, nLe, nEq, nCl, nDiv, nRem2, nM1, nM2, nM3, nM4, nM5, nM6, gg_in, gg_rf, gg_T, if_true, if_false, ↓lt_eq, ob_some, b2_some, up1_some, kd_sI, ln_sI, gP_sI, gI_sI, kd_rI, ln_rI, gP_rI, gI_rI, kd_bmp, ln_bmp, gP_bmp, gI_bmp, up_at, i0, i1, a1, a2, vv, ← hy]
        · have n12 := ne_f O (show 19 ≠ 3 by omega) S.2.1.1 z1 (show 1 ≠ 12 by omega)
          rw [mo _ (by omega), gI_sI, if_neg n12]
          exact V.2.2.2.2.2.1 q hq
        · obtain ⟨v2, v3⟩ := V.2.2.2.2.2.2.2.2.2.2.2 j2 hj2 l2 hl2
          have n13 := ne_f O (show 19 ≠ 3 by omega) S.2.2.2.2.2.2.2.2.1.1 z1 (show 13 ≠ 12 by omega)
          refine ⟨?_, by rw [gI_sI, if_neg n13]; exact v3⟩
          rw [gI_sI, if_pos rfl, up_at, up_at]
          by_cases z : j2 = j ∧ l2 = l
          · obtain ⟨rfl, rfl⟩ := z
            rw [if_pos hP.symm, if_pos rfl]
          · rw [if_neg (by omega), if_neg (by omega)]
            exact v2
        · obtain ⟨w1, w2⟩ := I.1.2.2.2.2.2.2.2.2.1 q hq
          exact ⟨w1.c (mo _ (by omega)), by rw [Nn.c (mo _ (by omega))]; exact w2⟩
        · refine ⟨sI (sI h' 73 0 (nI 0)) 74 (337180 + 5 * j + 1 + l) y, ?_, th_fr.trans fr74, R'.th.m1, ?_⟩
          · unfold MX12_tear
            rw [gg_t (RS.f R'.1).1, r_isRow_t R' I.1 hj hl, ob_some, if_neg (by decide)]
            simp (disch := omega) only [MX12_tear_15, ↓reduceIte, Nat.reduceLT, Nat.reduceLeDiff, Nat.reduceEqDiff, ZL, nAdd, nMul, nSub, nLt, nLe, nEq, nCl, nDiv, nRem2, nM1, nM2, nM3, nM4, nM5, nM6, gg_in, gg_rf, gg_T, if_true, if_false, ↓lt_eq, ob_some, b2_some, up1_some, kd_sI, ln_sI, gP_sI, gI_sI, kd_rI, ln_rI, gP_rI, gI_rI, kd_bmp, ln_bmp, gP_bmp, gI_bmp, up_at, i0, i1, RS.f R'.1, R'.2.1, ← hy]
          · simp (disch := omega) only [↓reduceIte, Nat.reduceLT, Nat.reduceLeDiff, Nat.reduceEqDiff, ZL, nAdd, nMul, nSub, nLt, nLe, nEq, nCl, nDiv, nRem2, nM1, nM2, nM3, nM4, nM5, nM6, gg_in, gg_rf, gg_T, if_true, if_false, ↓lt_eq, ob_some, b2_some, up1_some, kd_sI, ln_sI, gP_sI, gI_sI, kd_rI, ln_rI, gP_rI, gI_rI, kd_bmp, ln_bmp, gP_bmp, gI_bmp, up_at, i0, i1]
theorem p_broken (C : CSt tg h m k i t n f) (R : RSt h m k i t n f) (v : Int32) {b : Nat} (hb : b < 2) : Pr (cm [1]) Gq h (MX11_broken h 1 v (nI b)) (fun h' => MX12_broken h' 73 v (nI b)) := by
  obtain ⟨O, X, X2, S, V, D, DV, I, T, Im, Tr⟩ := id C
  obtain ⟨-, -, t3, -, -, -, t19, -⟩ := tgs O X
  obtain ⟨-, -, -, ⟨b3, b3'⟩, -⟩ := I.1.f
  rcases ni_d v (Nn m 3) with hv | ⟨q, hq, rfl⟩
  · refine Pr.thr C R 1 1 rfl (by omega) (by omega) ?_ fun h' R' => ⟨nI 0, ?_⟩
    · unfold MX11_broken
      rw [gg_t X.1, X5 X, gg_t S.1, c_findMachine_f S V I.1 hv, ob_some, if_pos rfl]
    · unfold MX12_broken
      rw [gg_t (RS.f R'.1).1, r_isMachine_f R'.1 R'.2.1 I.1 hv, ob_some, if_pos (by decide)]
      simp (disch := omega) only [MX12_broken_14, ↓reduceIte, Nat.reduceLT, Nat.reduceLeDiff, Nat.reduceEqDiff, ZL, nAdd, nMul, nSub, nLt, nLe, nEq, nCl, nDiv, nRem2, nM1, nM2, nM3, nM4, nM5, nM6, gg_in, gg_rf, gg_T, if_true, if_false, ↓lt_eq, ob_some, b2_some, up1_some, kd_sI, ln_sI, gP_sI, gI_sI, kd_rI, ln_rI, gP_rI, gI_rI, kd_bmp, ln_bmp, gP_bmp, gI_bmp, up_at, i0, i1, RS.f R'.1]
  · obtain ⟨c, hc, ec, c0, cS, cV⟩ := c_findMachine_t S V I.1 hq
    have hcz : gP h (gP h 19 8) q ≠ 0 := by rw [← hc]; exact c0
    obtain ⟨ct, c3⟩ := ma_t O X S hcz
    rw [← hc] at ct c3
    have hI := I.2.2.2.1 q hq
    obtain ⟨x, hx, ex⟩ := hI.2.2.1
    have F1 : Fr (fun y => y = c) h (sI h c 2 (nI b)) := Fr.sI rfl
    have sf := obj_sm (s0 := q) (F := 8) O t3 t19 (by omega) (show 19 ≠ 0 by omega) F1 (fun y hy => by
      have hy : y = c := hy
      subst hy
      exact ⟨c0, by rw [ct, t19]; exact List.suffix_refl _⟩)
    have mo : ∀ j, j ≠ 320230 + 183 * q + 28 → va_up m (320230 + 183 * q + 28) (nI b) j = m j := fun j hj => by simp only [up_at, if_neg hj]
    have zb : (zOk (nI b) = true) = True := by
      rcases (show b = 0 ∨ b = 1 by omega) with rfl | rfl
      · exact zk0
      · exact zk1
    refine Pr.room (h1 := sI h c 2 (nI b)) (m' := va_up m (320230 + 183 * q + 28) (nI b)) C R (if x = b then nI 0 else nI 1) ?_ F1 (fun y hy => by
      have hy : y = c := hy
      subst hy
      exact ⟨c0, by rw [ct]; exact List.suffix_append [q, 8] [5]⟩) (S.ma F1 sf ?_) (RmV.ma I V F1 sf (by omega) (fun j hj => mo j (by omega)) fun _ => ?_) (MI.mch I hq (fun j hj => mo j (by omega)) fun k2 hk2 => ?_) (fun j hj => mo j (by unfold rgDk at hj; omega)) fun h' R' => ?_
    · unfold MX11_broken
      rw [gg_t X.1, X5 X, gg_t S.1, ec, ob_some, if_neg c0]
      have c2 := cV.2.2.1
      by_cases z : x = b
      · simp (disch := omega) only [↓reduceIte, Nat.reduceLT, Nat.reduceLeDiff, Nat.reduceEqDiff, ZL, nAdd, nMul, nSub, nLt, nLe, nEq, nCl, nDiv, nRem2, nM1, nM2, nM3, nM4, nM5, nM6, gg_in, gg_rf, gg_T, if_true, if_false, ↓lt_eq, ob_some, b2_some, up1_some, kd_sI, ln_sI, gP_sI, gI_sI, kd_rI, ln_rI, gP_rI, gI_rI, kd_bmp, ln_bmp, gP_bmp, gI_bmp, up_at, i0, i1, cS.1, c2, ex, z, zb]
      · simp (disch := omega) only [↓reduceIte, Nat.reduceLT, Nat.reduceLeDiff, Nat.reduceEqDiff, ZL, nAdd, nMul, nSub, nLt, nLe, nEq, nCl, nDiv, nRem2, nM1, nM2, nM3, nM4, nM5, nM6, gg_in, gg_rf, gg_T, if_true, if_false, ↓lt_eq, ob_some, b2_some, up1_some, kd_sI, ln_sI, gP_sI, gI_sI, kd_rI, ln_rI, gP_rI, gI_rI, kd_bmp, ln_bmp, gP_bmp, gI_bmp, up_at, i0, i1, cS.1, c2, ex, if_neg z, zb]
    · rw [← hc]
      obtain ⟨s1, s2, s3, s4, s5, s6, s7, s8⟩ := cS
      refine ⟨s1, s2, s3, s4, s5, s6, ?_, fun j => ?_⟩
      · rw [gI_sI, if_pos rfl, up_at, if_pos rfl]
        rcases (show b = 0 ∨ b = 1 by omega) with rfl | rfl
        · exact Or.inl rfl
        · exact Or.inr rfl
      · have := ne_o O c3 s6.1
        show zO (gI (sI h c 2 (nI b)) (gP h c 10) j)
        rw [gI_sI, if_neg (fun z => this z.symm)]
        exact s8 j
    · rw [← hc]
      obtain ⟨v0, v1, v2, v3, v4, v5, v6, v7⟩ := cV
      have n0 := ne_o O c3 cS.2.1.1
      have n7 := ne_o O c3 cS.2.2.1.1
      have n8 := ne_o O c3 cS.2.2.2.1.1
      have n9 := ne_o O c3 cS.2.2.2.2.1.1
      have n10 := ne_o O c3 cS.2.2.2.2.2.1.1
      have e29 := Nn.c (mo (320230 + 183 * q + 29) (by omega))
      have j30 := (hI.2.2.2.1.eq (by omega)).2
      unfold MaV
      rw [e29]
      simp only [gP_sI]
      refine ⟨fun j hj => ?_, ?_, ?_, ?_, ?_, ?_, ?_, fun j hj => ?_⟩
      · rw [gI_sI, if_neg (fun z => n0 z.symm), mo _ (by omega)]; exact v0 j hj
      · rw [gI_sI, if_pos rfl, up_at, if_neg (by omega), mo _ (by omega)]; exact v1
      · rw [gI_sI, if_pos rfl, up_at, if_pos rfl, up_at, if_pos rfl]
      · rw [gI_sI, if_pos rfl, up_at, if_neg (by omega), mo _ (by omega)]; exact v3
      · rw [gI_sI, if_pos rfl, up_at, if_neg (by omega), mo _ (by omega)]; exact v4
      · rw [gI_sI, if_pos rfl, up_at, if_neg (by omega), mo _ (by omega)]; exact v5
      · rw [gI_sI, if_pos rfl, up_at, if_neg (by omega), mo _ (by omega)]; exact v6
      · have jb := (hI.2.2.2.2 j hj).2.1.1
        have e0 := mo (320230 + 183 * q + 33 + 5 * j) (by omega)
        rw [gI_sI, if_neg (fun z => n7 z.symm), gI_sI, if_neg (fun z => n8 z.symm), gI_sI, if_neg (fun z => n10 z.symm), gI_sI, if_neg (fun z => n9 z.symm), Nn.c e0, e0, mo (320230 + 183 * q + 33 + 5 * j + 1) (by omega), mo (320230 + 183 * q + 33 + 5 * j + 2) (by omega), mo (320230 + 183 * q + 33 + 5 * j + 3) (by omega), mo (320230 + 183 * q + 33 + 5 * j + 4) (by omega), mo (130 + 645 * Nn m (320230 + 183 * q + 33 + 5 * j) + 3) (by omega), mo (130 + 645 * Nn m (320230 + 183 * q + 33 + 5 * j) + 4) (by omega)]
        exact v7 j hj
    · have I2 := I.2.2.2.1 k2 hk2
      obtain ⟨a0, a1, a2, a3, a4⟩ := I2
      have h30 := (a3.eq (by omega)).2
      refine ⟨fun j hj => (a0 j hj).c (mo _ (by omega)), a1.c (mo _ (by omega)), ?_, a3.c (mo _ (by omega)), fun j hj => ?_⟩
      · by_cases z : k2 = q
        · subst z
          exact ⟨b, by omega, by rw [up_at, if_pos rfl]⟩
        · exact a2.c (mo _ (by omega))
      · rw [Nn.c (mo _ (by omega))] at hj
        obtain ⟨c1, c2, c3', c4, c5, c6, c7, c8⟩ := a4 j hj
        have jb := c2.1
        have e0 := mo (320230 + 183 * k2 + 33 + 5 * j) (by omega)
        rw [Nn.c e0, Nn.c (mo (320230 + 183 * k2 + 33 + 5 * j + 1) (by omega)), Nn.c (mo (320230 + 183 * k2 + 33 + 5 * j + 2) (by omega)), mo (320230 + 183 * k2 + 33 + 5 * j + 1) (by omega), mo (320230 + 183 * k2 + 33 + 5 * j + 4) (by omega), mo (130 + 645 * Nn m (320230 + 183 * k2 + 33 + 5 * j) + 2) (by omega), mo (130 + 645 * Nn m (320230 + 183 * k2 + 33 + 5 * j) + 3) (by omega), Nn.c (mo (130 + 645 * Nn m (320230 + 183 * k2 + 33 + 5 * j) + 4) (by omega)), Nn.c (mo 3 (by omega)), e0]
        refine ⟨c1.c e0, c2.c (mo _ (by omega)) (fun _ => mo _ (by omega)), c3'.c (mo _ (by omega)), c4.c (mo _ (by omega)), c5.c (mo _ (by omega)), c6.c (mo _ (by omega)), c7, fun hf => ?_⟩
        obtain ⟨d1, d2, d3, d4⟩ := c8 hf
        refine ⟨d1, d2, d3, fun k' hk' j' hj' => ?_⟩
        have h30' := ((I.2.2.2.1 k' hk').2.2.2.1.eq (by omega)).2
        rw [Nn.c (mo (320230 + 183 * k' + 29) (by omega))] at hj'
        rw [mo (320230 + 183 * k' + 33 + 5 * j' + 4) (by omega), mo (320230 + 183 * k' + 33 + 5 * j') (by omega)]
        exact d4 k' hk' j' hj'
    · refine ⟨sI (sI h' 73 0 (nI 0)) 74 (320230 + 183 * q + 28) (nI b), ?_, th_fr.trans fr74, R'.th.m1, ?_⟩
      · unfold MX12_broken
        rw [gg_t (RS.f R'.1).1, r_isMachine_t R'.1 R'.2.1 I.1 hq, ob_some, if_neg (by decide)]
        rcases (show x = 0 ∨ x = 1 by omega) with rfl | rfl
        · rcases (show b = 0 ∨ b = 1 by omega) with rfl | rfl
          · simp (disch := omega) only [MX12_broken_14, MX12_broken_49, MX12_broken_58, MX12_broken_74, ↓reduceIte, Nat.reduceLT, Nat.reduceLeDiff, Nat.reduceEqDiff, ZL, nAdd, nMul, nSub, nLt, nLe, nEq, nCl, nDiv, nRem2, nM1, nM2, nM3, nM4, nM5, nM6, gg_in, gg_rf, gg_T, if_true, if_false, ↓lt_eq, ob_some, b2_some, up1_some, kd_sI, ln_sI, gP_sI, gI_sI, kd_rI, ln_rI, gP_rI, gI_rI, kd_bmp, ln_bmp, gP_bmp, gI_bmp, up_at, i0, i1, RS.f R'.1, R'.2.1, r_machine0, ex, zk0, zk1]
          · simp (disch := omega) only [MX12_broken_14, MX12_broken_49, MX12_broken_58, MX12_broken_74, ↓reduceIte, Nat.reduceLT, Nat.reduceLeDiff, Nat.reduceEqDiff, ZL, nAdd, nMul, nSub, nLt, nLe, nEq, nCl, nDiv, nRem2, nM1, nM2, nM3, nM4, nM5, nM6, gg_in, gg_rf, gg_T, if_true, if_false, ↓lt_eq, ob_some, b2_some, up1_some, kd_sI, ln_sI, gP_sI, gI_sI, kd_rI, ln_rI, gP_rI, gI_rI, kd_bmp, ln_bmp, gP_bmp, gI_bmp, up_at, i0, i1, RS.f R'.1, R'.2.1, r_machine0, ex, zk0, zk1]
        · rcases (show b = 0 ∨ b = 1 by omega) with rfl | rfl
          · simp (disch := omega) only [MX12_broken_14, MX12_broken_49, MX12_broken_58, MX12_broken_74, ↓reduceIte, Nat.reduceLT, Nat.reduceLeDiff, Nat.reduceEqDiff, ZL, nAdd, nMul, nSub, nLt, nLe, nEq, nCl, nDiv, nRem2, nM1, nM2, nM3, nM4, nM5, nM6, gg_in, gg_rf, gg_T, if_true, if_false, ↓lt_eq, ob_some, b2_some, up1_some, kd_sI, ln_sI, gP_sI, gI_sI, kd_rI, ln_rI, gP_rI, gI_rI, kd_bmp, ln_bmp, gP_bmp, gI_bmp, up_at, i0, i1, RS.f R'.1, R'.2.1, r_machine0, ex, zk0, zk1]
          · simp (disch := omega) only [MX12_broken_14, MX12_broken_49, MX12_broken_58, MX12_broken_74, ↓reduceIte, Nat.reduceLT, Nat.reduceLeDiff, Nat.reduceEqDiff, ZL, nAdd, nMul, nSub, nLt, nLe, nEq, nCl, nDiv, nRem2, nM1, nM2, nM3, nM4, nM5, nM6, gg_in, gg_rf, gg_T, if_true, if_false, ↓lt_eq, ob_some, b2_some, up1_some, kd_sI, ln_sI, gP_sI, gI_sI, kd_rI, ln_rI, gP_rI, gI_rI, kd_bmp, ln_bmp, gP_bmp, gI_bmp, up_at, i0, i1, RS.f R'.1, R'.2.1, r_machine0, ex, zk0, zk1]
      · simp (disch := omega) only [↓reduceIte, Nat.reduceLT, Nat.reduceLeDiff, Nat.reduceEqDiff, ZL, nAdd, nMul, nSub, nLt, nLe, nEq, nCl, nDiv, nRem2, nM1, nM2, nM3, nM4, nM5, nM6, gg_in, gg_rf, gg_T, if_true, if_false, ↓lt_eq, ob_some, b2_some, up1_some, kd_sI, ln_sI, gP_sI, gI_sI, kd_rI, ln_rI, gP_rI, gI_rI, kd_bmp, ln_bmp, gP_bmp, gI_bmp, up_at, i0, i1]
end
