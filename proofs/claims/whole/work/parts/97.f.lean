/-! rule, best, ends, hand -/
section
variable {tg : Nat → List Nat} {h h1 h2 h' : Hp} {m k t : Nat → Int32} {i n f : Int32}
theorem c_isMinute_f {v : Int32} (hv : ∀ j, j < 601 → v ≠ nI j) : MX11_isMinute h v = some (nI 0) := by
  unfold MX11_isMinute
  simp only [ZL]
  rcases rn_c (v := v) (a := 0) (b := 600) (by omega) (by omega) (fun j _ h2 => hv j h2) with z | ⟨z1, z2, z3⟩
  · rw [if_pos z]
  · rw [if_neg z1, if_pos z3]
theorem c_isMinute_t {j : Nat} (hj : j < 601) : MX11_isMinute h (nI j) = some (nI 1) := by
  unfold MX11_isMinute
  simp (disch := omega) only [↓reduceIte, Nat.reduceLT, Nat.reduceLeDiff, Nat.reduceEqDiff, ZL, nAdd, nMul, nSub, nLt, nLe, nEq, nCl, nDiv, nRem2, nM1, nM2, nM3, nM4, nM5, nM6, gg_in, gg_rf, gg_T, if_true, if_false, ↓lt_eq, ob_some, b2_some, up1_some, kd_sI, ln_sI, gP_sI, gI_sI, kd_rI, ln_rI, gP_rI, gI_rI, kd_bmp, ln_bmp, gP_bmp, gI_bmp, up_at, i0, i1]
theorem p_rule (C : CSt tg h m k i t n f) (R : RSt h m k i t n f) (v w u : Int32) : Pr (cm [1, 2, 4]) Gq h (MX11_rule h 1 v w u) (fun h' => MX12_rule h' 73 v w u) := by
  obtain ⟨O, X, X2, S, V, D, DV, I, T, Im, Tr⟩ := id C
  have K := C.rt
  have th : ∀ h', RSt h' m k i t n f → ∀ c, 1 ≤ c → c ≤ 4 → MX12_rule_42 h' 73 v w u 73 (nI c) = some (nI 0, sI h' 73 0 (nI c)) := fun h' R' c h1 h4 => by
    simp (disch := omega) only [MX12_rule_42, ↓reduceIte, Nat.reduceLT, Nat.reduceLeDiff, Nat.reduceEqDiff, ZL, nAdd, nMul, nSub, nLt, nLe, nEq, nCl, nDiv, nRem2, nM1, nM2, nM3, nM4, nM5, nM6, gg_in, gg_rf, gg_T, if_true, if_false, ↓lt_eq, ob_some, b2_some, up1_some, kd_sI, ln_sI, gP_sI, gI_sI, kd_rI, ln_rI, gP_rI, gI_rI, kd_bmp, ln_bmp, gP_bmp, gI_bmp, up_at, i0, i1, RS.f R'.1]
  rcases vP.d m v with hv | ⟨q, hq, rfl⟩
  · refine Pr.thr C R 1 1 rfl (by omega) (by omega) ?_ fun h' R' => ⟨nI 0, ?_⟩
    · unfold MX11_rule
      rw [gg_t X.1, X5 X, gg_t S.1, c_findPart_f S V I.1 hv, ob_some, if_pos rfl]
    · unfold MX12_rule
      rw [gg_t (RS.f R'.1).1, r_isPart_f R'.1 R'.2.1 I.1 hv, ob_some, if_pos (by decide)]
      exact th h' R' 1 (by omega) (by omega)
  · obtain ⟨c, hc, ec, c0, cS, cV⟩ := c_findPart_t S V I.1 hq
    have J := I.2.1 q hq
    rcases ni_d w 601 with hw | ⟨t0, ht0, rfl⟩
    · refine Pr.thr C R 2 2 rfl (by omega) (by omega) ?_ fun h' R' => ⟨nI 0, ?_⟩
      · unfold MX11_rule
        rw [gg_t X.1, X5 X, gg_t S.1, ec, ob_some, if_neg c0, c_isMinute_f hw, ob_some, if_pos (show nI 0 = 0 from rfl)]
      · unfold MX12_rule
        rw [gg_t (RS.f R'.1).1, r_isPart_t R'.1 R'.2.1 I.1 hq, ob_some, if_neg (by decide)]
        simp only [ZL]
        rw [r_isIn_f (by omega) hw, ob_some, if_pos rfl]
        exact th h' R' 2 (by omega) (by omega)
    · have A : Pa tg h c 5 := by rw [hc]; exact Pa.rm K (by rw [← hc]; exact cS) (by rw [← hc]; exact c0)
      obtain ⟨h1, k1, k2, k3, k4, k5, k6⟩ := c_br K S V.rmw I.w cS cV J A hq (nI t0)
      have kb := k3.1.1
      obtain ⟨-, -, v0, v2, v3, v4⟩ := k3
      have pre : MX11_rule h 1 (nI q) (nI t0) u = (if u = nI 0 then gg (kd h1 (gP h 19 14) = 0) (some (.inl (gI h1 (gP h 19 14) 0), h1)) else if u = nI 1 then gg (kd h1 (gP h 19 14) = 0) (some (.inl (gI h1 (gP h 19 14) 2), h1)) else if u = nI 2 then gg (kd h1 (gP h 19 14) = 0) (some (.inl (gI h1 (gP h 19 14) 3), h1)) else if u = nI 3 then gg (kd h1 (gP h 19 14) = 0) (some (.inl (gI h1 (gP h 19 14) 4), h1)) else if u = nI 4 then gg (kd h1 (gP h 19 14) = 0) (some (.inl (gI h1 (gP h 19 14) 5), h1)) else if u = nI 5 then gg (kd h1 (gP h 19 14) = 0) (some (.inl (gI h1 (gP h 19 14) 1), h1)) else some (.inr 4, bmp h1 1 6)) := by
        unfold MX11_rule
        rw [gg_t X.1, X5 X, gg_t S.1, ec, ob_some, if_neg c0, c_isMinute_t ht0, ob_some, if_neg (by decide), k1, b2_some]
        simp only [ZL]
      rcases ni_d u 6 with hu | ⟨j, hj, rfl⟩
      · refine Pr.scE C R 4 3 rfl (by omega) (by omega) ?_ k2 fun h' R' => ⟨nI 0, ?_⟩
        · rw [pre, if_neg (hu 0 (by omega)), if_neg (hu 1 (by omega)), if_neg (hu 2 (by omega)), if_neg (hu 3 (by omega)), if_neg (hu 4 (by omega)), if_neg (hu 5 (by omega))]
        · unfold MX12_rule
          rw [gg_t (RS.f R'.1).1, r_isPart_t R'.1 R'.2.1 I.1 hq, ob_some, if_neg (by decide)]
          simp only [ZL]
          rw [r_isIn_t (by omega) (by omega) (by omega), ob_some, if_neg (by decide), r_isIn_f (by omega) hu, ob_some, if_pos rfl]
          exact th h' R' 3 (by omega) (by omega)
      · have rpre : ∀ h', RSt h' m k i t n f → ∃ h2, Rk (sI h' 73 0 (nI 0)) h2 ∧ RR h2 m (stI m (nI t0) (Nn m 2)) (fcP m q (nI t0)) ∧ MX12_rule h' 73 (nI q) (nI t0) (nI j) = (if nI j = nI 0 then gg (kd h2 73 = 11) (some (gI h2 73 25, h2)) else if nI j = nI 1 then gg (kd h2 73 = 11) (some (gI h2 73 27, h2)) else if nI j = nI 2 then gg (kd h2 73 = 11) (some (gI h2 73 28, h2)) else if nI j = nI 3 then gg (kd h2 73 = 11) (some (gI h2 73 29, h2)) else if nI j = nI 4 then gg (kd h2 73 = 11) (some (gI h2 73 30, h2)) else gg (kd h2 73 = 11) (some (gI h2 73 26, h2))) := fun h' R' => by
          have R0 := R'.th (v := nI 0)
          obtain ⟨h2, a1, a2, a3⟩ := r_tells R0.1 R0.2.1 I.w V.stm hq (nI t0)
          refine ⟨h2, a2, a3, ?_⟩
          unfold MX12_rule
          rw [gg_t (RS.f R'.1).1, r_isPart_t R'.1 R'.2.1 I.1 hq, ob_some, if_neg (by decide)]
          simp only [ZL]
          rw [r_isIn_t (by omega) (by omega) (by omega), ob_some, if_neg (by decide), r_isIn_t (by omega) (by omega) (by omega), ob_some, if_neg (by decide)]
          unfold MX12_rule_42
          simp only [ZL]
          rw [gg_t (RS.f R'.1).1, lt_eq, gg_t (RS.f R'.1).1, th_get, if_pos (by decide), a1, ob_some]
        have fin : ∀ val : Int32, MX11_rule h 1 (nI q) (nI t0) (nI j) = some (.inl val, h1) → (∀ h', RSt h' m k i t n f → ∃ h2, Rk (sI h' 73 0 (nI 0)) h2 ∧ MX12_rule h' 73 (nI q) (nI t0) (nI j) = some (val, h2)) → Pr (cm [1, 2, 4]) Gq h (MX11_rule h 1 (nI q) (nI t0) (nI j)) (fun h' => MX12_rule h' 73 (nI q) (nI t0) (nI j)) := fun val e1 e2 => by
          refine Pr.sc C R val e1 k2 fun h' R' => ?_
          obtain ⟨h2, a1, a2⟩ := e2 h' R'
          exact ⟨h2, a2, th_fr.trans a1.fr, a1.st R'.th, by rw [a1.2.1, th_get]⟩
        rcases d6 hj with rfl | rfl | rfl | rfl | rfl | rfl
        · refine fin (nI (pme m q (nI t0))) (by rw [pre, if_pos rfl, gg_t kb, v0]) fun h' R' => ?_
          obtain ⟨h2, a1, a2, a3⟩ := rpre h' R'
          exact ⟨h2, a1, by rw [a3, if_pos rfl, gg_t (RS.f (a1.rs R'.1.sI)).1, a2.1]; rfl⟩
        · refine fin (nI (ple m q (nI t0))) (by rw [pre, if_neg (by decide), if_pos rfl, gg_t kb, v2]) fun h' R' => ?_
          obtain ⟨h2, a1, a2, a3⟩ := rpre h' R'
          exact ⟨h2, a1, by rw [a3, if_neg (by decide), if_pos rfl, gg_t (RS.f (a1.rs R'.1.sI)).1, a2.2.2.1]; rfl⟩
        · refine fin (nI (pmo m q (nI t0))) (by rw [pre, if_neg (by decide), if_neg (by decide), if_pos rfl, gg_t kb, v3]) fun h' R' => ?_
          obtain ⟨h2, a1, a2, a3⟩ := rpre h' R'
          exact ⟨h2, a1, by rw [a3, if_neg (by decide), if_neg (by decide), if_pos rfl, gg_t (RS.f (a1.rs R'.1.sI)).1, a2.2.2.2.1]; rfl⟩
        · refine fin (nI (pco m q (nI t0))) (by rw [pre, if_neg (by decide), if_neg (by decide), if_neg (by decide), if_pos rfl, gg_t kb, v4]) fun h' R' => ?_
          obtain ⟨h2, a1, a2, a3⟩ := rpre h' R'
          exact ⟨h2, a1, by rw [a3, if_neg (by decide), if_neg (by decide), if_neg (by decide), if_pos rfl, gg_t (RS.f (a1.rs R'.1.sI)).1, a2.2.2.2.2.1]; rfl⟩
        · refine fin (nI (pfa m q (nI t0))) (by rw [pre, if_neg (by decide), if_neg (by decide), if_neg (by decide), if_neg (by decide), if_pos rfl, gg_t kb, k6]) fun h' R' => ?_
          obtain ⟨h2, a1, a2, a3⟩ := rpre h' R'
          exact ⟨h2, a1, by rw [a3, if_neg (by decide), if_neg (by decide), if_neg (by decide), if_neg (by decide), if_pos rfl, gg_t (RS.f (a1.rs R'.1.sI)).1, a2.2.2.2.2.2]; rfl⟩
        · refine fin (lV (pmr m q (nI t0))) (by rw [pre, if_neg (by decide), if_neg (by decide), if_neg (by decide), if_neg (by decide), if_neg (by decide), if_pos rfl, gg_t kb, k5]) fun h' R' => ?_
          obtain ⟨h2, a1, a2, a3⟩ := rpre h' R'
          exact ⟨h2, a1, by rw [a3, if_neg (by decide), if_neg (by decide), if_neg (by decide), if_neg (by decide), if_neg (by decide), gg_t (RS.f (a1.rs R'.1.sI)).1, a2.2.1]; rfl⟩
/-- the class's breaker for part q now, and the reference's -/
theorem br_now (C : CSt tg h m k i t n f) {q c : Nat} (hq : vP m q) (hc : c = gP h (gP h 19 5) q) (c0 : c ≠ 0) (cS : PtS h c) (cV : PtV h c m q) : ∃ h1, MX7_breakerFor h 19 c (m 0) = some (gP h 19 14, h1) ∧ Sc tg 19 5 h h1 ∧ BL h1 (gP h 19 14) m q (pme m q (m 0)) (ple m q (m 0)) (pmo m q (m 0)) (pco m q (m 0)) ∧ BQ h1 (gP h 19 14) := by
  obtain ⟨O, X, X2, S, V, D, DV, I, T, Im, Tr⟩ := id C
  have K := C.rt
  have A : Pa tg h c 5 := by rw [hc]; exact Pa.rm K (by rw [← hc]; exact cS) (by rw [← hc]; exact c0)
  obtain ⟨h1, k1, k2, k3, k4, -⟩ := c_br K S V.rmw I.w cS cV (I.2.1 q hq) A hq (m 0)
  exact ⟨h1, k1, k2, k3, k4⟩
theorem p_hand (C : CSt tg h m k i t n f) (R : RSt h m k i t n f) (v w : Int32) : Pr (cm [1]) Gq h (MX11_hand h 1 v w) (fun h' => MX12_hand h' 73 v w) := by
  obtain ⟨O, X, X2, S, V, D, DV, I, T, Im, Tr⟩ := id C
  rcases vP.d m v with hv | ⟨q, hq, rfl⟩
  · refine Pr.thr C R 1 1 rfl (by omega) (by omega) ?_ fun h' R' => ⟨nI 0, ?_⟩
    · unfold MX11_hand
      rw [gg_t X.1, X5 X, gg_t S.1, c_findPart_f S V I.1 hv, ob_some, if_pos rfl]
    · unfold MX12_hand
      rw [gg_t (RS.f R'.1).1, r_isPart_f R'.1 R'.2.1 I.1 hv, ob_some, if_pos (by decide)]
      simp (disch := omega) only [MX12_hand_14, ↓reduceIte, Nat.reduceLT, Nat.reduceLeDiff, Nat.reduceEqDiff, ZL, nAdd, nMul, nSub, nLt, nLe, nEq, nCl, nDiv, nRem2, nM1, nM2, nM3, nM4, nM5, nM6, gg_in, gg_rf, gg_T, if_true, if_false, ↓lt_eq, ob_some, b2_some, up1_some, kd_sI, ln_sI, gP_sI, gI_sI, kd_rI, ln_rI, gP_rI, gI_rI, kd_bmp, ln_bmp, gP_bmp, gI_bmp, up_at, i0, i1, RS.f R'.1]
  · obtain ⟨c, hc, ec, c0, cS, cV⟩ := c_findPart_t S V I.1 hq
    have J := I.2.1 q hq
    have P := ps_q (q := q) I.w (m 0)
    obtain ⟨h1, k1, k2, k3, k4⟩ := br_now C hq hc c0 cS cV
    have ch := c_hand P k3 I.1 hq J w
    refine Pr.sc C R (hdV w (hdR (tkB m q (pme m q (m 0)) (ple m q (m 0))) (sdB m q (pme m q (m 0)) (ple m q (m 0)) (pmo m q (m 0))) (nP m q) (nP m q) 0 0 0)) ?_ k2 fun h' R' => ?_
    · unfold MX11_hand
      rw [gg_t X.1, X5 X, gg_t S.1, ec, ob_some, if_neg c0, V.1, k1, b2_some, gg_t k3.1.1, ch, ob_some]
    · have R0 := R'.th (v := nI 0)
      obtain ⟨h2, a1, a2, a3⟩ := r_tells R0.1 R0.2.1 I.w V.stm hq (m 0)
      have R2 := a2.st R0
      have rh := r_hand P ⟨a3.1, a3.2.2.1, a3.2.2.2.1, a3.2.2.2.2.1⟩ R2.1 R2.2.1 I.1 hq J w
      have hb := hq.1
      refine ⟨h2, ?_, th_fr.trans a2.fr, R2, by rw [a2.2.1, th_get]⟩
      unfold MX12_hand
      rw [gg_t (RS.f R'.1).1, r_isPart_t R'.1 R'.2.1 I.1 hq, ob_some, if_neg (by decide)]
      unfold MX12_hand_14
      simp only [ZL]
      rw [gg_t (RS.f R'.1).1, lt_eq, gg_t (RS.f R'.1).1, th_get, if_pos (by decide)]
      have e0 : gI (sI h' 73 0 (nI 0)) 74 0 = m 0 := by rw [R0.2.1]
      simp (disch := omega) only [RS.f R'.1, gg_rf, gg_T, gg_in, nCl, e0, a1, ob_some, RS.f R2.1, r_part0, nAdd, R2.2.1, (J.n).1]
      exact rh
theorem p_best (C : CSt tg h m k i t n f) (R : RSt h m k i t n f) (v w : Int32) : Pr (cm [1, 4]) Gq h (MX11_best h 1 v w) (fun h' => MX12_best h' 73 v w) := by
  obtain ⟨O, X, X2, S, V, D, DV, I, T, Im, Tr⟩ := id C
  have K := C.rt
  have th : ∀ h', RSt h' m k i t n f → ∀ c, 1 ≤ c → c ≤ 4 → MX12_best_27 h' 73 v w 73 (nI c) = some (nI 0, sI h' 73 0 (nI c)) := fun h' R' c h1 h4 => by
    simp (disch := omega) only [MX12_best_27, ↓reduceIte, Nat.reduceLT, Nat.reduceLeDiff, Nat.reduceEqDiff, ZL, nAdd, nMul, nSub, nLt, nLe, nEq, nCl, nDiv, nRem2, nM1, nM2, nM3, nM4, nM5, nM6, gg_in, gg_rf, gg_T, if_true, if_false, ↓lt_eq, ob_some, b2_some, up1_some, kd_sI, ln_sI, gP_sI, gI_sI, kd_rI, ln_rI, gP_rI, gI_rI, kd_bmp, ln_bmp, gP_bmp, gI_bmp, up_at, i0, i1, RS.f R'.1]
  rcases vP.d m v with hv | ⟨q, hq, rfl⟩
  · refine Pr.thr C R 1 1 rfl (by omega) (by omega) ?_ fun h' R' => ⟨nI 0, ?_⟩
    · unfold MX11_best
      rw [gg_t X.1, X5 X, gg_t S.1, c_findPart_f S V I.1 hv, ob_some, if_pos rfl]
    · unfold MX12_best
      rw [gg_t (RS.f R'.1).1, r_isPart_f R'.1 R'.2.1 I.1 hv, ob_some, if_pos (by decide)]
      exact th h' R' 1 (by omega) (by omega)
  · obtain ⟨c, hc, ec, c0, cS, cV⟩ := c_findPart_t S V I.1 hq
    have J := I.2.1 q hq
    have P := ps_q (q := q) I.w (m 0)
    have hb := hq.1
    obtain ⟨-, j40, j1⟩ := J.n
    obtain ⟨h1, k1, k2, k3, k4⟩ := br_now C hq hc c0 cS cV
    rcases ni_d w 3 with hw | ⟨j, hj, rfl⟩
    · refine Pr.scE C R 4 2 rfl (by omega) (by omega) ?_ k2 fun h' R' => ⟨nI 0, ?_⟩
      · unfold MX11_best
        rw [gg_t X.1, X5 X, gg_t S.1, ec, ob_some, if_neg c0, V.1, k1, b2_some]
        simp only [ZL]
        rw [if_neg (hw 0 (by omega)), if_neg (hw 1 (by omega)), if_neg (hw 2 (by omega))]
      · unfold MX12_best
        rw [gg_t (RS.f R'.1).1, r_isPart_t R'.1 R'.2.1 I.1 hq, ob_some, if_neg (by decide)]
        simp only [ZL]
        rw [r_isIn_f (by omega) hw, ob_some, if_pos rfl]
        exact th h' R' 2 (by omega) (by omega)
    · obtain ⟨D0, hD0⟩ : ∃ D0, D0 = wyT m q (m 0) := ⟨_, rfl⟩
      -- the reference
      have rpre : ∀ h', RSt h' m k i t n f → ∃ h2, Rk (sI h' 73 0 (nI 0)) h2 ∧ RR h2 m (stI m (m 0) (Nn m 2)) (fcP m q (m 0)) ∧ AW h2 D0 0 (nP m q) ∧ MX12_best h' 73 (nI q) (nI j) = (if nI j = nI 2 then b2 (MX12_reach h2 73 (nI q)) (fun t31 h30 => some (t31, h30)) else if enBd (D0 0) = -nI 1 then some (-nI 1, h2) else if nI j = nI 0 then some (gI h2 88 0, h2) else some (enBd (D0 0), h2)) := fun h' R' => by
        have R0 := R'.th (v := nI 0)
        obtain ⟨h2, a1, a2, a3, a4⟩ := r_work R0.1 R0.2.1 I.w V.stm hq J (m 0)
        have R2 := a2.st R0
        rw [← hD0] at a4
        refine ⟨h2, a2, a3, a4, ?_⟩
        unfold MX12_best
        rw [gg_t (RS.f R'.1).1, r_isPart_t R'.1 R'.2.1 I.1 hq, ob_some, if_neg (by decide)]
        simp only [ZL]
        rw [r_isIn_t (by omega) (by omega) (by omega), ob_some, if_neg (by decide)]
        unfold MX12_best_27
        simp only [ZL]
        rw [gg_t (RS.f R'.1).1, lt_eq, gg_t (RS.f R'.1).1, th_get, if_pos (by decide)]
        have e0 : gI (sI h' 73 0 (nI 0)) 74 0 = m 0 := by rw [R0.2.1]
        simp (disch := omega) only [RS.f R'.1, gg_rf, gg_T, gg_in, nCl, e0, a1, ob_some, RS.f R2.1, (a4 0 (by omega) (by omega)).1]
      have fin : ∀ (val : Int32) (g : Hp), MX11_best h 1 (nI q) (nI j) = some (.inl val, g) → Sc tg 19 5 h g → (∀ h', RSt h' m k i t n f → ∃ h2, Rk (sI h' 73 0 (nI 0)) h2 ∧ MX12_best h' 73 (nI q) (nI j) = some (val, h2)) → Pr (cm [1, 4]) Gq h (MX11_best h 1 (nI q) (nI j)) (fun h' => MX12_best h' 73 (nI q) (nI j)) := fun val g e1 ks e2 => by
        refine Pr.sc C R val e1 ks fun h' R' => ?_
        obtain ⟨h2, a1, a2⟩ := e2 h' R'
        exact ⟨h2, a2, th_fr.trans a1.fr, a1.st R'.th, by rw [a1.2.1, th_get]⟩
      obtain ⟨g, s1, s2, s3⟩ := c_solve P k3 k4 I.1 hq J (fr := 0) (by omega)
      have s1 : MX0_solve h1 (gP h 19 14) (nI 0) = some (enL (D0 0), g) := by rw [hD0]; exact s1
      have ks := sc_dw K S k2 s2
      have ep : gP g = gP h1 := s2.2.2.1
      have gB : BrS g (gP h 19 14) := (k3.fr k4 s2).1
      rcases (show j = 0 ∨ j = 1 ∨ j = 2 by omega) with rfl | rfl | rfl
      · refine fin (enL (D0 0)) g ?_ ks fun h' R' => ?_
        · unfold MX11_best
          rw [gg_t X.1, X5 X, gg_t S.1, ec, ob_some, if_neg c0, V.1, k1, b2_some]
          simp only [ZL]
          rw [if_pos trivial, gg_t k3.1.1, s1, b2_some]
        · obtain ⟨h2, a1, a2, a3, a4⟩ := rpre h' R'
          refine ⟨h2, a1, ?_⟩
          rw [a4, if_neg (by decide)]
          cases hv : D0 0 with
          | none => rw [if_pos (show enBd none = -nI 1 from rfl)]; rfl
          | some y =>
            have yb := (wyD_b P J (Nat.zero_le _) (by rw [← hv, hD0]; rfl)).1
            rw [if_neg (by rw [show enBd (some y) = nI y.1 from rfl, nM6 (by omega)]; exact id), if_pos rfl, ((a3 0 (by omega) (by omega)).2 y hv).1]
            rfl
      · cases hv : D0 0 with
        | none =>
          rw [hv] at s1
          refine fin (-nI 1) g ?_ ks fun h' R' => ?_
          · unfold MX11_best
            rw [gg_t X.1, X5 X, gg_t S.1, ec, ob_some, if_neg c0, V.1, k1, b2_some]
            simp only [ZL]
            rw [if_neg (by decide), if_pos trivial, gg_t k3.1.1, s1, b2_some, if_pos (show enL none = -nI 1 from rfl)]
          · obtain ⟨h2, a1, a2, a3, a4⟩ := rpre h' R'
            refine ⟨h2, a1, ?_⟩
            rw [a4, hv, if_neg (by decide), if_pos (show enBd none = -nI 1 from rfl)]
        | some y =>
          have yb := wyD_b P J (Nat.zero_le _) (show wyD m q (pme m q (m 0)) (ple m q (m 0)) (pmo m q (m 0)) (pco m q (m 0)) 0 = some y by rw [← hv, hD0]; rfl)
          rw [hv] at s1
          have bz := ((s3 0 (by omega) (by omega)).2 y (by rw [← hv, hD0]; rfl)).1
          obtain ⟨-, g10, l10⟩ := gB.2.2.2.1
          refine fin (nI y.1) g ?_ ks fun h' R' => ?_
          · unfold MX11_best MX0_badnessFrom
            rw [gg_t X.1, X5 X, gg_t S.1, ec, ob_some, if_neg c0, V.1, k1, b2_some]
            simp only [ZL]
            rw [if_neg (by decide), if_pos trivial, gg_t k3.1.1, s1, b2_some, if_neg (by rw [show enL (some y) = nI y.2.1 from rfl, nM6 (by omega)]; exact id), gg_t gB.1, gg_t gB.1, gg_t g10, l10, gg_in (by omega) (by omega), nCl (by omega), bz, ob_some]
          · obtain ⟨h2, a1, a2, a3, a4⟩ := rpre h' R'
            refine ⟨h2, a1, ?_⟩
            rw [a4, hv, if_neg (by decide), if_neg (by rw [show enBd (some y) = nI y.1 from rfl, nM6 (by omega)]; exact id), if_neg (by decide)]
            rfl
      · obtain ⟨g2, r1, r2⟩ := c_reach P k3 k4 I.1 hq J
        refine fin _ g2 (by
          unfold MX11_best
          rw [gg_t X.1, X5 X, gg_t S.1, ec, ob_some, if_neg c0, V.1, k1, b2_some]
          simp only [ZL]
          rw [if_neg (by decide), if_neg (by decide), if_pos trivial, gg_t k3.1.1, r1, b2_some]) (sc_dw K S k2 r2) fun h' R' => ?_
        obtain ⟨h2, a1, a2, a3, a4⟩ := rpre h' R'
        have R2 := a1.st (R'.th (v := nI 0))
        obtain ⟨h3, b1, b2⟩ := r_reach P ⟨a2.1, a2.2.2.1, a2.2.2.2.1, a2.2.2.2.2.1⟩ R2.1 R2.2.1 I.1 hq J
        refine ⟨h3, a1.trans (Rk.w b2 (fun b z => by omega)), ?_⟩
        rw [a4, if_pos rfl, b1, b2_some]
end
