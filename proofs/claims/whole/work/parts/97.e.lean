/-! the reach by the reference; by hand on both sides -/
section
variable {h h1 h2 h' : Hp} {m : Nat → Int32} {q b me le mo co : Nat}
theorem r_reach (P : Ps me le mo co) (L : RLn h me le mo co) (R : RS h) (em : gI h 74 = m) (B : MIb m) (hq : vP m q) (J : MIp m q) : ∃ h1, MX12_reach h 73 (nI q) = some (nI (mxN (rcT (fun a j => sdB m q me le mo a (j - 1)) (nP m q) (nP m q)) (nP m q)), h1) ∧ Fr (fun c => c = 92) h h1 := by
  obtain ⟨S, hS⟩ : ∃ S : Nat → Nat → Bool, S = fun a j => sdB m q me le mo a (j - 1) := ⟨_, rfl⟩
  rw [← hS]
  obtain ⟨n, hn⟩ : ∃ n, n = nP m q := ⟨_, rfl⟩
  obtain ⟨j1, j40, j3⟩ := J.n
  have hb := hq.1
  rw [← hn] at j40 j1 j3 ⊢
  have keep : ∀ {g : Hp}, Fr (fun c => c = 92) h g → RS g ∧ RLn g me le mo co ∧ gI g 74 = m := fun G => ⟨R.fr G, L.fr (G.2.2.2.2.2.2 73 (by omega)), by rw [G.2.2.2.2.2.2 74 (by omega)]; exact em⟩
  have e0 : MX12_reach h 73 (nI q) = MX12_reach_14 h 73 (nI q) (nI n) (nI 1) := by
    unfold MX12_reach
    rw [gg_t (RS.f R).1, r_part0, ob_some]
    simp (disch := omega) only [↓reduceIte, Nat.reduceLT, Nat.reduceLeDiff, Nat.reduceEqDiff, ZL, nAdd, nMul, nSub, nLt, nLe, nEq, nCl, nDiv, nRem2, nM1, nM2, nM3, nM4, nM5, nM6, gg_in, gg_rf, gg_T, if_true, if_false, ↓lt_eq, ob_some, b2_some, up1_some, kd_sI, ln_sI, gP_sI, gI_sI, kd_rI, ln_rI, gP_rI, gI_rI, kd_bmp, ln_bmp, gP_bmp, gI_bmp, up_at, i0, i1, RS.f R, em, j1]
  rw [e0]
  -- behind the first loop
  have outer : ∀ g, Fr (fun c => c = 92) h g → (∀ j, j ≤ 40 → gI g 92 j = bI (decide (j = 0))) → ∃ h1, MX12_reach_45 g 73 (nI q) (nI n) (nI 0) (nI 0) = some (nI (mxN (rcT S n n) n), h1) ∧ Fr (fun c => c = 92) h h1 := fun g G hg => by
    unfold MX12_reach_45
    have K : ∃ r, it (fun s : Int32 × Int32 × Hp => BX12_reach_45 s.2.2 73 (nI q) (nI n) s.1 s.2.1) (nI 0, nI 0, g) = some r ∧ (r.1 = nI (mxN (rcT S n n) n) ∧ Fr (fun c => c = 92) h r.2) := by
      refine it_cnt (fun i s => s.1 = nI (mxN (rcT S n i) i) ∧ s.2.1 = nI i ∧ Fr (fun c => c = 92) h s.2.2 ∧ ∀ j, j ≤ n → gI s.2.2 92 j = bI (rcT S n i j)) n (fun i s hi p => ?_) (fun s p => ?_) ⟨rfl, rfl, G, fun j hj => hg j (by omega)⟩
      · obtain ⟨a1, a2, f⟩ := s
        obtain ⟨p1, p2, G', p4⟩ := p
        replace p1 : a1 = nI (mxN (rcT S n i) i) := p1
        replace p2 : a2 = nI i := p2
        replace G' : Fr (fun c => c = 92) h f := G'
        replace p4 : ∀ j, j ≤ n → gI f 92 j = bI (rcT S n i j) := p4
        subst p1 p2
        have e1 : BX12_reach_45 f 73 (nI q) (nI n) (nI (mxN (rcT S n i) i)) (nI i) = MX12_reach_57 f 73 (nI q) (nI n) (nI (mxN (rcT S n i) i)) (nI i) (nI (i + 1)) := by
          unfold BX12_reach_45
          rw [if_neg (nI_ge hi (by omega)), nI_1]
        show ∃ s', BX12_reach_45 f 73 (nI q) (nI n) (nI (mxN (rcT S n i) i)) (nI i) = some (.inl s') ∧ _
        rw [e1]
        unfold MX12_reach_57
        -- what 115 does
        have w115 : ∀ g1, Fr (fun c => c = 92) h g1 → (∀ j, j ≤ n → gI g1 92 j = bI (rcT S n (i + 1) j)) → MX12_reach_115 g1 73 (nI q) (nI n) (nI (mxN (rcT S n i) i)) (nI i) = some (.inl (nI (mxN (rcT S n (i + 1)) (i + 1)), nI (i + 1), g1)) := fun g1 G1 hg1 => by
          obtain ⟨R1, -, -⟩ := keep G1
          have e5 := hg1 (i + 1) (by omega)
          have e6 : mxN (rcT S n (i + 1)) i = mxN (rcT S n i) i := mxN_c i (fun j _ hj => rcT_lo hj)
          unfold MX12_reach_115
          cases hv : rcT S n (i + 1) (i + 1) with
          | true =>
            rw [hv] at e5
            have e7 : mxN (rcT S n (i + 1)) (i + 1) = i + 1 := if_pos hv
            rw [e7]
            simp (disch := omega) only [↓reduceIte, Nat.reduceLT, Nat.reduceLeDiff, Nat.reduceEqDiff, ZL, nAdd, nMul, nSub, nLt, nLe, nEq, nCl, nDiv, nRem2, nM1, nM2, nM3, nM4, nM5, nM6, gg_in, gg_rf, gg_T, if_true, if_false, ↓lt_eq, ob_some, b2_some, up1_some, kd_sI, ln_sI, gP_sI, gI_sI, kd_rI, ln_rI, gP_rI, gI_rI, kd_bmp, ln_bmp, gP_bmp, gI_bmp, up_at, i0, i1, RS.f R1, e5, bIT, n10]
          | false =>
            rw [hv] at e5
            have e7 : mxN (rcT S n (i + 1)) (i + 1) = mxN (rcT S n i) i := by rw [← e6]; exact if_neg (by rw [hv]; simp)
            rw [e7]
            simp (disch := omega) only [↓reduceIte, Nat.reduceLT, Nat.reduceLeDiff, Nat.reduceEqDiff, ZL, nAdd, nMul, nSub, nLt, nLe, nEq, nCl, nDiv, nRem2, nM1, nM2, nM3, nM4, nM5, nM6, gg_in, gg_rf, gg_T, if_true, if_false, ↓lt_eq, ob_some, b2_some, up1_some, kd_sI, ln_sI, gP_sI, gI_sI, kd_rI, ln_rI, gP_rI, gI_rI, kd_bmp, ln_bmp, gP_bmp, gI_bmp, up_at, i0, i1, RS.f R1, e5, bIF]
        cases hri : rcT S n i i with
        | false =>
          have e2 : rcT S n (i + 1) = rcT S n i := by rw [← rcP_n (by omega), rcP_f hri]
          refine ⟨(nI (mxN (rcT S n (i + 1)) (i + 1)), nI (i + 1), f), it_done ?_, rfl, rfl, G', by rw [e2]; exact p4⟩
          show BX12_reach_57 f 73 (nI q) (nI n) (nI (mxN (rcT S n i) i)) (nI i) (nI (i + 1)) = _
          obtain ⟨R1, -, -⟩ := keep G'
          have e5 := p4 i (by omega)
          rw [hri] at e5
          unfold BX12_reach_57
          rw [if_neg (nI_nlt (by omega) (by omega)), gg_t (RS.f R1).1, w115 f G' (by rw [e2]; exact p4)]
          simp (disch := omega) only [↓reduceIte, Nat.reduceLT, Nat.reduceLeDiff, Nat.reduceEqDiff, ZL, nAdd, nMul, nSub, nLt, nLe, nEq, nCl, nDiv, nRem2, nM1, nM2, nM3, nM4, nM5, nM6, gg_in, gg_rf, gg_T, if_true, if_false, ↓lt_eq, ob_some, b2_some, up1_some, kd_sI, ln_sI, gP_sI, gI_sI, kd_rI, ln_rI, gP_rI, gI_rI, kd_bmp, ln_bmp, gP_bmp, gI_bmp, up_at, i0, i1, RS.f R1, e5, bIF]
        | true =>
          have K2 : ∃ r, it (fun s : Int32 × Hp => BX12_reach_57 s.2 73 (nI q) (nI n) (nI (mxN (rcT S n i) i)) (nI i) s.1) (nI (i + 1), f) = some r ∧ (∃ g1, r = .inl (nI (mxN (rcT S n (i + 1)) (i + 1)), nI (i + 1), g1) ∧ Fr (fun c => c = 92) h g1 ∧ ∀ j, j ≤ n → gI g1 92 j = bI (rcT S n (i + 1) j)) := by
            refine it_cnt (fun d s => s.1 = nI (i + 1 + d) ∧ Fr (fun c => c = 92) h s.2 ∧ ∀ j, j ≤ n → gI s.2 92 j = bI (rcP S n i d j)) (n - i) (fun d s hd p => ?_) (fun s p => ?_) ⟨rfl, G', fun j hj => by rw [rcP_0]; exact p4 j hj⟩
            · obtain ⟨a1, g1⟩ := s
              obtain ⟨p1, G1, p5⟩ := p
              replace p1 : a1 = nI (i + 1 + d) := p1
              replace G1 : Fr (fun c => c = 92) h g1 := G1
              replace p5 : ∀ j, j ≤ n → gI g1 92 j = bI (rcP S n i d j) := p5
              subst p1
              obtain ⟨R1, L1, m1⟩ := keep G1
              have st := r_isStanding P L1 R1 m1 B hq J (i := i) (k := i + d) (by omega) (by omega)
              have eS : S i (i + d + 1) = sdB m q me le mo i (i + d) := by rw [hS]; rfl
              rw [← eS] at st
              have ei := p5 i (by omega)
              rw [rcP_i, hri] at ei
              have ej := p5 (i + 1 + d) (by omega)
              have new : ∀ v : Bool, v = (rcP S n i d (i + 1 + d) || S i (i + d + 1)) → BX12_reach_57 g1 73 (nI q) (nI n) (nI (mxN (rcT S n i) i)) (nI i) (nI (i + 1 + d)) = some (.inl (nI (i + 1 + (d + 1)), sI g1 92 (i + 1 + d) (bI v))) := fun v hv => by
                have sb : nI (i + 1 + d) - nI 1 = nI (i + d) := by rw [pk_sub (by omega)]; exact congrArg nI (by omega)
                unfold BX12_reach_57
                rw [if_neg (nI_nlt (by omega) (by omega)), gg_t (RS.f R1).1]
                simp only [ZL]
                rw [sb, st, ob_some]
                cases h9 : rcP S n i d (i + 1 + d) with
                | true =>
                  rw [h9] at ej hv
                  rw [Bool.true_or] at hv
                  subst hv
                  simp (disch := omega) only [MX12_reach_103, MX12_reach_108, ↓reduceIte, Nat.reduceLT, Nat.reduceLeDiff, Nat.reduceEqDiff, ZL, nAdd, nMul, nSub, nLt, nLe, nEq, nCl, nDiv, nRem2, nM1, nM2, nM3, nM4, nM5, nM6, gg_in, gg_rf, gg_T, if_true, if_false, ↓lt_eq, ob_some, b2_some, up1_some, kd_sI, ln_sI, gP_sI, gI_sI, kd_rI, ln_rI, gP_rI, gI_rI, kd_bmp, ln_bmp, gP_bmp, gI_bmp, up_at, i0, i1, RS.f R1, ei, ej, bIT, n10, vB1]
                  rfl
                | false =>
                  rw [h9] at ej hv
                  rw [Bool.false_or] at hv
                  subst hv
                  cases h8 : S i (i + d + 1) with
                  | true =>
                    simp (disch := omega) only [MX12_reach_103, MX12_reach_108, ↓reduceIte, Nat.reduceLT, Nat.reduceLeDiff, Nat.reduceEqDiff, ZL, nAdd, nMul, nSub, nLt, nLe, nEq, nCl, nDiv, nRem2, nM1, nM2, nM3, nM4, nM5, nM6, gg_in, gg_rf, gg_T, if_true, if_false, ↓lt_eq, ob_some, b2_some, up1_some, kd_sI, ln_sI, gP_sI, gI_sI, kd_rI, ln_rI, gP_rI, gI_rI, kd_bmp, ln_bmp, gP_bmp, gI_bmp, up_at, i0, i1, RS.f R1, ei, ej, bIT, bIF, n10, vB1]
                    rfl
                  | false =>
                    simp (disch := omega) only [MX12_reach_103, MX12_reach_108, ↓reduceIte, Nat.reduceLT, Nat.reduceLeDiff, Nat.reduceEqDiff, ZL, nAdd, nMul, nSub, nLt, nLe, nEq, nCl, nDiv, nRem2, nM1, nM2, nM3, nM4, nM5, nM6, gg_in, gg_rf, gg_T, if_true, if_false, ↓lt_eq, ob_some, b2_some, up1_some, kd_sI, ln_sI, gP_sI, gI_sI, kd_rI, ln_rI, gP_rI, gI_rI, kd_bmp, ln_bmp, gP_bmp, gI_bmp, up_at, i0, i1, RS.f R1, ei, ej, bIT, bIF, n10, vB0]
                    rfl
              refine ⟨_, new _ rfl, rfl, G1.trans (Fr.sI (S := fun c => c = 92) rfl), fun j hj => ?_⟩
              show gI (sI g1 92 (i + 1 + d) _) 92 j = _
              rw [gI_sI, if_pos (Eq.refl 92), up_at]
              by_cases y : j = i + 1 + d
              · rw [if_pos y, y]
                exact congrArg bI (bool_c (by
                  rw [rcP_s hri, Bool.or_eq_true]
                  exact ⟨fun z => z.imp id (fun w => ⟨by omega, w⟩), fun z => z.imp id (fun w => w.2)⟩))
              · rw [if_neg y, p5 j hj]
                exact congrArg bI (bool_c (by
                  rw [rcP_s hri]
                  exact ⟨fun z => Or.inl z, fun z => z.elim id (fun w => absurd w.1 (by omega))⟩))
            · obtain ⟨a1, g1⟩ := s
              obtain ⟨p1, G1, p5⟩ := p
              replace p1 : a1 = nI (i + 1 + (n - i)) := p1
              replace G1 : Fr (fun c => c = 92) h g1 := G1
              replace p5 : ∀ j, j ≤ n → gI g1 92 j = bI (rcP S n i (n - i) j) := p5
              rw [rcP_n (by omega)] at p5
              rw [show i + 1 + (n - i) = n + 1 by omega] at p1
              subst p1
              refine ⟨_, ?_, g1, rfl, G1, p5⟩
              show BX12_reach_57 g1 73 (nI q) (nI n) (nI (mxN (rcT S n i) i)) (nI i) (nI (n + 1)) = _
              unfold BX12_reach_57
              rw [if_pos (nI_lt (by omega) (by omega)), w115 g1 G1 p5]
              rfl
          obtain ⟨r, k1, g1, k2, k3, k4⟩ := K2
          exact ⟨_, by rw [k1, k2], rfl, rfl, k3, k4⟩
      · obtain ⟨a1, a2, f⟩ := s
        obtain ⟨p1, p2, G', p4⟩ := p
        replace p1 : a1 = nI (mxN (rcT S n n) n) := p1
        replace p2 : a2 = nI n := p2
        replace G' : Fr (fun c => c = 92) h f := G'
        subst p1 p2
        refine ⟨(nI (mxN (rcT S n n) n), f), ?_, rfl, G'⟩
        show BX12_reach_45 f 73 (nI q) (nI n) (nI (mxN (rcT S n n) n)) (nI n) = _
        unfold BX12_reach_45
        rw [if_pos (nI_le (Nat.le_refl n) (by omega))]
    obtain ⟨⟨a1, f⟩, k1, k2, k3⟩ := K
    replace k2 : a1 = nI (mxN (rcT S n n) n) := k2
    exact ⟨f, by rw [k1, k2], k3⟩
  unfold MX12_reach_14
  have K1 : ∃ r, it (fun s : Int32 × Hp => BX12_reach_14 s.2 73 (nI q) (nI n) s.1) (nI 1, h) = some r ∧ (r.1 = nI (mxN (rcT S n n) n) ∧ Fr (fun c => c = 92) h r.2) := by
    refine it_cnt (fun i s => s.1 = nI (i + 1) ∧ Fr (fun c => c = 92) h s.2 ∧ ∀ j, 1 ≤ j → j < i + 1 → gI s.2 92 j = nI 0) 40 (fun i s hi p => ?_) (fun s p => ?_) ⟨rfl, Fr.rfl, fun j h1 h2 => absurd h2 (by omega)⟩
    · obtain ⟨a1, g⟩ := s
      obtain ⟨p1, G, p3⟩ := p
      replace p1 : a1 = nI (i + 1) := p1
      replace G : Fr (fun c => c = 92) h g := G
      replace p3 : ∀ j, 1 ≤ j → j < i + 1 → gI g 92 j = nI 0 := p3
      subst p1
      obtain ⟨R1, -, -⟩ := keep G
      refine ⟨(nI (i + 1 + 1), sI g 92 (i + 1) (nI 0)), ?_, rfl, G.trans (Fr.sI (S := fun c => c = 92) rfl), fun j h1 h2 => ?_⟩
      · show BX12_reach_14 g 73 (nI q) (nI n) (nI (i + 1)) = _
        unfold BX12_reach_14
        simp (disch := omega) only [↓reduceIte, Nat.reduceLT, Nat.reduceLeDiff, Nat.reduceEqDiff, ZL, nAdd, nMul, nSub, nLt, nLe, nEq, nCl, nDiv, nRem2, nM1, nM2, nM3, nM4, nM5, nM6, gg_in, gg_rf, gg_T, if_true, if_false, ↓lt_eq, ob_some, b2_some, up1_some, kd_sI, ln_sI, gP_sI, gI_sI, kd_rI, ln_rI, gP_rI, gI_rI, kd_bmp, ln_bmp, gP_bmp, gI_bmp, up_at, i0, i1, RS.f R1, vB0]
      · show gI (sI g 92 (i + 1) (nI 0)) 92 j = _
        rw [gI_sI, if_pos (Eq.refl 92), up_at]
        by_cases y : j = i + 1
        · rw [if_pos y]
        · rw [if_neg y]; exact p3 j h1 (by omega)
    · obtain ⟨a1, g⟩ := s
      obtain ⟨p1, G, p3⟩ := p
      replace p1 : a1 = nI 41 := p1
      replace G : Fr (fun c => c = 92) h g := G
      replace p3 : ∀ j, 1 ≤ j → j < 41 → gI g 92 j = nI 0 := p3
      subst p1
      obtain ⟨R1, -, -⟩ := keep G
      obtain ⟨g1, k1, k2⟩ := outer (sI g 92 0 (nI 1)) (G.trans (Fr.sI (S := fun c => c = 92) rfl)) (fun j hj => by
        rw [gI_sI, if_pos (Eq.refl 92), up_at]
        by_cases y : j = 0
        · rw [if_pos y, decide_eq_true y]; rfl
        · rw [if_neg y, decide_eq_false y]; exact p3 j (by omega) (by omega))
      refine ⟨(nI (mxN (rcT S n n) n), g1), ?_, rfl, k2⟩
      show BX12_reach_14 g 73 (nI q) (nI n) (nI 41) = _
      have e33 : MX12_reach_33 g 73 (nI q) (nI n) = some (nI (mxN (rcT S n n) n), g1) := by
        rw [← k1]
        unfold MX12_reach_33
        simp (disch := omega) only [↓reduceIte, Nat.reduceLT, Nat.reduceLeDiff, Nat.reduceEqDiff, ZL, nAdd, nMul, nSub, nLt, nLe, nEq, nCl, nDiv, nRem2, nM1, nM2, nM3, nM4, nM5, nM6, gg_in, gg_rf, gg_T, if_true, if_false, ↓lt_eq, ob_some, b2_some, up1_some, kd_sI, ln_sI, gP_sI, gI_sI, kd_rI, ln_rI, gP_rI, gI_rI, kd_bmp, ln_bmp, gP_bmp, gI_bmp, up_at, i0, i1, RS.f R1, vB1]
      unfold BX12_reach_14
      simp only [ZL]
      rw [if_pos (nI_le (by omega) (by omega)), e33]
      rfl
  obtain ⟨⟨a1, f⟩, k1, k2, k3⟩ := K1
  replace k2 : a1 = nI (mxN (rcT S n n) n) := k2
  exact ⟨f, by rw [k1, k2], k3⟩
theorem sp_lt0 {t me : Nat} (hm : me ≤ 400) (ht : t < 1073741824) : (nI me - nI t < nI 0) = ¬ (t ≤ me) := by
  refine propext ⟨fun z w => ?_, fun w => pk_sneg (by omega) (by omega)⟩
  rw [pk_sub w] at z
  exact absurd z (nI_nlt (by omega) (by omega))
/-- as many pieces as a line by hand takes -/
def tkB (m : Nat → Int32) (q me le a b : Nat) : Bool := decide (tiN m q le a b ≤ me)
theorem c_longest (P : Ps me le mo co) (L : BL h b m q me le mo co) (B : MIb m) (hq : vP m q) (J : MIp m q) {i : Nat} (hi : i < nP m q) : MX0_longestFrom h b (nI i) = some (lV (lgN (tkB m q me le) i (nP m q - i))) := by
  obtain ⟨n, hn⟩ : ∃ n, n = nP m q := ⟨_, rfl⟩
  have j40 := (J.n).2.1
  have c6 : gI h b 6 = nI n := by rw [hn]; exact L.2.1.1
  rw [← hn] at hi j40 ⊢
  unfold MX0_longestFrom MX0_longestFrom_4
  refine it_seq2 (fun d => (lV (lgN (tkB m q me le) i d), nI (i + d))) (n - i) rfl (fun d hd => ?_) ?_
  · show BX0_longestFrom_4 h b (nI i) (lV (lgN (tkB m q me le) i d)) (nI (i + d)) = some (.inl (lV (if tkB m q me le i (i + d) = true then i + d + 1 else lgN (tkB m q me le) i d), nI (i + d + 1)))
    have sp := c_spare L J (i := i) (k := i + d) (by omega) (by omega)
    have tl := ti_le B hq J (a := i) (b := i + d) (le := le) (by omega) (by have := P.2.2.2; omega)
    unfold BX0_longestFrom_4
    rw [gg_t L.1.1, c6, if_neg (nI_ge (by omega) (by omega)), sp, ob_some]
    simp only [ZL]
    rw [nAdd]
    unfold tkB
    by_cases z : tiN m q le i (i + d) ≤ me
    · rw [if_neg (by rw [sp_lt0 P.2.1 (by omega)]; exact fun w => w z), if_pos (decide_eq_true z)]
      rfl
    · rw [if_pos (by rw [sp_lt0 P.2.1 (by omega)]; exact z), if_neg (by rw [decide_eq_false z]; simp)]
  · show BX0_longestFrom_4 h b (nI i) (lV (lgN (tkB m q me le) i (n - i))) (nI (i + (n - i))) = _
    unfold BX0_longestFrom_4
    rw [gg_t L.1.1, c6, if_pos (nI_le (by omega) (by omega))]
theorem c_hand (P : Ps me le mo co) (L : BL h b m q me le mo co) (B : MIb m) (hq : vP m q) (J : MIp m q) (v : Int32) : MX0_byHand h b v = some (hdV v (hdR (tkB m q me le) (sdB m q me le mo) (nP m q) (nP m q) 0 0 0)) := by
  obtain ⟨n, hn⟩ : ∃ n, n = nP m q := ⟨_, rfl⟩
  have j40 := (J.n).2.1
  have c6 : gI h b 6 = nI n := by rw [hn]; exact L.2.1.1
  rw [← hn] at j40 ⊢
  have K : ∀ f i l s, n ≤ i + f → l ≤ i → i ≤ n → it (fun z : Int32 × Int32 × Int32 => BX0_byHand_7 h b v z.1 z.2.1 z.2.2) (nI i, nI l, nI s) = some (hdV v (hdR (tkB m q me le) (sdB m q me le mo) n f i l s)) := by
    intro f
    induction f with
    | zero =>
      intro i l s h1 h2 h3
      refine it_done ?_
      show BX0_byHand_7 h b v (nI i) (nI l) (nI s) = _
      unfold BX0_byHand_7 MX0_byHand_68
      rw [gg_t L.1.1, c6, if_pos (nI_le (by omega) (by omega))]
      simp only [ZL]
      show _ = some (Sum.inr (if v = nI 0 then nI l else nI s))
      by_cases z : v = nI 0
      · rw [if_pos z, if_pos z]; rfl
      · rw [if_neg z, if_neg z]; rfl
    | succ f ih =>
      intro i l s h1 h2 h3
      unfold hdR
      by_cases z0 : n ≤ i
      · rw [if_pos z0]
        refine it_done ?_
        show BX0_byHand_7 h b v (nI i) (nI l) (nI s) = _
        unfold BX0_byHand_7 MX0_byHand_68
        rw [gg_t L.1.1, c6, if_pos (nI_le (by omega) (by omega))]
        simp only [ZL]
        show _ = some (Sum.inr (if v = nI 0 then nI l else nI s))
        by_cases z : v = nI 0
        · rw [if_pos z, if_pos z]; rfl
        · rw [if_neg z, if_neg z]; rfl
      · rw [if_neg z0]
        have lg := c_longest P L B hq J (i := i) (by omega)
        rw [← hn] at lg
        obtain ⟨b1, b2⟩ := lgN_b (t := tkB m q me le) (i := i) (n - i)
        have pre : BX0_byHand_7 h b v (nI i) (nI l) (nI s) = if lV (lgN (tkB m q me le) i (n - i)) = -nI 1 then some (.inr (-nI 1)) else Option.bind (MX0_lineBadness h b (nI i) (lV (lgN (tkB m q me le) i (n - i)))) fun t9 => if t9 = -nI 1 then MX0_byHand_57 h b v (nI (l + 1)) (lV (lgN (tkB m q me le) i (n - i))) (nI s) (nI 1) else MX0_byHand_57 h b v (nI (l + 1)) (lV (lgN (tkB m q me le) i (n - i))) (nI s) (nI 0) := by
          unfold BX0_byHand_7
          simp only [ZL]
          rw [gg_t L.1.1, c6, if_neg (nI_ge (by omega) (by omega)), if_neg (nI_ge (by omega) (by omega)), lg, ob_some, nAdd]
        by_cases z1 : lgN (tkB m q me le) i (n - i) = 0
        · rw [if_pos z1]
          refine it_done ?_
          show BX0_byHand_7 h b v (nI i) (nI l) (nI s) = _
          rw [pre, z1, if_pos (show lV 0 = -nI 1 from rfl)]
          rfl
        · rw [if_neg z1]
          obtain ⟨j, hj⟩ : ∃ j, j = lgN (tkB m q me le) i (n - i) := ⟨_, rfl⟩
          rw [← hj] at pre b1 b2 z1 ⊢
          have b3 := b2 z1
          have lb := c_lineBad P L B hq J (i := i) (k := j - 1) (by omega) (by omega)
          have bb := bd_le (m := m) (q := q) (a := i) (b := j - 1) (me := me) (le := le) (co := co) P.2.1 P.2.2.2.2.2
          have st : BX0_byHand_7 h b v (nI i) (nI l) (nI s) = some (.inl (nI j, nI (l + 1), nI (s + (if sdB m q me le mo i (j - 1) = true then 0 else 1)))) := by
            rw [pre, if_neg (by rw [lV_eqm (by omega)]; exact z1), lV_p z1, lb, ob_some]
            unfold MX0_byHand_57
            by_cases z2 : sdB m q me le mo i (j - 1) = true
            · rw [if_pos z2, if_pos z2, if_neg (by rw [nM6 (by omega)]; exact id), nAdd, nI_1, show j - 1 + 1 = j by omega]
            · rw [if_neg z2, if_neg z2, if_pos rfl, nAdd, nI_1, show j - 1 + 1 = j by omega]
          rw [it_next (f := fun z : Int32 × Int32 × Int32 => BX0_byHand_7 h b v z.1 z.2.1 z.2.2) (s := (nI i, nI l, nI s)) st]
          exact ih j (l + 1) _ (by omega) (by omega) (by omega)
  unfold MX0_byHand MX0_byHand_7
  simp only [ZL]
  exact K n 0 0 0 (by omega) (by omega) (by omega)
theorem r_hand (P : Ps me le mo co) (L : RLn h me le mo co) (R : RS h) (em : gI h 74 = m) (B : MIb m) (hq : vP m q) (J : MIp m q) (v : Int32) : MX12_hand_58 h 73 (nI q) v (nI (nP m q)) (nI 0) (nI 0) (nI 0) = some (hdV v (hdR (tkB m q me le) (sdB m q me le mo) (nP m q) (nP m q) 0 0 0), h) := by
  obtain ⟨n, hn⟩ : ∃ n, n = nP m q := ⟨_, rfl⟩
  have j40 := (J.n).2.1
  rw [← hn] at j40 ⊢
  have lg : ∀ i l s, i < n → MX12_hand_71 h 73 (nI q) v (nI n) (nI i) (nI l) (nI s) (-nI 1) (nI i) = MX12_hand_103 h 73 (nI q) v (nI n) (nI i) (nI l) (nI s) (lV (lgN (tkB m q me le) i (n - i))) := fun i l s hi => by
    unfold MX12_hand_71
    refine it_k (fun d => (lV (lgN (tkB m q me le) i d), nI (i + d))) (n - i) rfl (fun d hd => ?_) ?_
    · show BX12_hand_71 h 73 (nI q) v (nI n) (nI i) (nI l) (nI s) (lV (lgN (tkB m q me le) i d)) (nI (i + d)) = some (.inl (lV (if tkB m q me le i (i + d) = true then i + d + 1 else lgN (tkB m q me le) i d), nI (i + d + 1)))
      have ht := r_tight P L R em B hq J (i := i) (k := i + d) (by omega) (by omega)
      have tl := ti_le B hq J (a := i) (b := i + d) (le := le) (by omega) (by have := P.2.2.2; omega)
      have p2 := P.2.1
      unfold BX12_hand_71
      rw [if_neg (nI_ge (by omega) (by omega)), gg_t (RS.f R).1, ht, ob_some, L.1]
      simp only [ZL]
      rw [nAdd]
      unfold tkB
      by_cases z : tiN m q le i (i + d) ≤ me
      · rw [if_neg (nI_nlt z (by omega)), if_pos (decide_eq_true z)]
        rfl
      · rw [if_pos (nI_lt (by omega) (by omega)), if_neg (by rw [decide_eq_false z]; simp)]
    · show BX12_hand_71 h 73 (nI q) v (nI n) (nI i) (nI l) (nI s) (lV (lgN (tkB m q me le) i (n - i))) (nI (i + (n - i))) = _
      unfold BX12_hand_71
      rw [if_pos (nI_le (by omega) (by omega))]
  have fin : ∀ l s, MX12_hand_145 h v (nI l) (nI s) = some (hdV v (some (l, s)), h) := fun l s => by
    unfold MX12_hand_145
    simp only [ZL]
    show _ = some ((if v = nI 0 then nI l else nI s), h)
    by_cases z : v = nI 0
    · rw [if_pos z, if_pos z]
    · rw [if_neg z, if_neg z]
  have K : ∀ f i l s, n ≤ i + f → i ≤ n → it (fun z : Int32 × Int32 × Int32 => BX12_hand_58 h 73 (nI q) v (nI n) z.1 z.2.1 z.2.2) (nI i, nI l, nI s) = some (hdV v (hdR (tkB m q me le) (sdB m q me le mo) n f i l s), h) := by
    intro f
    induction f with
    | zero =>
      intro i l s h1 h3
      refine it_done ?_
      show BX12_hand_58 h 73 (nI q) v (nI n) (nI i) (nI l) (nI s) = _
      unfold BX12_hand_58
      rw [if_pos (nI_le (by omega) (by omega)), fin]
      rfl
    | succ f ih =>
      intro i l s h1 h3
      unfold hdR
      by_cases z0 : n ≤ i
      · rw [if_pos z0]
        refine it_done ?_
        show BX12_hand_58 h 73 (nI q) v (nI n) (nI i) (nI l) (nI s) = _
        unfold BX12_hand_58
        rw [if_pos (nI_le z0 (by omega)), fin]
        rfl
      · rw [if_neg z0]
        have pre : BX12_hand_58 h 73 (nI q) v (nI n) (nI i) (nI l) (nI s) = MX12_hand_103 h 73 (nI q) v (nI n) (nI i) (nI l) (nI s) (lV (lgN (tkB m q me le) i (n - i))) := by
          unfold BX12_hand_58
          rw [if_neg (nI_ge (by omega) (by omega))]
          exact lg i l s (by omega)
        obtain ⟨b1, b2⟩ := lgN_b (t := tkB m q me le) (i := i) (n - i)
        by_cases z1 : lgN (tkB m q me le) i (n - i) = 0
        · rw [if_pos z1]
          refine it_done ?_
          show BX12_hand_58 h 73 (nI q) v (nI n) (nI i) (nI l) (nI s) = _
          rw [pre, z1]
          unfold MX12_hand_103
          rw [if_pos (show lV 0 = -1 from rfl)]
          rfl
        · rw [if_neg z1]
          obtain ⟨j, hj⟩ : ∃ j, j = lgN (tkB m q me le) i (n - i) := ⟨_, rfl⟩
          rw [← hj] at pre b1 b2 z1 ⊢
          have b3 := b2 z1
          have st := r_isStanding P L R em B hq J (i := i) (k := j - 1) (by omega) (by omega)
          have st2 : BX12_hand_58 h 73 (nI q) v (nI n) (nI i) (nI l) (nI s) = some (.inl (nI j, nI (l + 1), nI (s + (if sdB m q me le mo i (j - 1) = true then 0 else 1)))) := by
            rw [pre]
            unfold MX12_hand_103 MX12_hand_133
            rw [if_neg (by rw [show (-1 : Int32) = -nI 1 from rfl, lV_eqm (by omega)]; exact z1), gg_t (RS.f R).1, lV_p z1, st, ob_some]
            simp only [ZL]
            by_cases z2 : sdB m q me le mo i (j - 1) = true
            · rw [z2, bIT, if_neg (by rw [n10]; exact id), if_pos rfl, nAdd, nAdd, nAdd, show j - 1 + 1 = j by omega]
            · rw [show sdB m q me le mo i (j - 1) = false from by cases h9 : sdB m q me le mo i (j - 1) with | true => exact absurd h9 z2 | false => rfl, bIF, if_pos rfl, if_neg (by simp), nAdd, nAdd, nAdd, show j - 1 + 1 = j by omega]
          rw [it_next (f := fun z : Int32 × Int32 × Int32 => BX12_hand_58 h 73 (nI q) v (nI n) z.1 z.2.1 z.2.2) (s := (nI i, nI l, nI s)) st2]
          exact ih j (l + 1) _ (by omega) (by omega)
  unfold MX12_hand_58
  exact K n 0 0 0 (by omega) (by omega)
end
