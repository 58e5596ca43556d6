/-! carry -/
/-- apart: a word that omega doesn't read (it splits on each ≠) -/
def Nq (a b : Nat) : Prop := a ≠ b
theorem Nq.symm {a b : Nat} (h : Nq a b) : Nq b a := fun e => h (Eq.symm e)
theorem Nq.n {a b : Nat} (h : Nq a b) : a ≠ b := h
section
variable {tg : Nat → List Nat} {h h' : Hp} {m k t : Nat → Int32} {i n f : Int32}
set_option maxHeartbeats 16000000 in
theorem p_carry (C : CSt tg h m k i t n f) (R : RSt h m k i t n f) (v w u : Int32) : Pr (cm [1, 2]) Gq h (MX11_carry h 1 v w u) (fun h' => MX12_carry h' 73 v w u) := by
  obtain ⟨O, X, X2, S, V, D, DV, I, T, Im, Tr⟩ := id C
  obtain ⟨⟨b0, b0'⟩, -, -, -, ⟨b4, b4'⟩, ⟨b5, b5'⟩, ⟨b6, b6'⟩, -⟩ := I.1.f
  rcases ni_d v (Nn m 4) with hv | ⟨q, hq, rfl⟩
  · refine Pr.thr C R 1 1 rfl (by omega) (by omega) ?_ fun h' R' => ⟨nI 0, ?_⟩
    · unfold MX11_carry
      rw [gg_t X.1, X5 X, gg_t S.1, c_findSlug_f S V I.1 hv, ob_some, if_pos rfl]
    · unfold MX12_carry
      rw [gg_t (RS.f R'.1).1, r_isSlug_f R'.1 R'.2.1 I.1 hv, ob_some, if_pos (by decide)]
      simp (disch := omega) only [MX12_carry_52, ↓reduceIte, Nat.reduceLT, Nat.reduceLeDiff, Nat.reduceEqDiff, ZL, nAdd, nMul, nSub, nLt, nLe, nEq, nCl, nDiv, nRem2, nM1, nM2, nM3, nM4, nM5, nM6, gg_in, gg_rf, gg_T, if_true, if_false, ↓lt_eq, ob_some, b2_some, up1_some, kd_sI, ln_sI, gP_sI, gI_sI, kd_rI, ln_rI, gP_rI, gI_rI, kd_bmp, ln_bmp, gP_bmp, gI_bmp, up_at, i0, i1, RS.f R'.1]
  · obtain ⟨c, hc, ec, c0, cS, cV⟩ := c_findSlug_t S V I.1 hq
    have hI := I.2.2.1 q hq
    obtain ⟨y, hy, ey⟩ := hI.2.2.2.2.1
    have c9 := cV.2.2.1
    rw [ey] at c9
    have ny : y ≤ Nn m 0 := by
      have := hI.2.2.2.2.2.1
      unfold Nn at this ⊢
      rw [ey, nCl (by omega)] at this
      exact this
    rcases ni_d w 10 with hw | ⟨a, ha, rfl⟩
    · refine Pr.thr C R 2 2 rfl (by omega) (by omega) ?_ fun h' R' => ⟨nI 0, ?_⟩
      · unfold MX11_carry
        rw [gg_t X.1, X5 X, gg_t S.1, ec, ob_some, if_neg c0]
        simp only [ZL]
        rcases rn_c (v := w) (a := 0) (b := 9) (by omega) (by omega) (fun j _ h2 => hw j h2) with z | ⟨z1, z2, z3⟩
        · rw [if_pos z]
        · rw [if_neg z1, if_pos z3]
      · unfold MX12_carry
        rw [gg_t (RS.f R'.1).1, r_isSlug_t R'.1 R'.2.1 I.1 hq, ob_some, if_neg (by decide)]
        simp (disch := omega) only [↓reduceIte, Nat.reduceLT, Nat.reduceLeDiff, Nat.reduceEqDiff, ZL, nAdd, nMul, nSub, nLt, nLe, nEq, nCl, nDiv, nRem2, nM1, nM2, nM3, nM4, nM5, nM6, gg_in, gg_rf, gg_T, if_true, if_false, ↓lt_eq, ob_some, b2_some, up1_some, kd_sI, ln_sI, gP_sI, gI_sI, kd_rI, ln_rI, gP_rI, gI_rI, kd_bmp, ln_bmp, gP_bmp, gI_bmp, up_at, i0, i1, r_isIn_f (b := 9) (by omega) hw, MX12_carry_47]
        simp (disch := omega) only [MX12_carry_52, ↓reduceIte, Nat.reduceLT, Nat.reduceLeDiff, Nat.reduceEqDiff, ZL, nAdd, nMul, nSub, nLt, nLe, nEq, nCl, nDiv, nRem2, nM1, nM2, nM3, nM4, nM5, nM6, gg_in, gg_rf, gg_T, if_true, if_false, ↓lt_eq, ob_some, b2_some, up1_some, kd_sI, ln_sI, gP_sI, gI_sI, kd_rI, ln_rI, gP_rI, gI_rI, kd_bmp, ln_bmp, gP_bmp, gI_bmp, up_at, i0, i1, RS.f R'.1]
    · have rin : ∀ h', RSt h' m k i t n f → MX12_carry h' 73 (nI q) (nI a) u = Option.bind (MX12_isIn h' u (nI y) (nI (Nn m 0))) fun t57 => if t57 = nI 0 then MX12_carry_47 h' 73 (nI q) (nI a) u 73 else MX12_carry_52 h' 73 (nI q) (nI a) u 73 (nI 0) := fun h' R' => by
        unfold MX12_carry
        rw [gg_t (RS.f R'.1).1, r_isSlug_t R'.1 R'.2.1 I.1 hq, ob_some, if_neg (by decide)]
        simp (disch := omega) only [ZL, nAdd, nMul, nSub, nLt, nLe, nEq, nCl, nDiv, nRem2, r_isIn_t, ob_some, r_slug0, RS.f R'.1, R'.2.1, gg_T, gg_in, b0, ey, if_false, i0]
      rcases rn_d u y (Nn m 0 + 1) with hu | ⟨b, hb1, hb2, rfl⟩
      · refine Pr.thr C R 2 2 rfl (by omega) (by omega) ?_ fun h' R' => ⟨nI 0, ?_⟩
        · unfold MX11_carry
          rw [gg_t X.1, X5 X, gg_t S.1, ec, ob_some, if_neg c0]
          simp only [ZL]
          rw [if_neg (nI_nlt (by omega) (by omega)), if_neg (nI_nlt (by omega) (by omega)), gg_t cS.1, c9, V.1, b0]
          rcases rn_c (b := Nn m 0) (by omega) ny hu with z | ⟨z1, z2, z3⟩
          · rw [if_pos z]
          · rw [if_neg z1, if_neg z2]
        · rw [rin h' R', r_isIn_f1 (by omega) (by omega) hu, ob_some, if_pos rfl]
          simp (disch := omega) only [MX12_carry_47, MX12_carry_52, ↓reduceIte, Nat.reduceLT, Nat.reduceLeDiff, Nat.reduceEqDiff, ZL, nAdd, nMul, nSub, nLt, nLe, nEq, nCl, nDiv, nRem2, nM1, nM2, nM3, nM4, nM5, nM6, gg_in, gg_rf, gg_T, if_true, if_false, ↓lt_eq, ob_some, b2_some, up1_some, kd_sI, ln_sI, gP_sI, gI_sI, kd_rI, ln_rI, gP_rI, gI_rI, kd_bmp, ln_bmp, gP_bmp, gI_bmp, up_at, i0, i1, RS.f R'.1]
      · have cpre : MX11_carry h 1 (nI q) (nI a) (nI b) = if nI (Nn m 5) < nI 200 then Option.bind (MX2_addTelling h 48 (nI q) (nI a) (nI b) (nI (Nn m 0))) fun h14 => gg (kd h14 1 = 10) (gg (kd h14 (gP h14 1 6) = 1) (some (.inl (gI h14 (gP h14 1 6) 11), h14))) else some (.inl (-nI 1), h) := by
          unfold MX11_carry
          rw [gg_t X.1, X5 X, gg_t S.1, ec, ob_some, if_neg c0]
          simp only [ZL]
          rw [if_neg (nI_nlt (by omega) (by omega)), if_neg (nI_nlt (by omega) (by omega)), gg_t cS.1, c9, V.1, b0, if_neg (nI_nlt (by omega) (by omega)), if_pos (nI_le (by omega) (by omega)), X6 X, gg_t D.1, DV.2.1, b5]
        have rpre : ∀ h', RSt h' m k i t n f → MX12_carry h' 73 (nI q) (nI a) (nI b) = MX12_carry_52 h' 73 (nI q) (nI a) (nI b) 73 (nI 0) := fun h' R' => by
          rw [rin h' R', r_isIn_t hb1 (by omega) (by omega), ob_some, if_neg (by decide)]
        by_cases z200 : Nn m 5 = 200
        · refine Pr.get C R (-nI 1) ?_ fun h' R' => ?_
          · rw [cpre, if_neg (by rw [nLt (by omega) (by omega)]; omega)]
          · rw [rpre h' R']
            have e5 : m 5 = nI 200 := by rw [b5, z200]
            simp (disch := omega) only [MX12_carry_52, ↓reduceIte, Nat.reduceLT, Nat.reduceLeDiff, Nat.reduceEqDiff, ZL, nAdd, nMul, nSub, nLt, nLe, nEq, nCl, nDiv, nRem2, nM1, nM2, nM3, nM4, nM5, nM6, gg_in, gg_rf, gg_T, if_true, if_false, ↓lt_eq, ob_some, b2_some, up1_some, kd_sI, ln_sI, gP_sI, gI_sI, kd_rI, ln_rI, gP_rI, gI_rI, kd_bmp, ln_bmp, gP_bmp, gI_bmp, up_at, i0, i1, RS.f R'.1, R'.2.1, e5]
        · obtain ⟨dk, ⟨x0, -⟩, ⟨x1, -⟩, ⟨x2, -⟩, ⟨x3, -⟩, ⟨x4, -⟩, ⟨x5, -⟩, ⟨x7, p7, q7⟩, ⟨x8, p8, q8⟩, ⟨x9, p9, q9⟩, ⟨x10, p10, q10⟩, hh⟩ := D
          replace x0 : Nq (gP h 48 0) 0 := x0
          replace x1 : Nq (gP h 48 1) 0 := x1
          replace x2 : Nq (gP h 48 2) 0 := x2
          replace x3 : Nq (gP h 48 3) 0 := x3
          replace x4 : Nq (gP h 48 4) 0 := x4
          replace x5 : Nq (gP h 48 5) 0 := x5
          replace x7 : Nq (gP h 48 7) 0 := x7
          replace x8 : Nq (gP h 48 8) 0 := x8
          replace x9 : Nq (gP h 48 9) 0 := x9
          replace x10 : Nq (gP h 48 10) 0 := x10
          replace c0 : Nq c 0 := c0
          obtain ⟨-, -, t3, -, -, -, -, t48, -⟩ := tgs O X
          obtain ⟨N, hN⟩ : ∃ N, N = Nn m 5 := ⟨_, rfl⟩
          have n48 : ∀ j, gP h 48 j ≠ 0 → gP h 48 j ≠ 48 := fun j hj => (ne_o O (by omega) hj).symm
          have nf : ∀ j l, gP h 48 j ≠ 0 → gP h 48 l ≠ 0 → j ≠ l → gP h 48 j ≠ gP h 48 l := fun j l h1 h2 h3 => ne_f O (by omega) h1 h2 h3
          have n78 : Nq (gP h 48 7) (gP h 48 8) := nf 7 8 x7 x8 (by omega)
          have n79 : Nq (gP h 48 7) (gP h 48 9) := nf 7 9 x7 x9 (by omega)
          have n710 : Nq (gP h 48 7) (gP h 48 10) := nf 7 10 x7 x10 (by omega)
          have n89 : Nq (gP h 48 8) (gP h 48 9) := nf 8 9 x8 x9 (by omega)
          have n810 : Nq (gP h 48 8) (gP h 48 10) := nf 8 10 x8 x10 (by omega)
          have n910 : Nq (gP h 48 9) (gP h 48 10) := nf 9 10 x9 x10 (by omega)
          have o7 : Nq (gP h 48 7) 48 := n48 7 x7
          have o8 : Nq (gP h 48 8) 48 := n48 8 x8
          have o9 : Nq (gP h 48 9) 48 := n48 9 x9
          have o10 : Nq (gP h 48 10) 48 := n48 10 x10
          obtain ⟨h1, hh1⟩ : ∃ h1, h1 = sI (sI (sI (sI (sI h (gP h 48 7) N (nI q)) (gP h 48 8) N (nI a)) (gP h 48 9) N (nI b)) (gP h 48 10) N (nI (Nn m 0))) 48 11 (nI (N + 1)) := ⟨_, rfl⟩
          obtain ⟨m', hm'⟩ : ∃ m', m' = va_up (va_up (va_up (va_up (va_up m (326582 + 4 * N) (nI q)) (326582 + 4 * N + 1) (nI a)) (326582 + 4 * N + 2) (nI b)) (326582 + 4 * N + 3) (nI (Nn m 0))) 5 (nI (N + 1)) := ⟨_, rfl⟩
          have mo : ∀ x, x ≠ 5 → ¬ (326582 + 4 * N ≤ x ∧ x < 326582 + 4 * N + 4) → m' x = m x := fun x z1 z2 => by
            rw [hm']
            simp (disch := omega) only [up_at, i0]
          have F1 : Fr (fun x => x = 48 ∨ ∃ j, 7 ≤ j ∧ j ≤ 10 ∧ x = gP h 48 j) h h1 := by
            rw [hh1]
            exact ((((Fr.sI (Or.inr ⟨7, by omega, by omega, rfl⟩)).trans (Fr.sI (Or.inr ⟨8, by omega, by omega, rfl⟩))).trans (Fr.sI (Or.inr ⟨9, by omega, by omega, rfl⟩))).trans (Fr.sI (Or.inr ⟨10, by omega, by omega, rfl⟩))).trans (Fr.sI (Or.inl rfl))
          have D6 : ∀ x, (x = 48 ∨ ∃ j, 7 ≤ j ∧ j ≤ 10 ∧ x = gP h 48 j) → x ≠ 0 ∧ [6] <:+ tg x := fun x hx => by
            rcases hx with rfl | ⟨j, j1, j2, rfl⟩
            · exact ⟨by omega, by rw [t48]; exact List.suffix_refl _⟩
            · have xj : gP h 48 j ≠ 0 := by
                rcases (show j = 7 ∨ j = 8 ∨ j = 9 ∨ j = 10 by omega) with rfl | rfl | rfl | rfl
                · exact x7
                · exact x8
                · exact x9
                · exact x10
              exact ⟨xj, by rw [tgc O xj (by omega), t48]; exact List.suffix_cons _ _⟩
          have other : ∀ x, x ≠ 48 → (∀ j, 7 ≤ j → j ≤ 10 → x ≠ gP h 48 j) → gI h1 x = gI h x := fun x z1 z2 => F1.2.2.2.2.2.2 x (fun z => by
            rcases z with z | ⟨j, j1, j2, z⟩
            · exact z1 z
            · exact z2 j j1 j2 z)
          have oa : ∀ j, gP h 48 j ≠ 0 → (j < 7 ∨ 10 < j) → gI h1 (gP h 48 j) = gI h (gP h 48 j) := fun j hj hj2 => other _ (n48 j hj) (fun l l1 l2 => by
            have xl : gP h 48 l ≠ 0 := by
              rcases (show l = 7 ∨ l = 8 ∨ l = 9 ∨ l = 10 by omega) with rfl | rfl | rfl | rfl
              · exact x7
              · exact x8
              · exact x9
              · exact x10
            exact nf j l hj xl (by omega))
          have n4 : gP h 48 4 ≠ 3 := ne_t (tg := tg) (by rw [tgc O x4 (by omega), t48, t3]; simp)
          have oh : ∀ r, gI h1 (gP h (gP h 48 4) r) = gI h (gP h (gP h 48 4) r) := fun r => by
            by_cases z : gP h (gP h 48 4) r = 0
            · rw [z]
              exact other 0 (by omega) (fun l l1 l2 z => by
                rcases (show l = 7 ∨ l = 8 ∨ l = 9 ∨ l = 10 by omega) with rfl | rfl | rfl | rfl
                · exact x7 z.symm
                · exact x8 z.symm
                · exact x9 z.symm
                · exact x10 z.symm)
            · have tr := tgc O z n4
              rw [tgc O x4 (by omega), t48] at tr
              refine other _ (ne_t (tg := tg) (by rw [tr, t48]; simp)) (fun l l1 l2 => ne_t (tg := tg) ?_)
              have xl : gP h 48 l ≠ 0 := by
                rcases (show l = 7 ∨ l = 8 ∨ l = 9 ∨ l = 10 by omega) with rfl | rfl | rfl | rfl
                · exact x7
                · exact x8
                · exact x9
                · exact x10
              rw [tr, tgc O xl (by omega), t48]
              simp
          have gp1 : gP h1 = gP h := F1.2.2.1
          have e5' : m' 5 = nI (N + 1) := by rw [hm', up_at, if_pos rfl]
          have n5 : Nn m' 5 = N + 1 := by unfold Nn; rw [e5', nCl (by omega)]
          have g48 : ∀ j, gI h1 48 j = if j = 11 then nI (N + 1) else gI h 48 j := fun j => by
            rw [hh1, gI_sI, if_pos rfl, up_at]
            by_cases z : j = 11
            · rw [if_pos z, if_pos z]
            · rw [if_neg z, if_neg z, gI_sI, if_neg o10.symm.n, gI_sI, if_neg o9.symm.n, gI_sI, if_neg o8.symm.n, gI_sI, if_neg o7.symm.n]
          have g7 : ∀ j, gI h1 (gP h 48 7) j = if j = N then nI q else gI h (gP h 48 7) j := fun j => by
            rw [hh1, gI_sI, if_neg o7.n, gI_sI, if_neg n710.n, gI_sI, if_neg n79.n, gI_sI, if_neg n78.n, gI_sI, if_pos rfl, up_at]
          have g8 : ∀ j, gI h1 (gP h 48 8) j = if j = N then nI a else gI h (gP h 48 8) j := fun j => by
            rw [hh1, gI_sI, if_neg o8.n, gI_sI, if_neg n810.n, gI_sI, if_neg n89.n, gI_sI, if_pos rfl, up_at, gI_sI, if_neg n78.symm.n]
          have g9 : ∀ j, gI h1 (gP h 48 9) j = if j = N then nI b else gI h (gP h 48 9) j := fun j => by
            rw [hh1, gI_sI, if_neg o9.n, gI_sI, if_neg n910.n, gI_sI, if_pos rfl, up_at, gI_sI, if_neg n89.symm.n, gI_sI, if_neg n79.symm.n]
          have g10 : ∀ j, gI h1 (gP h 48 10) j = if j = N then nI (Nn m 0) else gI h (gP h 48 10) j := fun j => by
            rw [hh1, gI_sI, if_neg o10.n, gI_sI, if_pos rfl, up_at, gI_sI, if_neg n910.symm.n, gI_sI, if_neg n810.symm.n, gI_sI, if_neg n710.symm.n]
          have mt : m' (326582 + 4 * N) = nI q ∧ m' (326582 + 4 * N + 1) = nI a ∧ m' (326582 + 4 * N + 2) = nI b ∧ m' (326582 + 4 * N + 3) = nI (Nn m 0) := by
            rw [hm']
            refine ⟨?_, ?_, ?_, ?_⟩ <;> simp (disch := omega) only [up_at, i0, if_true]
          refine Pr.desk (h1 := h1) (m' := m') (D := fun x => x = 48 ∨ ∃ j, 7 ≤ j ∧ j ≤ 10 ∧ x = gP h 48 j) C R (nI (N + 1)) ?_ F1 D6 (fun x hx => nr O R.1 (by omega) (by omega) (D6 x hx).2) ?_ ?_ (fun x hx => mo x (by unfold rgRm at hx; omega) (by unfold rgRm at hx; omega)) fun h' R' => ?_
          · rw [cpre, if_pos (nI_lt (by omega) (by omega))]
            unfold MX2_addTelling
            have v11 := DV.2.1
            rw [b5, ← hN] at v11
            simp (disch := omega) only [↓reduceIte, Nat.reduceLT, Nat.reduceLeDiff, Nat.reduceEqDiff, ZL, nAdd, nMul, nSub, nLt, nLe, nEq, nCl, nDiv, nRem2, nM1, nM2, nM3, nM4, nM5, nM6, gg_in, gg_rf, gg_T, if_true, if_false, ↓lt_eq, ob_some, b2_some, up1_some, kd_sI, ln_sI, gP_sI, gI_sI, kd_rI, ln_rI, gP_rI, gI_rI, kd_bmp, ln_bmp, gP_bmp, gI_bmp, up_at, i0, i1, dk, v11, p7, q7, p8, q8, p9, q9, p10, q10, (n48 7 x7).symm, (n48 8 x8).symm, (n48 9 x9).symm, (n48 10 x10).symm, X.f, hh1]
          · obtain ⟨v1, v2, v3, v4, v5⟩ := DV
            unfold DkV
            rw [gp1, n5, Nn.c (mo 6 (by omega) (by omega)), mo 6 (by omega) (by omega), e5']
            refine ⟨by rw [g48, if_neg (by omega)]; exact v1, by rw [g48, if_pos rfl], fun p hp => ?_, fun e he p hp => ?_, fun y2 hy2 => ?_⟩
            · obtain ⟨w1, w2, w3, w4, w5, w6, w7⟩ := v3 p hp
              rw [oa 0 x0 (by omega), oa 1 x1 (by omega), oa 2 x2 (by omega), oa 3 x3 (by omega), oa 5 x5 (by omega), oh, mo (327382 + 185 * p) (by omega) (by omega), mo (327382 + 185 * p + 1) (by omega) (by omega), mo (327382 + 185 * p + 2) (by omega) (by omega), mo (327382 + 185 * p + 3) (by omega) (by omega), mo (327382 + 185 * p + 4) (by omega) (by omega), Nn.c (mo (327382 + 185 * p + 2) (by omega) (by omega))]
              exact ⟨w1, w2, w3, w4, w5, w6, fun j hj => by rw [mo _ (by omega) (by omega)]; exact w7 j hj⟩
            · obtain ⟨w1, w2, w3⟩ := v4 e he p hp
              rw [oa 5 x5 (by omega), oh, mo (328492 + 181 * (6 * e + p)) (by omega) (by omega), Nn.c (mo (328492 + 181 * (6 * e + p)) (by omega) (by omega))]
              exact ⟨w1, w2, fun j hj => by rw [mo _ (by omega) (by omega)]; exact w3 j hj⟩
            · rw [g7, g8, g9, g10]
              by_cases z : y2 = N
              · subst z
                rw [if_pos rfl, if_pos rfl, if_pos rfl, if_pos rfl]
                exact ⟨mt.1.symm, mt.2.1.symm, mt.2.2.1.symm, mt.2.2.2.symm⟩
              · rw [if_neg z, if_neg z, if_neg z, if_neg z, mo _ (by omega) (by omega), mo _ (by omega) (by omega), mo _ (by omega) (by omega), mo _ (by omega) (by omega)]
                exact v5 y2 (by omega)
          · have Ih := I.2.2.2.2.1
            refine MI.desk (fun x hx => mo x (by omega) (by omega)) I ⟨N + 1, by omega, e5'⟩ (I.1.2.2.2.2.2.2.1.c (mo _ (by omega) (by omega))) ⟨fun p hp => ?_, fun e he p hp => ?_, fun j hj => ?_, fun y2 hy2 => ?_⟩
            · obtain ⟨j1, j2, j3, j4, j5⟩ := Ih.1 p hp
              exact ⟨j1.c (mo _ (by omega) (by omega)), by rw [Nn.c (mo _ (by omega) (by omega))]; exact j2, j3.c (mo _ (by omega) (by omega)), by rw [Nn.c (mo _ (by omega) (by omega))]; exact j4, j5.c (mo _ (by omega) (by omega))⟩
            · rw [Nn.c (mo _ (by omega) (by omega))] at he
              exact (Ih.2.1 e he p hp).c (mo _ (by omega) (by omega))
            · rw [Nn.c (mo _ (by omega) (by omega))] at hj
              rw [mo _ (by omega) (by omega), Nn.c (mo 0 (by omega) (by omega)), Nn.c (mo 7 (by omega) (by omega))]
              exact Ih.2.2.1 j hj
            · rw [n5] at hy2
              by_cases z : y2 = N
              · subst z
                exact ⟨⟨q, by omega, mt.1⟩, ⟨a, by omega, mt.2.1⟩, ⟨b, by omega, mt.2.2.1⟩, ⟨Nn m 0, by omega, mt.2.2.2⟩⟩
              · obtain ⟨j1, j2, j3, j4⟩ := Ih.2.2.2 y2 (by omega)
                exact ⟨j1.c (mo _ (by omega) (by omega)), j2.c (mo _ (by omega) (by omega)), j3.c (mo _ (by omega) (by omega)), j4.c (mo _ (by omega) (by omega))⟩
          · refine ⟨sI (sI (sI (sI (sI (sI h' 73 0 (nI 0)) 74 (326582 + 4 * N) (nI q)) 74 (326582 + 4 * N + 1) (nI a)) 74 (326582 + 4 * N + 2) (nI b)) 74 (326582 + 4 * N + 3) (nI (Nn m 0))) 74 5 (nI (N + 1)), ?_, ((((th_fr.trans fr74).trans fr74).trans fr74).trans fr74).trans fr74, by rw [hm']; exact R'.th.m1.m1.m1.m1.m1, ?_⟩
            · rw [rpre h' R']
              rw [← hN] at b5
              simp (disch := omega) only [MX12_carry_52, ↓reduceIte, Nat.reduceLT, Nat.reduceLeDiff, Nat.reduceEqDiff, ZL, nAdd, nMul, nSub, nLt, nLe, nEq, nCl, nDiv, nRem2, nM1, nM2, nM3, nM4, nM5, nM6, gg_in, gg_rf, gg_T, if_true, if_false, ↓lt_eq, ob_some, b2_some, up1_some, kd_sI, ln_sI, gP_sI, gI_sI, kd_rI, ln_rI, gP_rI, gI_rI, kd_bmp, ln_bmp, gP_bmp, gI_bmp, up_at, i0, i1, RS.f R'.1, R'.2.1, b0, b5]
            · simp (disch := omega) only [↓reduceIte, Nat.reduceLT, Nat.reduceLeDiff, Nat.reduceEqDiff, ZL, nAdd, nMul, nSub, nLt, nLe, nEq, nCl, nDiv, nRem2, nM1, nM2, nM3, nM4, nM5, nM6, gg_in, gg_rf, gg_T, if_true, if_false, ↓lt_eq, ob_some, b2_some, up1_some, kd_sI, ln_sI, gP_sI, gI_sI, kd_rI, ln_rI, gP_rI, gI_rI, kd_bmp, ln_bmp, gP_bmp, gI_bmp, up_at, i0, i1]
end
