section
variable {tg : Nat → List Nat} {h h' : Hp} {m m' k t : Nat → Int32} {i n f : Int32}
theorem p_stands (C : CSt tg h m k i t n f) (R : RSt h m k i t n f) (v w u : Int32) : Pr (cm [1]) Gq h (MX11_stands h 1 v w u) (fun h' => MX12_stands h' 73 v w u) := by
  obtain ⟨O, X, X2, S, V, D, DV, I, T, Im, Tr⟩ := id C
  obtain ⟨-, -, -, -, -, -, ⟨b1, b2⟩, -⟩ := I.1.f
  have Ih := I.2.2.2.2.1
  rcases ni_d v 6 with hv | ⟨p, hp, rfl⟩
  · refine Pr.thr C R 1 1 rfl (by omega) (by omega) ?_ fun h' R' => ⟨nI 0, ?_⟩
    · unfold MX11_stands
      rw [(c_isPage_f hv).1, ob_some, if_pos (by decide)]
    · unfold MX12_stands
      rw [(c_isPage_f hv).2, ob_some, if_pos (by decide)]
      simp (disch := omega) only [MX12_stands_16, MX12_stands_21, ↓reduceIte, Nat.reduceLT, Nat.reduceLeDiff, Nat.reduceEqDiff, ZL, nAdd, nMul, nSub, nLt, nLe, nEq, nCl, nDiv, nRem2, nM1, nM2, nM3, nM4, nM5, nM6, gg_in, gg_rf, gg_T, if_true, if_false, ↓lt_eq, ob_some, b2_some, up1_some, kd_sI, ln_sI, gP_sI, gI_sI, kd_rI, ln_rI, gP_rI, gI_rI, kd_bmp, ln_bmp, gP_bmp, gI_bmp, up_at, i0, i1, RS.f R'.1]
  · rcases ed_d m w with hw | ⟨q, hq, rfl⟩
    · refine Pr.thr C R 1 1 rfl (by omega) (by omega) ?_ fun h' R' => ⟨nI 0, ?_⟩
      · unfold MX11_stands
        rw [(c_isPage_t hp).1, ob_some, if_neg (by decide), gg_t X.1, c_isEd_f X D DV I.1 hw, ob_some, if_pos (by decide)]
      · unfold MX12_stands
        rw [(c_isPage_t hp).2, ob_some, if_neg (by decide), gg_t (RS.f R'.1).1, r_isEd_f R'.1 R'.2.1 I.1 hw, ob_some, if_pos (by decide)]
        simp (disch := omega) only [MX12_stands_16, MX12_stands_21, ↓reduceIte, Nat.reduceLT, Nat.reduceLeDiff, Nat.reduceEqDiff, ZL, nAdd, nMul, nSub, nLt, nLe, nEq, nCl, nDiv, nRem2, nM1, nM2, nM3, nM4, nM5, nM6, gg_in, gg_rf, gg_T, if_true, if_false, ↓lt_eq, ob_some, b2_some, up1_some, kd_sI, ln_sI, gP_sI, gI_sI, kd_rI, ln_rI, gP_rI, gI_rI, kd_bmp, ln_bmp, gP_bmp, gI_bmp, up_at, i0, i1, RS.f R'.1]
    · obtain ⟨e1, e2⟩ := eB_n I.1 Ih hp hq
      have cpre : MX11_stands h 1 (nI p) (eV q) u = Option.bind (MX2_slugOn h 48 (nI (6 * q + p)) u) fun t10 => some (.inl t10, h) := by
        unfold MX11_stands
        rw [(c_isPage_t hp).1, ob_some, if_neg (by decide), gg_t X.1, c_isEd_t X D DV I.1 hq, ob_some, if_neg (by decide), X6 X, gg_t D.1]
        simp only [ZL, c_rowNo]
      have rpre : ∀ h', RSt h' m k i t n f → MX12_stands h' 73 (nI p) (eV q) u = MX12_stands_21 h' 73 (nI p) (eV q) u 73 (nI 0) := fun h' R' => by
        unfold MX12_stands
        rw [(c_isPage_t hp).2, ob_some, if_neg (by decide), gg_t (RS.f R'.1).1, r_isEd_t R'.1 R'.2.1 I.1 hq, ob_some, if_neg (by decide)]
        simp only [ZL]
      rcases ni_d u (Nn m (eB p q)) with hu | ⟨j, hj, rfl⟩
      · refine Pr.get C R (-nI 1) ?_ fun h' R' => ?_
        · rw [cpre, c_slugOn_f D DV I.1 Ih hp hq hu, ob_some]
        · rw [rpre h' R']
          have R2 := R'.th (v := nI 0)
          have e3 := r_slugsOn R2.1 R2.2.1 hp (show q < 9 by omega)
          rw [e1] at e3
          simp (disch := omega) only [MX12_stands_21, ↓reduceIte, Nat.reduceLT, Nat.reduceLeDiff, Nat.reduceEqDiff, ZL, nAdd, nMul, nSub, nLt, nLe, nEq, nCl, nDiv, nRem2, nM1, nM2, nM3, nM4, nM5, nM6, gg_in, gg_rf, gg_T, if_true, if_false, ↓lt_eq, ob_some, b2_some, up1_some, kd_sI, ln_sI, gP_sI, gI_sI, kd_rI, ln_rI, gP_rI, gI_rI, kd_bmp, ln_bmp, gP_bmp, gI_bmp, up_at, i0, i1, RS.f R'.1, e3, r_isIn_n (b := Nn m (eB p q)) (by omega) hu]
      · refine Pr.get C R (eS m p q j) ?_ fun h' R' => ?_
        · rw [cpre, c_slugOn_t D DV I.1 Ih hp hq hj, ob_some]
        · rw [rpre h' R']
          have R2 := R'.th (v := nI 0)
          have e3 := r_slugsOn R2.1 R2.2.1 hp (show q < 9 by omega)
          rw [e1] at e3
          simp (disch := omega) only [MX12_stands_21, ↓reduceIte, Nat.reduceLT, Nat.reduceLeDiff, Nat.reduceEqDiff, ZL, nAdd, nMul, nSub, nLt, nLe, nEq, nCl, nDiv, nRem2, nM1, nM2, nM3, nM4, nM5, nM6, gg_in, gg_rf, gg_T, if_true, if_false, ↓lt_eq, ob_some, b2_some, up1_some, kd_sI, ln_sI, gP_sI, gI_sI, kd_rI, ln_rI, gP_rI, gI_rI, kd_bmp, ln_bmp, gP_bmp, gI_bmp, up_at, i0, i1, RS.f R'.1, e3, r_isIn_t, r_slugOn R2.1 R2.2.1 hp (show q < 9 by omega) (show j < 180 by omega)]
end
