section
variable {tg : Nat → List Nat} {h h' : Hp} {m m' k t : Nat → Int32} {i n f : Int32}
/-- how many of the slugs of 'to' below n the row 'from' has not -/
def nwN (m : Nat → Int32) (p a b : Nat) : Nat → Nat
  | 0 => 0
  | n + 1 => nwN m p a b n + (if hs (fun j => eS m p a j = eS m p b n) (Nn m (eB p a)) = true then 0 else 1)
theorem nwN_le {p a b : Nat} : ∀ n, nwN m p a b n ≤ n
  | 0 => Nat.le_refl 0
  | n + 1 => by
    have := nwN_le (p := p) (a := a) (b := b) n
    unfold nwN
    split <;> omega
theorem c_hasSlug (D : DkS h 48) (DV : DkV h 48 m) (B : MIb m) (I : MIh m) {p q : Nat} {x : Int32} (hp : p < 6) (hq : q < Nn m 6 + 1) : MX2_hasSlug h 48 (nI (6 * q + p)) x = some (if hs (fun j => eS m p q j = x) (Nn m (eB p q)) = true then nI 1 else nI 0) := by
  obtain ⟨-, -, -, -, -, -, ⟨b1, b2⟩, -⟩ := B.f
  obtain ⟨e1, e2⟩ := eB_n B I hp hq
  obtain ⟨r1, -, -⟩ := c_row D DV hp hq
  obtain ⟨dk, -, -, -, -, -, ⟨-, a1, a2⟩, -⟩ := id D
  unfold MX2_hasSlug MX2_hasSlug_2
  simp only [ZL]
  refine it_ex (fun j => eS m p q j = x) (fun j => nI j) (Nn m (eB p q)) (fun j hj hn => ?_) (fun j hj hy => ?_) ?_
  · unfold BX2_hasSlug_2
    simp (disch := omega) only [↓reduceIte, Nat.reduceLT, Nat.reduceLeDiff, Nat.reduceEqDiff, ZL, nAdd, nMul, nSub, nLt, nLe, nEq, nCl, nDiv, nRem2, nM1, nM2, nM3, nM4, nM5, nM6, gg_in, gg_rf, gg_T, if_true, if_false, ↓lt_eq, ob_some, b2_some, up1_some, kd_sI, ln_sI, gP_sI, gI_sI, kd_rI, ln_rI, gP_rI, gI_rI, kd_bmp, ln_bmp, gP_bmp, gI_bmp, up_at, i0, i1, dk, a1, a2, r1, e1, c_slugOn_t D DV B I hp hq hj, if_neg hn]
  · unfold BX2_hasSlug_2
    simp (disch := omega) only [↓reduceIte, Nat.reduceLT, Nat.reduceLeDiff, Nat.reduceEqDiff, ZL, nAdd, nMul, nSub, nLt, nLe, nEq, nCl, nDiv, nRem2, nM1, nM2, nM3, nM4, nM5, nM6, gg_in, gg_rf, gg_T, if_true, if_false, ↓lt_eq, ob_some, b2_some, up1_some, kd_sI, ln_sI, gP_sI, gI_sI, kd_rI, ln_rI, gP_rI, gI_rI, kd_bmp, ln_bmp, gP_bmp, gI_bmp, up_at, i0, i1, dk, a1, a2, r1, e1, c_slugOn_t D DV B I hp hq hj, if_pos hy]
  · unfold BX2_hasSlug_2
    simp (disch := omega) only [↓reduceIte, Nat.reduceLT, Nat.reduceLeDiff, Nat.reduceEqDiff, ZL, nAdd, nMul, nSub, nLt, nLe, nEq, nCl, nDiv, nRem2, nM1, nM2, nM3, nM4, nM5, nM6, gg_in, gg_rf, gg_T, if_true, if_false, ↓lt_eq, ob_some, b2_some, up1_some, kd_sI, ln_sI, gP_sI, gI_sI, kd_rI, ln_rI, gP_rI, gI_rI, kd_bmp, ln_bmp, gP_bmp, gI_bmp, up_at, i0, i1, dk, a1, a2, r1, e1]
theorem c_countNew (D : DkS h 48) (DV : DkV h 48 m) (B : MIb m) (I : MIh m) {p a b : Nat} (hp : p < 6) (ha : a < Nn m 6 + 1) (hb : b < Nn m 6 + 1) : MX2_countNew h 48 (nI (6 * a + p)) (nI (6 * b + p)) = some (nI (nwN m p a b (Nn m (eB p b)))) := by
  obtain ⟨-, -, -, -, -, -, ⟨b1, b2⟩, -⟩ := B.f
  obtain ⟨e1, e2⟩ := eB_n B I hp hb
  obtain ⟨r1, -, -⟩ := c_row D DV hp hb
  obtain ⟨dk, -, -, -, -, -, ⟨-, a1, a2⟩, -⟩ := id D
  unfold MX2_countNew MX2_countNew_5
  simp only [ZL]
  refine it_seq2 (fun j => (nI (nwN m p a b j), nI j)) (Nn m (eB p b)) rfl (fun j hj => ?_) ?_
  · show BX2_countNew_5 h 48 (nI (6 * a + p)) (nI (6 * b + p)) (nI (nwN m p a b j)) (nI j) = _
    unfold BX2_countNew_5
    by_cases z : hs (fun l => eS m p a l = eS m p b j) (Nn m (eB p a)) = true
    · simp (disch := omega) only [MX2_countNew_37, ↓reduceIte, Nat.reduceLT, Nat.reduceLeDiff, Nat.reduceEqDiff, ZL, nAdd, nMul, nSub, nLt, nLe, nEq, nCl, nDiv, nRem2, nM1, nM2, nM3, nM4, nM5, nM6, gg_in, gg_rf, gg_T, if_true, if_false, ↓lt_eq, ob_some, b2_some, up1_some, kd_sI, ln_sI, gP_sI, gI_sI, kd_rI, ln_rI, gP_rI, gI_rI, kd_bmp, ln_bmp, gP_bmp, gI_bmp, up_at, i0, i1, dk, a1, a2, r1, e1, c_slugOn_t D DV B I hp hb hj, c_hasSlug D DV B I hp ha, if_pos z, nwN]
    · simp (disch := omega) only [MX2_countNew_37, ↓reduceIte, Nat.reduceLT, Nat.reduceLeDiff, Nat.reduceEqDiff, ZL, nAdd, nMul, nSub, nLt, nLe, nEq, nCl, nDiv, nRem2, nM1, nM2, nM3, nM4, nM5, nM6, gg_in, gg_rf, gg_T, if_true, if_false, ↓lt_eq, ob_some, b2_some, up1_some, kd_sI, ln_sI, gP_sI, gI_sI, kd_rI, ln_rI, gP_rI, gI_rI, kd_bmp, ln_bmp, gP_bmp, gI_bmp, up_at, i0, i1, dk, a1, a2, r1, e1, c_slugOn_t D DV B I hp hb hj, c_hasSlug D DV B I hp ha, if_neg z, nwN]
  · show BX2_countNew_5 h 48 (nI (6 * a + p)) (nI (6 * b + p)) _ (nI (Nn m (eB p b))) = _
    unfold BX2_countNew_5
    simp (disch := omega) only [↓reduceIte, Nat.reduceLT, Nat.reduceLeDiff, Nat.reduceEqDiff, ZL, nAdd, nMul, nSub, nLt, nLe, nEq, nCl, nDiv, nRem2, nM1, nM2, nM3, nM4, nM5, nM6, gg_in, gg_rf, gg_T, if_true, if_false, ↓lt_eq, ob_some, b2_some, up1_some, kd_sI, ln_sI, gP_sI, gI_sI, kd_rI, ln_rI, gP_rI, gI_rI, kd_bmp, ln_bmp, gP_bmp, gI_bmp, up_at, i0, i1, dk, a1, a2, r1, e1]
theorem r_changed (R : RS h) (e : gI h 74 = m) (B : MIb m) (I : MIh m) {p a b : Nat} (hp : p < 6) (ha : a < Nn m 6 + 1) (hb : b < Nn m 6 + 1) : MX12_changed_47 h 73 (nI p) (eV a) (eV b) (nI 0) (nI 0) = some (nI (nwN m p a b (Nn m (eB p b))), h) := by
  obtain ⟨-, -, -, -, -, -, ⟨b1, b2⟩, -⟩ := B.f
  obtain ⟨ea1, ea2⟩ := eB_n B I hp ha
  obtain ⟨eb1, eb2⟩ := eB_n B I hp hb
  have sa := r_slugsOn R e hp (show a < 9 by omega)
  have sb := r_slugsOn R e hp (show b < 9 by omega)
  rw [ea1] at sa
  rw [eb1] at sb
  unfold MX12_changed_47
  refine it_seq2 (fun j => (nI (nwN m p a b j), nI j)) (Nn m (eB p b)) rfl (fun j hj => ?_) ?_
  · show BX12_changed_47 h 73 (nI p) (eV a) (eV b) (nI (nwN m p a b j)) (nI j) = _
    unfold BX12_changed_47
    rw [gg_t (RS.f R).1, sb, ob_some, if_neg (by rw [nLe (by omega) (by omega)]; omega)]
    unfold MX12_changed_64
    have so := r_slugOn R e hp (show b < 9 by omega) (show j < 180 by omega)
    refine it_seq2 (fun l => (if hs (fun l => eS m p a l = eS m p b j) l = true then nI 1 else nI 0, nI l)) (Nn m (eB p a)) rfl (fun l hl => ?_) ?_
    · show BX12_changed_64 h 73 (nI p) (eV a) (eV b) _ (nI j) (if hs (fun l => eS m p a l = eS m p b j) l = true then nI 1 else nI 0) (nI l) = _
      have so2 := r_slugOn R e hp (show a < 9 by omega) (show l < 180 by omega)
      unfold BX12_changed_64
      by_cases z : hs (fun l => eS m p a l = eS m p b j) l = true
      · simp (disch := omega) only [MX12_changed_99, MX12_changed_104, ↓reduceIte, Nat.reduceLT, Nat.reduceLeDiff, Nat.reduceEqDiff, ZL, nAdd, nMul, nSub, nLt, nLe, nEq, nCl, nDiv, nRem2, nM1, nM2, nM3, nM4, nM5, nM6, gg_in, gg_rf, gg_T, if_true, if_false, ↓lt_eq, ob_some, b2_some, up1_some, kd_sI, ln_sI, gP_sI, gI_sI, kd_rI, ln_rI, gP_rI, gI_rI, kd_bmp, ln_bmp, gP_bmp, gI_bmp, up_at, i0, i1, RS.f R, sa, z, hs, Bool.true_or]
      · have z' : hs (fun l => eS m p a l = eS m p b j) l = false := by simpa using z
        by_cases z2 : eS m p a l = eS m p b j
        · simp (disch := omega) only [MX12_changed_99, MX12_changed_104, ↓reduceIte, Nat.reduceLT, Nat.reduceLeDiff, Nat.reduceEqDiff, ZL, nAdd, nMul, nSub, nLt, nLe, nEq, nCl, nDiv, nRem2, nM1, nM2, nM3, nM4, nM5, nM6, gg_in, gg_rf, gg_T, if_true, if_false, ↓lt_eq, ob_some, b2_some, up1_some, kd_sI, ln_sI, gP_sI, gI_sI, kd_rI, ln_rI, gP_rI, gI_rI, kd_bmp, ln_bmp, gP_bmp, gI_bmp, up_at, i0, i1, RS.f R, sa, so, so2, z', z2, hs, Bool.false_or, decide_true, Bool.false_eq_true]
        · simp (disch := omega) only [MX12_changed_99, MX12_changed_104, ↓reduceIte, Nat.reduceLT, Nat.reduceLeDiff, Nat.reduceEqDiff, ZL, nAdd, nMul, nSub, nLt, nLe, nEq, nCl, nDiv, nRem2, nM1, nM2, nM3, nM4, nM5, nM6, gg_in, gg_rf, gg_T, if_true, if_false, ↓lt_eq, ob_some, b2_some, up1_some, kd_sI, ln_sI, gP_sI, gI_sI, kd_rI, ln_rI, gP_rI, gI_rI, kd_bmp, ln_bmp, gP_bmp, gI_bmp, up_at, i0, i1, RS.f R, sa, so, so2, z', if_neg z2, hs, Bool.false_or, decide_eq_true_eq, Bool.false_eq_true]
    · show BX12_changed_64 h 73 (nI p) (eV a) (eV b) _ (nI j) (if hs (fun l => eS m p a l = eS m p b j) (Nn m (eB p a)) = true then nI 1 else nI 0) (nI (Nn m (eB p a))) = _
      unfold BX12_changed_64
      by_cases z : hs (fun l => eS m p a l = eS m p b j) (Nn m (eB p a)) = true
      · simp (disch := omega) only [MX12_changed_112, MX12_changed_124, ↓reduceIte, Nat.reduceLT, Nat.reduceLeDiff, Nat.reduceEqDiff, ZL, nAdd, nMul, nSub, nLt, nLe, nEq, nCl, nDiv, nRem2, nM1, nM2, nM3, nM4, nM5, nM6, gg_in, gg_rf, gg_T, if_true, if_false, ↓lt_eq, ob_some, b2_some, up1_some, kd_sI, ln_sI, gP_sI, gI_sI, kd_rI, ln_rI, gP_rI, gI_rI, kd_bmp, ln_bmp, gP_bmp, gI_bmp, up_at, i0, i1, RS.f R, sa, if_pos z, nwN]
      · simp (disch := omega) only [MX12_changed_112, MX12_changed_124, ↓reduceIte, Nat.reduceLT, Nat.reduceLeDiff, Nat.reduceEqDiff, ZL, nAdd, nMul, nSub, nLt, nLe, nEq, nCl, nDiv, nRem2, nM1, nM2, nM3, nM4, nM5, nM6, gg_in, gg_rf, gg_T, if_true, if_false, ↓lt_eq, ob_some, b2_some, up1_some, kd_sI, ln_sI, gP_sI, gI_sI, kd_rI, ln_rI, gP_rI, gI_rI, kd_bmp, ln_bmp, gP_bmp, gI_bmp, up_at, i0, i1, RS.f R, sa, if_neg z, nwN]
  · show BX12_changed_47 h 73 (nI p) (eV a) (eV b) _ (nI (Nn m (eB p b))) = _
    unfold BX12_changed_47
    simp (disch := omega) only [↓reduceIte, Nat.reduceLT, Nat.reduceLeDiff, Nat.reduceEqDiff, ZL, nAdd, nMul, nSub, nLt, nLe, nEq, nCl, nDiv, nRem2, nM1, nM2, nM3, nM4, nM5, nM6, gg_in, gg_rf, gg_T, if_true, if_false, ↓lt_eq, ob_some, b2_some, up1_some, kd_sI, ln_sI, gP_sI, gI_sI, kd_rI, ln_rI, gP_rI, gI_rI, kd_bmp, ln_bmp, gP_bmp, gI_bmp, up_at, i0, i1, RS.f R, sb]
theorem p_changed (C : CSt tg h m k i t n f) (R : RSt h m k i t n f) (v w u : Int32) : Pr (cm [1]) Gq h (MX11_changed h 1 v w u) (fun h' => MX12_changed h' 73 v w u) := by
  obtain ⟨O, X, X2, S, V, D, DV, I, T, Im, Tr⟩ := id C
  have Ih := I.2.2.2.2.1
  rcases ni_d v 6 with hv | ⟨p, hp, rfl⟩
  · refine Pr.thr C R 1 1 rfl (by omega) (by omega) ?_ fun h' R' => ⟨nI 0, ?_⟩
    · unfold MX11_changed
      rw [(c_isPage_f hv).1, ob_some, if_pos (by decide)]
    · unfold MX12_changed
      rw [(c_isPage_f hv).2, ob_some, if_pos (by decide)]
      simp (disch := omega) only [MX12_changed_24, MX12_changed_29, ↓reduceIte, Nat.reduceLT, Nat.reduceLeDiff, Nat.reduceEqDiff, ZL, nAdd, nMul, nSub, nLt, nLe, nEq, nCl, nDiv, nRem2, nM1, nM2, nM3, nM4, nM5, nM6, gg_in, gg_rf, gg_T, if_true, if_false, ↓lt_eq, ob_some, b2_some, up1_some, kd_sI, ln_sI, gP_sI, gI_sI, kd_rI, ln_rI, gP_rI, gI_rI, kd_bmp, ln_bmp, gP_bmp, gI_bmp, up_at, i0, i1, RS.f R'.1]
  · rcases ed_d m w with hw | ⟨a, ha, rfl⟩
    · refine Pr.thr C R 1 1 rfl (by omega) (by omega) ?_ fun h' R' => ⟨nI 0, ?_⟩
      · unfold MX11_changed
        rw [(c_isPage_t hp).1, ob_some, if_neg (by decide), gg_t X.1, c_isEd_f X D DV I.1 hw, ob_some, if_pos (by decide)]
      · unfold MX12_changed
        rw [(c_isPage_t hp).2, ob_some, if_neg (by decide), gg_t (RS.f R'.1).1, r_isEd_f R'.1 R'.2.1 I.1 hw, ob_some, if_pos (by decide)]
        simp (disch := omega) only [MX12_changed_24, MX12_changed_29, ↓reduceIte, Nat.reduceLT, Nat.reduceLeDiff, Nat.reduceEqDiff, ZL, nAdd, nMul, nSub, nLt, nLe, nEq, nCl, nDiv, nRem2, nM1, nM2, nM3, nM4, nM5, nM6, gg_in, gg_rf, gg_T, if_true, if_false, ↓lt_eq, ob_some, b2_some, up1_some, kd_sI, ln_sI, gP_sI, gI_sI, kd_rI, ln_rI, gP_rI, gI_rI, kd_bmp, ln_bmp, gP_bmp, gI_bmp, up_at, i0, i1, RS.f R'.1]
    · rcases ed_d m u with hu | ⟨b, hb, rfl⟩
      · refine Pr.thr C R 1 1 rfl (by omega) (by omega) ?_ fun h' R' => ⟨nI 0, ?_⟩
        · unfold MX11_changed
          rw [(c_isPage_t hp).1, ob_some, if_neg (by decide), gg_t X.1, c_isEd_t X D DV I.1 ha, ob_some, if_neg (by decide), c_isEd_f X D DV I.1 hu, ob_some, if_pos (by decide)]
        · unfold MX12_changed
          rw [(c_isPage_t hp).2, ob_some, if_neg (by decide), gg_t (RS.f R'.1).1, r_isEd_t R'.1 R'.2.1 I.1 ha, ob_some, if_neg (by decide), r_isEd_f R'.1 R'.2.1 I.1 hu, ob_some, if_pos (by decide)]
          simp (disch := omega) only [MX12_changed_24, MX12_changed_29, ↓reduceIte, Nat.reduceLT, Nat.reduceLeDiff, Nat.reduceEqDiff, ZL, nAdd, nMul, nSub, nLt, nLe, nEq, nCl, nDiv, nRem2, nM1, nM2, nM3, nM4, nM5, nM6, gg_in, gg_rf, gg_T, if_true, if_false, ↓lt_eq, ob_some, b2_some, up1_some, kd_sI, ln_sI, gP_sI, gI_sI, kd_rI, ln_rI, gP_rI, gI_rI, kd_bmp, ln_bmp, gP_bmp, gI_bmp, up_at, i0, i1, RS.f R'.1]
      · refine Pr.get C R (nI (nwN m p a b (Nn m (eB p b)))) ?_ fun h' R' => ?_
        · unfold MX11_changed
          rw [(c_isPage_t hp).1, ob_some, if_neg (by decide), gg_t X.1, c_isEd_t X D DV I.1 ha, ob_some, if_neg (by decide), c_isEd_t X D DV I.1 hb, ob_some, if_neg (by decide), X6 X, gg_t D.1]
          simp only [ZL, c_rowNo, c_countNew D DV I.1 Ih hp ha hb, ob_some]
        · unfold MX12_changed
          rw [(c_isPage_t hp).2, ob_some, if_neg (by decide), gg_t (RS.f R'.1).1, r_isEd_t R'.1 R'.2.1 I.1 ha, ob_some, if_neg (by decide), r_isEd_t R'.1 R'.2.1 I.1 hb, ob_some, if_neg (by decide)]
          have R2 := R'.th (v := nI 0)
          simp (disch := omega) only [MX12_changed_29, ↓reduceIte, Nat.reduceLT, Nat.reduceLeDiff, Nat.reduceEqDiff, ZL, nAdd, nMul, nSub, nLt, nLe, nEq, nCl, nDiv, nRem2, nM1, nM2, nM3, nM4, nM5, nM6, gg_in, gg_rf, gg_T, if_true, if_false, ↓lt_eq, ob_some, b2_some, up1_some, kd_sI, ln_sI, gP_sI, gI_sI, kd_rI, ln_rI, gP_rI, gI_rI, kd_bmp, ln_bmp, gP_bmp, gI_bmp, up_at, i0, i1, RS.f R'.1, r_changed R2.1 R2.2.1 I.1 Ih hp ha hb]
end
