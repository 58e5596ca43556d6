/-! part -/
section
variable {tg : Nat → List Nat} {h h1 h2 h' : Hp} {m k t : Nat → Int32} {i n f : Int32} {p q l r x X : Nat}
theorem c_countRight (K : Rt tg h r x) (S : RmS h r) (V : RmV h r m) (I : MI m) (hq : vP m q) (es : m (130 + 645 * q + 3) = nI 1) : ∃ h1, MX7_countRight h r (gP h (gP h r 5) q) = some (nI (ctB (rtB m q) (Nn m (130 + 645 * q + 4))), h1) ∧ Sc tg r x h h1 := by
  obtain ⟨p, hp, ec, p0, PS, PV⟩ := c_findPart_t S V I.1 hq
  rw [← hp]
  have J := I.2.1 q hq
  obtain ⟨e4, l4⟩ := J.2.2.2.2.2.1.eq (by omega)
  have c9 : gI h p 9 = nI (Nn m (130 + 645 * q + 4)) := by rw [PV.2.2.2.2.2.2.2.1, if_pos es, e4]
  have A := Pa.rm K (by rw [← hp]; exact PS) (by rw [← hp]; exact p0)
  rw [← hp] at A
  obtain ⟨L, hL⟩ : ∃ L, L = Nn m (130 + 645 * q + 4) := ⟨_, rfl⟩
  unfold MX7_countRight MX7_countRight_4
  have K0 : ∃ z, it (fun s : Int32 × Int32 × Hp => BX7_countRight_4 s.2.2 r p s.1 s.2.1) (nI 0, nI 0, h) = some z ∧ (z.1 = nI (ctB (rtB m q) L) ∧ Sc tg r x h z.2) := by
    refine it_cnt (fun j s => s.1 = nI (ctB (rtB m q) j) ∧ s.2.1 = nI j ∧ Sc tg r x h s.2.2) L (fun j s hj pp => ?_) (fun s pp => ?_) ⟨rfl, rfl, Sc.rfl S⟩
    · obtain ⟨a, b, g⟩ := s
      obtain ⟨p1, p2, sc⟩ := pp
      replace p1 : a = nI (ctB (rtB m q) j) := p1
      replace p2 : b = nI j := p2
      replace sc : Sc tg r x h g := sc
      subst p1 p2
      obtain ⟨Kg, Sg, Vg, eg, ek, ei⟩ := rq_sc K S V sc
      obtain ⟨g1, y1, y2⟩ := c_isRight Kg Sg Vg I hq es (l := j) (by omega)
      rw [eg, ← hp] at y1
      refine ⟨(nI (ctB (rtB m q) (j + 1)), nI (j + 1), g1), ?_, rfl, rfl, sc.trans y2⟩
      show BX7_countRight_4 g r p (nI (ctB (rtB m q) j)) (nI j) = some (.inl (nI (ctB (rtB m q) j + (if rtB m q j = true then 1 else 0)), nI (j + 1), g1))
      unfold BX7_countRight_4 MX7_countRight_27
      rw [ek, gg_t PS.1, ei p A.1, c9, if_neg (nI_ge (by omega) (by omega)), gg_t S.1, y1, b2_some]
      simp only [ZL]
      cases hb : rtB m q j with
      | true => rw [bIT, if_neg (by rw [n10]; exact id), if_pos rfl, nAdd, nAdd]
      | false => rw [bIF, if_pos rfl, if_neg (by simp), nAdd, nAdd]
    · obtain ⟨a, b, g⟩ := s
      obtain ⟨p1, p2, sc⟩ := pp
      replace p1 : a = nI (ctB (rtB m q) L) := p1
      replace p2 : b = nI L := p2
      replace sc : Sc tg r x h g := sc
      subst p1 p2
      obtain ⟨Kg, Sg, Vg, eg, ek, ei⟩ := rq_sc K S V sc
      refine ⟨(nI (ctB (rtB m q) L), g), ?_, rfl, sc⟩
      show BX7_countRight_4 g r p (nI (ctB (rtB m q) L)) (nI L) = _
      unfold BX7_countRight_4
      rw [ek, gg_t PS.1, ei p A.1, c9, hL, if_pos (nI_le (Nat.le_refl _) (by omega))]
  obtain ⟨⟨a, g⟩, k1, k2, k3⟩ := K0
  replace k2 : a = nI (ctB (rtB m q) L) := k2
  exact ⟨g, by simp only [ZL]; rw [k1, k2, hL], k3⟩
theorem r_countRight (R : RS h) (em : gI h 74 = m) (I : MI m) (hq : vP m q) (es : m (130 + 645 * q + 3) = nI 1) : ∃ h1, MX12_part_162 h 73 (nI q) (nI (130 + 645 * q)) (nI 0) (nI 0) = some (nI (ctB (rtB m q) (Nn m (130 + 645 * q + 4))), h1) ∧ Rw h h1 := by
  have J := I.2.1 q hq
  have hq0 := hq.1
  obtain ⟨e4, l4⟩ := J.2.2.2.2.2.1.eq (by omega)
  obtain ⟨L, hL⟩ : ∃ L, L = Nn m (130 + 645 * q + 4) := ⟨_, rfl⟩
  rw [← hL] at e4 ⊢
  unfold MX12_part_162
  have K0 : ∃ z, it (fun s : Int32 × Int32 × Hp => BX12_part_162 s.2.2 73 (nI q) (nI (130 + 645 * q)) s.1 s.2.1) (nI 0, nI 0, h) = some z ∧ (z.1 = nI (ctB (rtB m q) L) ∧ Rw h z.2) := by
    refine it_cnt (fun j s => s.1 = nI (ctB (rtB m q) j) ∧ s.2.1 = nI j ∧ Rw h s.2.2) L (fun j s hj pp => ?_) (fun s pp => ?_) ⟨rfl, rfl, Rw.rfl⟩
    · obtain ⟨a, b, g⟩ := s
      obtain ⟨p1, p2, sc⟩ := pp
      replace p1 : a = nI (ctB (rtB m q) j) := p1
      replace p2 : b = nI j := p2
      replace sc : Rw h g := sc
      subst p1 p2
      have R1 := sc.rk.rs R
      have m1 := sc.em em
      obtain ⟨g1, y1, y2⟩ := r_isRight R1 m1 I hq es (l := j) (by omega)
      refine ⟨(nI (ctB (rtB m q) (j + 1)), nI (j + 1), g1), ?_, rfl, rfl, sc.trans y2⟩
      show BX12_part_162 g 73 (nI q) (nI (130 + 645 * q)) (nI (ctB (rtB m q) j)) (nI j) = some (.inl (nI (ctB (rtB m q) j + (if rtB m q j = true then 1 else 0)), nI (j + 1), g1))
      have nl : (nI L ≤ nI j) = False := eq_false (nI_ge hj (by omega))
      unfold BX12_part_162 MX12_part_204
      rw [gg_t (RS.f R1).1]
      simp only [ZL]
      simp (disch := omega) only [RS.f R1, gg_rf, gg_T, gg_in, nAdd, nCl, m1, es, e4, nl, if_false, if_true, y1, b2_some]
      cases hb : rtB m q j with
      | true => rw [bIT, if_neg (by rw [n10]; exact id), if_pos rfl]
      | false => rw [bIF, if_pos rfl, if_neg (by simp)]
    · obtain ⟨a, b, g⟩ := s
      obtain ⟨p1, p2, sc⟩ := pp
      replace p1 : a = nI (ctB (rtB m q) L) := p1
      replace p2 : b = nI L := p2
      replace sc : Rw h g := sc
      subst p1 p2
      have R1 := sc.rk.rs R
      have m1 := sc.em em
      refine ⟨(nI (ctB (rtB m q) L), g), ?_, rfl, sc⟩
      show BX12_part_162 g 73 (nI q) (nI (130 + 645 * q)) (nI (ctB (rtB m q) L)) (nI L) = _
      have nl : (nI L ≤ nI L) = True := eq_true (nI_le (Nat.le_refl L) (by omega))
      unfold BX12_part_162
      rw [gg_t (RS.f R1).1]
      simp only [ZL]
      simp (disch := omega) only [RS.f R1, gg_rf, gg_T, gg_in, nAdd, nCl, m1, es, e4, nl, if_true]
  obtain ⟨⟨a, g⟩, k1, k2, k3⟩ := K0
  replace k2 : a = nI (ctB (rtB m q) L) := k2
  exact ⟨g, by rw [k1, k2], k3⟩
def lostB (m : Nat → Int32) (q s : Nat) : Bool := decide (m (64630 + 852 * s) = nI q) && decide (m (64630 + 852 * s + 4) ≠ nI 0)
theorem c_countLost (S : RmS h r) (V : RmV h r m) (I : MI m) {q : Nat} : MX7_countLost h r (nI q) = some (nI (ctB (lostB m q) (Nn m 4)), h) := by
  obtain ⟨-, -, -, -, ⟨b1, b2⟩, -⟩ := I.1.f
  unfold MX7_countLost MX7_countLost_4
  simp only [ZL]
  refine it_seq2 (fun j => (nI (ctB (lostB m q) j), nI j, h)) (Nn m 4) rfl (fun j hj => ?_) ?_
  · obtain ⟨c, hc, -, c0, cS, cV⟩ := c_findSlug_t S V I.1 hj
    have ow := c_ownSlug S (show j < 300 by omega) (by rw [← hc]; exact c0)
    rw [← hc] at ow
    have hI := I.2.2.1 j hj
    obtain ⟨x4, hx4, ex4⟩ := hI.2.2.2.2.2.2.2.2.1
    show BX7_countLost_4 h r (nI q) (nI (ctB (lostB m q) j)) (nI j) = some (.inl (nI (ctB (lostB m q) j + (if lostB m q j = true then 1 else 0)), nI (j + 1), h))
    unfold BX7_countLost_4 MX7_countLost_41 MX7_countLost_42
    rw [gg_t S.1, V.2.2.2.2.1, b1, if_neg (nI_ge hj (by omega)), ow, b2_some, gg_t cS.1, cV.1, cV.2.2.2.2.1]
    simp only [ZL]
    unfold lostB
    by_cases z1 : m (64630 + 852 * j) = nI q
    · rw [if_pos z1, decide_eq_true z1, Bool.true_and]
      by_cases z2 : m (64630 + 852 * j + 4) = nI 0
      · rw [if_pos z2, if_neg (by simp [z2]), nAdd, nAdd]
      · rw [if_neg z2, if_pos (by simp [z2]), nAdd, nAdd]
    · rw [if_neg z1, decide_eq_false z1, Bool.false_and, if_neg (by simp), nAdd, nAdd]
  · show BX7_countLost_4 h r (nI q) (nI (ctB (lostB m q) (Nn m 4))) (nI (Nn m 4)) = _
    unfold BX7_countLost_4
    rw [gg_t S.1, V.2.2.2.2.1, b1, if_pos (nI_le (Nat.le_refl _) (by omega))]
theorem r_countLost (R : RS h) (em : gI h 74 = m) (I : MI m) {q : Nat} : MX12_part_219 h 73 (nI q) (nI 0) (nI 0) = some (nI (ctB (lostB m q) (Nn m 4)), h) := by
  obtain ⟨-, -, -, -, ⟨b1, b2⟩, -⟩ := I.1.f
  unfold MX12_part_219
  refine it_seq2 (fun j => (nI (ctB (lostB m q) j), nI j)) (Nn m 4) rfl (fun j hj => ?_) ?_
  · show BX12_part_219 h 73 (nI q) (nI (ctB (lostB m q) j)) (nI j) = some (.inl (nI (ctB (lostB m q) j + (if lostB m q j = true then 1 else 0)), nI (j + 1)))
    have nl : (nI (Nn m 4) ≤ nI j) = False := eq_false (nI_ge hj (by omega))
    have pre : BX12_part_219 h 73 (nI q) (nI (ctB (lostB m q) j)) (nI j) = if m (64630 + 852 * j) = nI q then (if m (64630 + 852 * j + 4) = nI 0 then MX12_part_267 h 73 (nI q) (nI j) (nI (ctB (lostB m q) j)) else MX12_part_268 h 73 (nI q) (nI j) (nI (ctB (lostB m q) j)) (nI 1)) else MX12_part_267 h 73 (nI q) (nI j) (nI (ctB (lostB m q) j)) := by
      unfold BX12_part_219
      rw [gg_t (RS.f R).1]
      simp only [ZL]
      simp (disch := omega) only [RS.f R, gg_rf, gg_T, gg_in, nAdd, nCl, em, b1, nl, if_false, r_slug0, ob_some, Nat.add_zero]
    rw [pre]
    unfold lostB MX12_part_267 MX12_part_268
    simp only [ZL]
    by_cases z1 : m (64630 + 852 * j) = nI q
    · rw [if_pos z1, decide_eq_true z1, Bool.true_and]
      by_cases z2 : m (64630 + 852 * j + 4) = nI 0
      · rw [if_pos z2, if_neg (by simp [z2]), nAdd, nAdd]
      · rw [if_neg z2, if_pos (by simp [z2]), nAdd, nAdd]
    · rw [if_neg z1, decide_eq_false z1, Bool.false_and, if_neg (by simp), nAdd, nAdd]
  · show BX12_part_219 h 73 (nI q) (nI (ctB (lostB m q) (Nn m 4))) (nI (Nn m 4)) = _
    have nl : (nI (Nn m 4) ≤ nI (Nn m 4)) = True := eq_true (nI_le (Nat.le_refl _) (by omega))
    unfold BX12_part_219
    rw [gg_t (RS.f R).1]
    simp only [ZL]
    simp (disch := omega) only [RS.f R, gg_rf, gg_T, gg_in, nCl, em, b1, nl, if_true]
theorem d8 {j : Nat} (h : j < 8) : j = 0 ∨ j = 1 ∨ j = 2 ∨ j = 3 ∨ j = 4 ∨ j = 5 ∨ j = 6 ∨ j = 7 := by omega
theorem p_part (C : CSt tg h m k i t n f) (R : RSt h m k i t n f) (v w : Int32) : Pr (cm [1, 4]) Gq h (MX11_part h 1 v w) (fun h' => MX12_part h' 73 v w) := by
  obtain ⟨O, X, X2, S, V, D, DV, I, T, Im, Tr⟩ := id C
  have K := C.rt
  have th : ∀ h', RSt h' m k i t n f → ∀ c, 1 ≤ c → c ≤ 4 → MX12_part_28 h' 73 v w 73 (nI c) = some (nI 0, sI h' 73 0 (nI c)) := fun h' R' c h1 h4 => by
    simp (disch := omega) only [MX12_part_28, ↓reduceIte, Nat.reduceLT, Nat.reduceLeDiff, Nat.reduceEqDiff, ZL, nAdd, nMul, nSub, nLt, nLe, nEq, nCl, nDiv, nRem2, nM1, nM2, nM3, nM4, nM5, nM6, gg_in, gg_rf, gg_T, if_true, if_false, ↓lt_eq, ob_some, b2_some, up1_some, kd_sI, ln_sI, gP_sI, gI_sI, kd_rI, ln_rI, gP_rI, gI_rI, kd_bmp, ln_bmp, gP_bmp, gI_bmp, up_at, i0, i1, RS.f R'.1]
  rcases vP.d m v with hv | ⟨q, hq, rfl⟩
  · refine Pr.thr C R 1 1 rfl (by omega) (by omega) ?_ fun h' R' => ⟨nI 0, ?_⟩
    · unfold MX11_part
      rw [gg_t X.1, X5 X, gg_t S.1, c_findPart_f S V I.1 hv, ob_some, if_pos rfl]
    · unfold MX12_part
      rw [gg_t (RS.f R'.1).1, r_isPart_f R'.1 R'.2.1 I.1 hv, ob_some, if_pos (by decide)]
      exact th h' R' 1 (by omega) (by omega)
  · obtain ⟨c, hc, ec, c0, cS, cV⟩ := c_findPart_t S V I.1 hq
    have J := I.2.1 q hq
    have hb := hq.1
    have cpre : MX11_part h 1 (nI q) w = (if w = nI 0 then gg (kd h c = 4) (some (.inl (gI h c 6), h)) else if w = nI 1 then gg (kd h c = 4) (some (.inl (gI h c 5), h)) else if w = nI 2 then gg (kd h c = 4) (some (.inl (gI h c 7), h)) else if w = nI 3 then gg (kd h c = 4) (some (.inl (gI h c 8), h)) else if w = nI 4 then gg (kd h c = 4) (if gI h c 10 = nI 0 then some (.inl (nI 0), h) else some (.inl (nI 1), h)) else if w = nI 5 then gg (kd h c = 4) (if gI h c 11 = nI 0 then some (.inl (-nI 1), h) else some (.inl (gI h c 9), h)) else if w = nI 6 then (b2 (MX7_countRight h 19 c) fun t16 h15 => some (.inl t16, h15)) else if w = nI 7 then (b2 (MX7_countLost h 19 (nI q)) fun t19 h18 => some (.inl t19, h18)) else some (.inr 4, bmp h 1 6)) := by
      unfold MX11_part
      rw [gg_t X.1, X5 X, gg_t S.1, ec, ob_some, if_neg c0]
      simp only [ZL]
    rcases ni_d w 8 with hw | ⟨j, hj, rfl⟩
    · refine Pr.thr C R 4 2 rfl (by omega) (by omega) ?_ fun h' R' => ⟨nI 0, ?_⟩
      · rw [cpre, if_neg (hw 0 (by omega)), if_neg (hw 1 (by omega)), if_neg (hw 2 (by omega)), if_neg (hw 3 (by omega)), if_neg (hw 4 (by omega)), if_neg (hw 5 (by omega)), if_neg (hw 6 (by omega)), if_neg (hw 7 (by omega))]
      · unfold MX12_part
        rw [gg_t (RS.f R'.1).1, r_isPart_t R'.1 R'.2.1 I.1 hq, ob_some, if_neg (by decide)]
        simp only [ZL]
        rw [r_isIn_f (by omega) hw, ob_some, if_pos rfl]
        exact th h' R' 2 (by omega) (by omega)
    · obtain ⟨s, hs, es⟩ := J.2.2.2.2.1
      obtain ⟨g2, hg2, eg2⟩ := J.2.2.2.1
      obtain ⟨v5, v6, v7, v8, v10, v11, -, v9, -⟩ := id cV
      have rpre : ∀ h', RSt h' m k i t n f → MX12_part h' 73 (nI q) (nI j) = MX12_part_28 h' 73 (nI q) (nI j) 73 (nI 0) := fun h' R' => by
        unfold MX12_part
        rw [gg_t (RS.f R'.1).1, r_isPart_t R'.1 R'.2.1 I.1 hq, ob_some, if_neg (by decide)]
        simp only [ZL]
        rw [r_isIn_t (by omega) (by omega) (by omega), ob_some, if_neg (by decide)]
      have get : ∀ val : Int32, MX11_part h 1 (nI q) (nI j) = some (.inl val, h) → (∀ h', RSt h' m k i t n f → MX12_part_28 h' 73 (nI q) (nI j) 73 (nI 0) = some (val, sI h' 73 0 (nI 0))) → Pr (cm [1, 4]) Gq h (MX11_part h 1 (nI q) (nI j)) (fun h' => MX12_part h' 73 (nI q) (nI j)) := fun val e1 e2 => Pr.get C R val e1 (fun h' R' => by rw [rpre h' R']; exact e2 h' R')
      rcases d8 hj with rfl | rfl | rfl | rfl | rfl | rfl | rfl | rfl
      · exact get (m (130 + 645 * q)) (by rw [cpre, if_pos rfl, gg_t cS.1, v6]) fun h' R' => by
          simp (disch := omega) only [MX12_part_28, ↓reduceIte, Nat.reduceLT, Nat.reduceLeDiff, Nat.reduceEqDiff, ZL, nAdd, nMul, nSub, nLt, nLe, nEq, nCl, nDiv, nRem2, nM1, nM2, nM3, nM4, nM5, nM6, gg_in, gg_rf, gg_T, if_true, if_false, ↓lt_eq, ob_some, b2_some, up1_some, kd_sI, ln_sI, gP_sI, gI_sI, kd_rI, ln_rI, gP_rI, gI_rI, kd_bmp, ln_bmp, gP_bmp, gI_bmp, up_at, i0, i1, RS.f R'.1, R'.2.1, r_part0, Nat.add_zero]
      · exact get (m (130 + 645 * q + 1)) (by rw [cpre, if_neg (by decide), if_pos rfl, gg_t cS.1, v5]) fun h' R' => by
          simp (disch := omega) only [MX12_part_28, ↓reduceIte, Nat.reduceLT, Nat.reduceLeDiff, Nat.reduceEqDiff, ZL, nAdd, nMul, nSub, nLt, nLe, nEq, nCl, nDiv, nRem2, nM1, nM2, nM3, nM4, nM5, nM6, gg_in, gg_rf, gg_T, if_true, if_false, ↓lt_eq, ob_some, b2_some, up1_some, kd_sI, ln_sI, gP_sI, gI_sI, kd_rI, ln_rI, gP_rI, gI_rI, kd_bmp, ln_bmp, gP_bmp, gI_bmp, up_at, i0, i1, RS.f R'.1, R'.2.1, r_part0]
      · exact get (m (70 + q / 5)) (by rw [cpre, if_neg (by decide), if_neg (by decide), if_pos rfl, gg_t cS.1, v7]) fun h' R' => by
          simp (disch := omega) only [MX12_part_28, ↓reduceIte, Nat.reduceLT, Nat.reduceLeDiff, Nat.reduceEqDiff, ZL, nAdd, nMul, nSub, nLt, nLe, nEq, nCl, nDiv, nRem2, nM1, nM2, nM3, nM4, nM5, nM6, gg_in, gg_rf, gg_T, if_true, if_false, ↓lt_eq, ob_some, b2_some, up1_some, kd_sI, ln_sI, gP_sI, gI_sI, kd_rI, ln_rI, gP_rI, gI_rI, kd_bmp, ln_bmp, gP_bmp, gI_bmp, up_at, i0, i1, RS.f R'.1, R'.2.1, r_part0]
      · exact get (m (90 + q / 5)) (by rw [cpre, if_neg (by decide), if_neg (by decide), if_neg (by decide), if_pos rfl, gg_t cS.1, v8]) fun h' R' => by
          simp (disch := omega) only [MX12_part_28, ↓reduceIte, Nat.reduceLT, Nat.reduceLeDiff, Nat.reduceEqDiff, ZL, nAdd, nMul, nSub, nLt, nLe, nEq, nCl, nDiv, nRem2, nM1, nM2, nM3, nM4, nM5, nM6, gg_in, gg_rf, gg_T, if_true, if_false, ↓lt_eq, ob_some, b2_some, up1_some, kd_sI, ln_sI, gP_sI, gI_sI, kd_rI, ln_rI, gP_rI, gI_rI, kd_bmp, ln_bmp, gP_bmp, gI_bmp, up_at, i0, i1, RS.f R'.1, R'.2.1, r_part0]
      · refine get (m (130 + 645 * q + 2)) ?_ fun h' R' => by
          simp (disch := omega) only [MX12_part_28, ↓reduceIte, Nat.reduceLT, Nat.reduceLeDiff, Nat.reduceEqDiff, ZL, nAdd, nMul, nSub, nLt, nLe, nEq, nCl, nDiv, nRem2, nM1, nM2, nM3, nM4, nM5, nM6, gg_in, gg_rf, gg_T, if_true, if_false, ↓lt_eq, ob_some, b2_some, up1_some, kd_sI, ln_sI, gP_sI, gI_sI, kd_rI, ln_rI, gP_rI, gI_rI, kd_bmp, ln_bmp, gP_bmp, gI_bmp, up_at, i0, i1, RS.f R'.1, R'.2.1, r_part0]
        rw [cpre, if_neg (by decide), if_neg (by decide), if_neg (by decide), if_neg (by decide), if_pos rfl, gg_t cS.1, v10, eg2]
        rcases (show g2 = 0 ∨ g2 = 1 by omega) with rfl | rfl
        · rw [if_pos rfl]
        · rw [if_neg (by decide)]
      · rcases (show s = 0 ∨ s = 1 by omega) with rfl | rfl
        · refine get (-nI 1) ?_ fun h' R' => by
            simp (disch := omega) only [MX12_part_28, ↓reduceIte, Nat.reduceLT, Nat.reduceLeDiff, Nat.reduceEqDiff, ZL, nAdd, nMul, nSub, nLt, nLe, nEq, nCl, nDiv, nRem2, nM1, nM2, nM3, nM4, nM5, nM6, gg_in, gg_rf, gg_T, if_true, if_false, ↓lt_eq, ob_some, b2_some, up1_some, kd_sI, ln_sI, gP_sI, gI_sI, kd_rI, ln_rI, gP_rI, gI_rI, kd_bmp, ln_bmp, gP_bmp, gI_bmp, up_at, i0, i1, RS.f R'.1, R'.2.1, r_part0, es]
          rw [cpre, if_neg (by decide), if_neg (by decide), if_neg (by decide), if_neg (by decide), if_neg (by decide), if_pos rfl, gg_t cS.1, v11, es, if_pos rfl]
        · refine get (m (130 + 645 * q + 4)) ?_ fun h' R' => by
            simp (disch := omega) only [MX12_part_28, ↓reduceIte, Nat.reduceLT, Nat.reduceLeDiff, Nat.reduceEqDiff, ZL, nAdd, nMul, nSub, nLt, nLe, nEq, nCl, nDiv, nRem2, nM1, nM2, nM3, nM4, nM5, nM6, gg_in, gg_rf, gg_T, if_true, if_false, ↓lt_eq, ob_some, b2_some, up1_some, kd_sI, ln_sI, gP_sI, gI_sI, kd_rI, ln_rI, gP_rI, gI_rI, kd_bmp, ln_bmp, gP_bmp, gI_bmp, up_at, i0, i1, RS.f R'.1, R'.2.1, r_part0, es]
          rw [cpre, if_neg (by decide), if_neg (by decide), if_neg (by decide), if_neg (by decide), if_neg (by decide), if_pos rfl, gg_t cS.1, v11, v9, if_pos es, es, if_neg (by decide)]
      · have c6 : MX11_part h 1 (nI q) (nI 6) = b2 (MX7_countRight h 19 c) fun t16 h15 => some (.inl t16, h15) := by
          rw [cpre, if_neg (by decide), if_neg (by decide), if_neg (by decide), if_neg (by decide), if_neg (by decide), if_neg (by decide), if_pos rfl]
        have r6 : ∀ h', RSt h' m k i t n f → MX12_part_28 h' 73 (nI q) (nI 6) 73 (nI 0) = MX12_part_162 (sI h' 73 0 (nI 0)) 73 (nI q) (nI (130 + 645 * q)) (nI 0) (nI 0) := fun h' R' => by
          simp (disch := omega) only [MX12_part_28, ↓reduceIte, Nat.reduceLT, Nat.reduceLeDiff, Nat.reduceEqDiff, ZL, nAdd, nMul, nSub, nLt, nLe, nEq, nCl, nDiv, nRem2, nM1, nM2, nM3, nM4, nM5, nM6, gg_in, gg_rf, gg_T, if_true, if_false, ↓lt_eq, ob_some, b2_some, up1_some, kd_sI, ln_sI, gP_sI, gI_sI, kd_rI, ln_rI, gP_rI, gI_rI, kd_bmp, ln_bmp, gP_bmp, gI_bmp, up_at, i0, i1, RS.f R'.1, R'.2.1, r_part0]
        rcases (show s = 0 ∨ s = 1 by omega) with rfl | rfl
        · -- no line yet
          have e90 : gI h c 9 = nI 0 := by rw [v9, es, if_neg (by decide)]
          refine Pr.get C R (nI 0) ?_ fun h' R' => ?_
          · rw [c6]
            have : MX7_countRight h 19 c = some (nI 0, h) := by
              unfold MX7_countRight MX7_countRight_4
              simp only [ZL]
              refine it_done ?_
              show BX7_countRight_4 h 19 c (nI 0) (nI 0) = _
              unfold BX7_countRight_4
              rw [gg_t cS.1, e90, if_pos (by decide)]
            rw [this, b2_some]
          · rw [rpre h' R', r6 h' R']
            have R0 := R'.th (v := nI 0)
            unfold MX12_part_162
            refine it_done ?_
            show BX12_part_162 (sI h' 73 0 (nI 0)) 73 (nI q) (nI (130 + 645 * q)) (nI 0) (nI 0) = _
            unfold BX12_part_162
            rw [gg_t (RS.f R0.1).1]
            simp only [ZL]
            have e3 : gI (sI h' 73 0 (nI 0)) 74 (130 + 645 * q + 3) = nI 0 := by rw [R0.2.1, es]
            simp (disch := omega) only [RS.f R0.1, gg_rf, gg_T, gg_in, nAdd, nCl, e3, n01, if_false]
        · obtain ⟨h1, k1, k2⟩ := c_countRight K S V I hq es
          rw [← hc] at k1
          refine Pr.sc C R _ (by rw [c6, k1, b2_some]) k2 fun h' R' => ?_
          have R0 := R'.th (v := nI 0)
          obtain ⟨h2, a1, a2⟩ := r_countRight R0.1 R0.2.1 I hq es
          exact ⟨h2, by rw [rpre h' R', r6 h' R', a1], th_fr.trans a2.rk.fr, a2.rk.st R0, by rw [a2.rk.2.1, th_get]⟩
      · refine get (nI (ctB (lostB m q) (Nn m 4))) ?_ fun h' R' => ?_
        · rw [cpre, if_neg (by decide), if_neg (by decide), if_neg (by decide), if_neg (by decide), if_neg (by decide), if_neg (by decide), if_neg (by decide), if_pos rfl, c_countLost S V I, b2_some]
        · have R0 := R'.th (v := nI 0)
          have : MX12_part_28 h' 73 (nI q) (nI 7) 73 (nI 0) = MX12_part_219 (sI h' 73 0 (nI 0)) 73 (nI q) (nI 0) (nI 0) := by
            simp (disch := omega) only [MX12_part_28, ↓reduceIte, Nat.reduceLT, Nat.reduceLeDiff, Nat.reduceEqDiff, ZL, nAdd, nMul, nSub, nLt, nLe, nEq, nCl, nDiv, nRem2, nM1, nM2, nM3, nM4, nM5, nM6, gg_in, gg_rf, gg_T, if_true, if_false, ↓lt_eq, ob_some, b2_some, up1_some, kd_sI, ln_sI, gP_sI, gI_sI, kd_rI, ln_rI, gP_rI, gI_rI, kd_bmp, ln_bmp, gP_bmp, gI_bmp, up_at, i0, i1, RS.f R'.1, R'.2.1, r_part0]
          rw [this, r_countLost R0.1 R0.2.1 I]
end
