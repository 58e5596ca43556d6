/-! edition: reference; the pair -/
section
variable {tg tg' : Nat → List Nat} {h h' h1 : Hp} {m m' k t : Nat → Int32} {i n f : Int32} {W : Nat → Prop} {G : Hp → Hp → Prop} {e p : Nat}
/-- the desk alone is changed -/
theorem mu_dk (X : Rx tg h tg' h' W) (O : Own tg h) (Y : XS h) (h9 : 109 ≤ sz h) (hW : ∀ y, W y → y = 6) (hl : cst h' + dkP h' 48 ≤ cst h + dkP h 48) : mu h' ≤ mu h := by
  obtain ⟨t1, t2, t3, t4, t5, t13, t19, t48, t59, t68⟩ := tgs O Y
  have w : ∀ y, y ≠ 6 → ¬ W y := fun y hy z => hy (hW y z)
  unfold mu
  rw [rx_g1 X O h9, rmQ_c (h := h) (h' := h') (r := gP h 1 9) (fun z => rx_sm3 X (rt_1 O Y z (by omega)) (O.2.2.2.2.2 1 9) (w 9 (by omega))), rmQ_c (h := h) (h' := h') (r := gP h 1 11) (fun z => rx_sm3 X (rt_1 O Y z (by omega)) (O.2.2.2.2.2 1 11) (w 11 (by omega))), rmP_c (h := h) (h' := h') (r := 19) (rx_sm3 X (⟨O, t3, t19, by omega, by omega⟩ : Rt tg h 19 5) (by omega) (w 5 (by omega))), dkQ_c (h := h) (h' := h') (d := gP h 1 10) (fun z => rx_sm3 X (rt_1 O Y z (by omega)) (O.2.2.2.2.2 1 10) (w 10 (by omega)))]
  omega
theorem Pr.gm {cm : Nat → Nat} {X : Option ((Int32 ⊕ Nat) × Hp)} {Y : Hp → Option (Int32 × Hp)} (P : Pr cm Gq h X Y) : Pr cm Gm h X Y := by
  obtain ⟨o, h1, tg, m, k, i, t, n, f, a1, a2, a3, a4, a5⟩ := P
  exact ⟨o, h1, tg, m, k, i, t, n, f, a1, a2, a3, a4.gm, a5⟩
/-- the desk is changed on both sides -/
theorem Pr.dk {cm : Nat → Nat} {X : Option ((Int32 ⊕ Nat) × Hp)} {Y : Hp → Option (Int32 × Hp)} (C : CSt tg h m k i t n f) (R : RSt h m k i t n f) (h9 : 109 ≤ sz h) (v : Int32) (hX : X = some (.inl v, h')) (F : Dy tg h tg' h' 48 6) (V' : DkV h' 48 m') (I' : MI m') (H : ∀ x, rgRm x → m' x = m x) (hY : ∀ h1, RSt h1 m k i t n f → ∃ h2, Y h1 = some (v, h2) ∧ Fr Rc h1 h2 ∧ RSt h2 m' k i t n f ∧ gI h2 73 0 = nI 0) : Pr cm Gm h X Y := by
  obtain ⟨O, Y0, Y2, S, V, DS, DV, I, T, Im, Tr⟩ := id C
  obtain ⟨t1, t2, t3, t4, t5, t13, t19, t48, t59, t68⟩ := tgs O Y0
  obtain ⟨r1, r2, r3, r4⟩ := F
  have w : ∀ y, y = 6 → y = 5 ∨ y = 6 ∨ y = 9 ∨ y = 10 ∨ y = 11 := fun y hy => Or.inr (Or.inl hy)
  have s19 := rx_sm3 r1 (⟨O, t3, t19, by omega, by omega⟩ : Rt tg h 19 5) (by omega) (by omega : ¬ 5 = 6)
  refine Pr.rx C R h9 v hX r1 w (C.rx h9 r1 w (S.congr s19) ((V.congr s19).mc H I) r3 V' I' (rx_img r1 O Y0 h9 (by omega) (by omega) Im) (rx_tr r1 O Y0 h9 (by omega) Tr)) ⟨?_, r1.2.1⟩ hY
  have := mu_dk r1 O Y0 h9 (fun y hy => hy) r2
  omega
theorem r_edI (R : RSt h (edW m e (181 * p)) k i t n f) (hp : p < 6) (e8 : e < 8) (hn : m (327382 + 185 * p + 2) = nI (Nn m (327382 + 185 * p + 2))) (hb : Nn m (327382 + 185 * p + 2) ≤ 180) : ∃ h2, BX12_edition_40 h 73 (nI e) (nI p) = some (.inl (nI (p + 1), h2)) ∧ Fr Rc h h2 ∧ RSt h2 (edW m e (181 * (p + 1))) k i t n f ∧ gI h2 73 = gI h 73 := by
  obtain ⟨N, hN⟩ : ∃ N, N = Nn m (327382 + 185 * p + 2) := ⟨_, rfl⟩
  rw [← hN] at hn hb
  have eo : ∀ J y, y < 328492 → edW m e J y = m y := fun J y hy => by
    unfold edW
    rw [if_neg (by omega)]
  obtain ⟨h0, hh0⟩ : ∃ h0, h0 = sI h 74 (328492 + 181 * (6 * e + p)) (m (327382 + 185 * p + 2)) := ⟨_, rfl⟩
  have R0 : RSt h0 (edW m e (181 * p + 1)) k i t n f := by
    rw [hh0, ← edW_c]
    exact R.m1
  have F0 : Fr Rc h h0 := by rw [hh0]; exact fr74
  have K0 : ∃ z, it (fun q : Int32 × Hp => BX12_edition_74 q.2 73 (nI e) (nI p) q.1) (nI 0, h0) = some z ∧ (∃ g, z = .inl (nI (p + 1), g) ∧ Fr Rc h g ∧ RSt g (edW m e (181 * (p + 1))) k i t n f ∧ gI g 73 = gI h 73) := by
    refine it_cnt (fun j s => s.1 = nI j ∧ Fr Rc h s.2 ∧ RSt s.2 (edW m e (181 * p + 1 + j)) k i t n f ∧ gI s.2 73 = gI h 73) N (fun j s hj pp => ?_) (fun s pp => ?_) ⟨rfl, F0, R0, by rw [hh0, n74]⟩
    · obtain ⟨u, g⟩ := s
      obtain ⟨p1, p2, p3, p4⟩ := pp
      replace p1 : u = nI j := p1
      replace p2 : Fr Rc h g := p2
      replace p3 : RSt g (edW m e (181 * p + 1 + j)) k i t n f := p3
      replace p4 : gI g 73 = gI h 73 := p4
      subst p1
      have v2 : gI g 74 (327382 + 185 * p + 2) = nI N := by rw [p3.2.1, eo _ _ (by omega)]; exact hn
      have v5 : gI g 74 (327382 + 185 * p + 5 + j) = m (327382 + 185 * p + 5 + j) := by rw [p3.2.1, eo _ _ (by omega)]
      refine ⟨(nI (j + 1), sI g 74 (328492 + 181 * (6 * e + p) + 1 + j) (m (327382 + 185 * p + 5 + j))), ?_, rfl, p2.trans fr74, ?_, ?_⟩
      · show BX12_edition_74 g 73 (nI e) (nI p) (nI j) = _
        unfold BX12_edition_74 MX12_many0
        simp only [ZL, nMul, nAdd]
        rw [gg_t (RS.f p3.1).1, (RS.f p3.1).2.1, gg_t (RS.f p3.1).2.2.1, (RS.f p3.1).2.2.2.1, gg_in (by omega) (by omega), nCl (by omega), v2, if_neg (nI_ge hj (by omega)), ob_some]
        simp only [nAdd]
        rw [gg_in (by omega) (by omega), gg_in (by omega) (by omega), lt_eq, nCl (by omega), nCl (by omega), v5]
      · show RSt (sI g 74 (328492 + 181 * (6 * e + p) + 1 + j) (m (327382 + 185 * p + 5 + j))) (edW m e (181 * p + 1 + (j + 1))) k i t n f
        rw [← edW_s (by omega) (by omega)]
        exact p3.m1
      · show gI (sI g 74 (328492 + 181 * (6 * e + p) + 1 + j) (m (327382 + 185 * p + 5 + j))) 73 = gI h 73
        rw [n74]
        exact p4
    · obtain ⟨u, g⟩ := s
      obtain ⟨p1, p2, p3, p4⟩ := pp
      replace p1 : u = nI N := p1
      replace p2 : Fr Rc h g := p2
      replace p3 : RSt g (edW m e (181 * p + 1 + N)) k i t n f := p3
      replace p4 : gI g 73 = gI h 73 := p4
      subst p1
      have v2 : gI g 74 (327382 + 185 * p + 2) = nI N := by rw [p3.2.1, eo _ _ (by omega)]; exact hn
      refine ⟨.inl (nI (p + 1), g), ?_, g, rfl, p2, ?_, p4⟩
      · show BX12_edition_74 g 73 (nI e) (nI p) (nI N) = _
        unfold BX12_edition_74
        simp only [ZL, nMul, nAdd]
        rw [gg_t (RS.f p3.1).1, (RS.f p3.1).2.1, gg_t (RS.f p3.1).2.2.1, (RS.f p3.1).2.2.2.1, gg_in (by omega) (by omega), nCl (by omega), v2, if_pos (nI_le (Nat.le_refl _) (by omega))]
      · rw [hN] at p3
        rw [edW_e (by omega)] at p3
        exact p3
  obtain ⟨z, y1, g, y2, y3, y4, y5⟩ := K0
  refine ⟨g, ?_, y3, y4, y5⟩
  have v2 : gI h 74 (327382 + 185 * p + 2) = m (327382 + 185 * p + 2) := by rw [R.2.1, eo _ _ (by omega)]
  unfold BX12_edition_40 MX12_many0 MX12_edition_74
  simp only [ZL, nMul, nAdd]
  rw [if_neg (nI_ge hp (by omega)), gg_t (RS.f R.1).1, ob_some, (RS.f R.1).2.1, gg_t (RS.f R.1).2.2.1, (RS.f R.1).2.2.2.1, gg_in (by omega) (by omega), gg_in (by omega) (by omega), lt_eq, nCl (by omega), nCl (by omega), v2, ← hh0, y1, y2]
theorem r_edition (R : RSt h m k i t n f) (I : MI m) (he : e = Nn m 6) (e8 : e < 8) : ∃ h2, MX12_edition h 73 = some (nI e, h2) ∧ Fr Rc h h2 ∧ RSt h2 (edM m e) k i t n f ∧ gI h2 73 0 = nI 0 := by
  have b6 : m 6 = nI e := by rw [he]; exact I.1.f.2.2.2.2.2.2.1.1
  have pg := fun p (hp : p < 6) => (I.2.2.2.2.1.1 p hp).2.2.2.2.eq (by omega)
  have K0 : ∃ z, it (fun q : Int32 × Hp => BX12_edition_40 q.2 73 (nI e) q.1) (nI 0, sI h 73 0 (nI 0)) = some z ∧ (z.1 = nI e ∧ Fr Rc h z.2 ∧ RSt z.2 (edM m e) k i t n f ∧ gI z.2 73 0 = nI 0) := by
    refine it_cnt (fun j s => s.1 = nI j ∧ Fr Rc h s.2 ∧ RSt s.2 (edW m e (181 * j)) k i t n f ∧ gI s.2 73 0 = nI 0) 6 (fun j s hj pp => ?_) (fun s pp => ?_) ⟨rfl, th_fr, by rw [Nat.mul_zero, edW_0]; exact R.th, th_get⟩
    · obtain ⟨u, g⟩ := s
      obtain ⟨p1, p2, p3, p4⟩ := pp
      replace p1 : u = nI j := p1
      replace p2 : Fr Rc h g := p2
      replace p3 : RSt g (edW m e (181 * j)) k i t n f := p3
      replace p4 : gI g 73 0 = nI 0 := p4
      subst p1
      obtain ⟨g2, y1, y2, y3, y4⟩ := r_edI p3 hj e8 (pg j hj).1 (pg j hj).2
      exact ⟨(nI (j + 1), g2), y1, rfl, p2.trans y2, y3, by show gI g2 73 0 = nI 0; rw [y4]; exact p4⟩
    · obtain ⟨u, g⟩ := s
      obtain ⟨p1, p2, p3, p4⟩ := pp
      replace p1 : u = nI 6 := p1
      replace p2 : Fr Rc h g := p2
      replace p3 : RSt g (edW m e (181 * 6)) k i t n f := p3
      replace p4 : gI g 73 0 = nI 0 := p4
      subst p1
      have v6 : gI g 74 6 = nI e := by
        rw [p3.2.1]
        unfold edW
        rw [if_neg (by omega)]
        exact b6
      refine ⟨(nI e, sI g 74 6 (nI (e + 1))), ?_, rfl, p2.trans fr74, p3.m1, ?_⟩
      · show BX12_edition_40 g 73 (nI e) (nI 6) = _
        unfold BX12_edition_40 MX12_edition_137
        simp only [ZL]
        rw [if_pos (nI_le (Nat.le_refl _) (by omega)), gg_t (RS.f p3.1).1, (RS.f p3.1).2.1, gg_t (RS.f p3.1).2.2.1, (RS.f p3.1).2.2.2.1, gg_in (by omega) (by omega), nCl (by omega), v6, nAdd, lt_eq, up1_some]
      · show gI (sI g 74 6 (nI (e + 1))) 73 0 = nI 0
        rw [n74]
        exact p4
  obtain ⟨⟨u, g⟩, k1, k2, k3, k4, k5⟩ := K0
  replace k2 : u = nI e := k2
  refine ⟨g, ?_, k3, k4, k5⟩
  have v6 : gI h 74 6 = nI e := by rw [R.2.1]; exact b6
  have v6' : gI (sI h 73 0 (nI 0)) 74 6 = nI e := by rw [gI2, if_neg (by omega)]; exact v6
  have n8 : ¬ nI e = nI 8 := by rw [nEq (by omega) (by omega)]; omega
  unfold MX12_edition MX12_edition_18 MX12_edition_40
  simp only [ZL]
  rw [gg_t (RS.f R.1).1, (RS.f R.1).2.1, gg_t (RS.f R.1).2.2.1, (RS.f R.1).2.2.2.1, gg_in (by omega) (by omega), nCl (by omega), v6, if_neg n8, gg_t (RS.f R.1).1, lt_eq, gg_t (RS.f R.1).1, th_get, if_pos (nI_le (Nat.le_refl _) (by omega)), gg_t (RS.f R.1).2.2.1, gg_in (by omega) (by omega), v6', k1, k2]
theorem p_edition (C : CSt tg h m k i t n f) (R : RSt h m k i t n f) (h9 : 109 ≤ sz h) : Pr (cm [3]) Gm h (MX11_edition h 1) (fun h' => MX12_edition h' 73) := by
  obtain ⟨O, X, X2, S, V, D, DV, I, T, Im, Tr⟩ := id C
  obtain ⟨b6, b6'⟩ := I.1.f.2.2.2.2.2.2.1
  have g6 : gI h 48 6 = nI (Nn m 6) := DV.1.trans b6
  by_cases e8 : Nn m 6 < 8
  · obtain ⟨-, -, t3, -, -, -, -, t48, -⟩ := tgs O X
    obtain ⟨tg', h', k1, k2, k3⟩ := c_addEd (⟨O, t3, t48, by omega, by omega⟩ : Rt tg h 48 6) (by omega) h9 D DV I.1 I.2.2.2.2.1 (ed_mi I rfl e8) rfl e8
    refine Pr.dk C R h9 (nI (Nn m 6)) ?_ k2 k3 (ed_mi I rfl e8) (fun x hx => ?_) fun h1 R1 => r_edition R1 I rfl e8
    · unfold MX11_edition
      simp only [ZL]
      rw [gg_t X.1, X6 X, gg_t D.1, g6, if_pos (nI_lt e8 (by omega)), k1, b2_some]
    · unfold rgRm at hx
      exact edM_o (by omega) (by omega)
  · refine Pr.gm (Pr.thr C R 3 1 rfl (by omega) (by omega) ?_ fun h' R' => ⟨nI 0, ?_⟩)
    · unfold MX11_edition
      simp only [ZL]
      rw [gg_t X.1, X6 X, gg_t D.1, g6, if_neg (nI_nlt (by omega) (by omega))]
    · have v6 : gI h' 74 6 = nI 8 := by rw [R'.2.1, b6, show Nn m 6 = 8 by omega]
      unfold MX12_edition MX12_edition_18
      simp only [ZL]
      rw [gg_t (RS.f R'.1).1, (RS.f R'.1).2.1, gg_t (RS.f R'.1).2.2.1, (RS.f R'.1).2.2.2.1, gg_in (by omega) (by omega), nCl (by omega), v6, if_pos rfl, gg_t (RS.f R'.1).1, lt_eq, gg_t (RS.f R'.1).1, th_get, if_neg (nI_ge (by omega) (by omega))]
end
