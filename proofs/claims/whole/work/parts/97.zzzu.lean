/-! least: the pair -/
section
variable {tg : Nat → List Nat} {h h' h1 g g1 : Hp} {m kk t : Nat → Int32} {ii nn f : Int32} {k j q r x n : Nat}
/-- the reference's least lateness -/
theorem r_least (R : RSt h m kk ii t nn f) (I : MI m) (Z : StM m) : ∃ g b', MX12_least h 73 = some (bW b', g) ∧ Fr Rc h g ∧ RSt g m kk ii t nn f ∧ gI g 73 0 = nI 0 ∧ b' ≤ 100000 ∧ QX 0 b' (fun c => RfB (pL m) (pD m) (pB m) (Nn m 3) (pnN m) (pX m) (sB (2 ^ pnN m - 1)) c) := by
  have f3 := I.1.f.2.2.2.1
  have f0 := I.1.f.1
  obtain ⟨pn5, pL4, pL0, pD6⟩ := p_bd I
  obtain ⟨h0, hh0⟩ : ∃ h0, h0 = sI h 73 0 (nI 0) := ⟨_, rfl⟩
  have R0 : RSt h0 m kk ii t nn f := by rw [hh0]; exact R.th
  have t0 : gI h0 73 0 = nI 0 := by rw [hh0]; exact th_get
  obtain ⟨h7, hh7⟩ : ∃ h7, h7 = sI h0 73 56 (nI 0) := ⟨_, rfl⟩
  have K7 : Rk h0 h7 := by rw [hh7]; exact Rk.f (by omega)
  have R7 := K7.st R0
  obtain ⟨g1, y1, y2, y3⟩ := r_load R7.1 R7.2.1 I Z (by rw [hh7, gI2, if_pos ⟨rfl, rfl⟩])
  have K1 := K7.trans y2
  -- the loads
  have lp : ∃ z, it (fun y : Int32 × Hp => BX12_least_119 y.2 73 y.1) (nI 0, g1) = some z ∧ ∃ b', z.1 = bW b' ∧ Rk h0 z.2 ∧ b' ≤ 100000 ∧ QX 0 b' (fun c => RfB (pL m) (pD m) (pB m) (Nn m 3) (pnN m) (pX m) (sB (2 ^ pnN m - 1)) c) := by
    refine it_cnt (fun k y => y.1 = nI k ∧ Rk h0 y.2 ∧ RP y.2 m (plc m 100) ∧ ∀ j, j < k → gI y.2 108 j = nI (pX m j)) (Nn m 3) (fun k y hk pp => ?_) (fun y pp => ?_) ⟨rfl, K1, y3, fun j hj => absurd hj (Nat.not_lt_zero j)⟩
    · obtain ⟨a1, e⟩ := y
      obtain ⟨p1, p2, p3, p4⟩ := pp
      replace p1 : a1 = nI k := p1
      replace p2 : Rk h0 e := p2
      replace p3 : RP e m (plc m 100) := p3
      replace p4 : ∀ j, j < k → gI e 108 j = nI (pX m j) := p4
      subst p1
      have Re := p2.st R0
      obtain ⟨g2, a1, a2⟩ := r_queue Re.1 Re.2.1 I Z hk
      have R2 := a2.1.st Re
      obtain ⟨g3, hg3⟩ : ∃ g3, g3 = sI g2 108 k (nI (pX m k)) := ⟨_, rfl⟩
      have K3 : Rk g2 g3 := by rw [hg3]; exact Rk.s (by omega) (by omega)
      refine ⟨(nI (k + 1), g3), ?_, rfl, (p2.trans a2.1).trans K3, ?_, fun j hj => ?_⟩
      · show BX12_least_119 e 73 (nI k) = _
        unfold BX12_least_119
        simp only [ZL]
        rw [gg_t (RS.f Re.1).1]
        simp only [RS.f Re.1]
        rw [gg_T, gg_in (by omega) (by omega), nCl (by omega), Re.2.1, f3.1, if_neg (nI_ge hk (by omega)), gg_in (by omega) (by omega), nCl (by omega), a1, b2_some]
        simp only [RS.f R2.1]
        rw [gg_T, gg_in (by omega) (by omega), nCl (by omega), f0.1, nAdd, nAdd]
        show lt (sI g2 108 k (nI (pX m k))) _ = _
        rw [lt_eq, ← hg3]
      · show RP g3 m (plc m 100)
        have P2 := rp_k p3 a2
        refine ⟨by rw [hg3, gI_sI, if_neg (by omega)]; exact P2.1, fun i hi => by rw [hg3, gI_sI, if_neg (by omega), gI_sI, if_neg (by omega)]; exact P2.2 i hi⟩
      · show gI g3 108 j = _
        rw [hg3, gI_sI, if_pos rfl, up_at]
        by_cases z : j = k
        · rw [if_pos z, z]
        · rw [if_neg z, a2.2.1 108 (by omega) (by omega)]
          exact p4 j (by omega)
    · obtain ⟨a1, e⟩ := y
      obtain ⟨p1, p2, p3, p4⟩ := pp
      replace p1 : a1 = nI (Nn m 3) := p1
      replace p2 : Rk h0 e := p2
      replace p3 : RP e m (plc m 100) := p3
      replace p4 : ∀ j, j < Nn m 3 → gI e 108 j = nI (pX m j) := p4
      subst p1
      have Re := p2.st R0
      obtain ⟨g2, hg2⟩ : ∃ g2, g2 = sI e 73 57 (-nI 1) := ⟨_, rfl⟩
      have K2 : Rk e g2 := by rw [hg2]; exact Rk.f (by omega)
      have R2 := K2.st Re
      have P2 : RP g2 m (plc m 100) := ⟨by rw [hg2, gI2, if_neg (by omega)]; exact p3.1, fun i hi => by rw [hg2, gI_sI, if_neg (by omega), gI_sI, if_neg (by omega)]; exact p3.2 i hi⟩
      have sz0 : szB (rmS (pnN m) 0) = pnN m := by
        have T : ∀ n, n < 6 → szB (sB (2 ^ n - 1)) = n := by decide +kernel
        rw [rm_0 pn5]
        exact T _ (by omega)
      obtain ⟨g3, b', u1, u2, u3, u4, u5, u6, u7⟩ := r_plc I (pnN m) 30 0 0 (pX m) 0 0 g2 (by omega) (by omega) (by omega) sz0 ⟨R2.1, R2.2.1, P2⟩ (fun k hk => ⟨by rw [hg2, gI_sI, if_neg (by omega)]; exact p4 k hk, by have := pX_b I hk; omega⟩) (by omega) (by rw [hg2, gI2, if_pos ⟨rfl, rfl⟩]; rfl) (by omega)
      have K3 : Rk g2 g3 := ⟨u2.mono (fun b hb => by omega), u3 0 (by omega), u3 4 (by omega), u3 6 (by omega), u3 9 (by omega)⟩
      have R3 := K3.st R2
      rw [rm_0 pn5] at u7
      refine ⟨(bW b', g3), ?_, b', rfl, (p2.trans K2).trans K3, u6, u7.c (fun c => ⟨fun h => ⟨c, h, (Nat.zero_add c).symm⟩, fun ⟨c', h1, h2⟩ => by rw [h2, Nat.zero_add]; exact h1⟩)⟩
      show BX12_least_119 e 73 (nI (Nn m 3)) = _
      unfold BX12_least_119 MX12_least_153 MX12_place
      simp only [ZL]
      rw [gg_t (RS.f Re.1).1]
      simp only [RS.f Re.1]
      rw [gg_T, gg_in (by omega) (by omega), nCl (by omega), Re.2.1, f3.1, if_pos (nI_le (Nat.le_refl _) (by omega)), gg_T, lt_eq, ← hg2, u1, ob_some, gg_t (RS.f R3.1).1, u5, up1_some]
  obtain ⟨⟨v, g⟩, z1, b', z2, z3, z4, z5⟩ := lp
  replace z2 : v = bW b' := z2
  replace z3 : Rk h0 g := z3
  refine ⟨g, b', ?_, (show Fr Rc h h0 by rw [hh0]; exact th_fr).trans z3.fr, z3.st R0, by rw [z3.2.1]; exact t0, z4, z5⟩
  unfold MX12_least
  simp only [ZL]
  rw [gg_t (RS.f R.1).1, lt_eq, ← hh0, lt_eq, ← hh7, y1]
  unfold MX12_least_117 MX12_least_119
  simp only [ZL]
  rw [z1, z2]
theorem p_least (C : CSt tg h m kk ii t nn f) (R : RSt h m kk ii t nn f) : Pr (cm []) Gm h (nX (MX11_least h 1)) (fun h' => MX12_least h' 73) := by
  obtain ⟨O, X, X2, S, V, Dk, DV, I, T, Im, Tr⟩ := id C
  obtain ⟨g, v, y1, ⟨y2, y3, y4⟩, y5⟩ := c_least C R
  have mug := mu_fr y3
  obtain ⟨pn5, pL4, pL0, pD6⟩ := p_bd I
  have sz0 : szB (sB (2 ^ pnN m - 1)) = pnN m := by
    have T : ∀ n, n < 6 → szB (sB (2 ^ n - 1)) = n := by decide +kernel
    exact T _ (by omega)
  refine ⟨.inl (if v < 1000000000 then nI v else -nI 1), g, tg, m, kk, ii, t, nn, f, by rw [y1]; rfl, y2, y4, ⟨by omega, by rw [y3.2.2.2.1]; exact Nat.le_refl _⟩, fun h' o => ?_⟩
  obtain ⟨h2, b', u1, u2, u3, u4, u5, u6⟩ := r_least ((R.rp y4).ou o) I V.stm
  obtain ⟨a1, a2, a3⟩ := y5
  obtain ⟨q1, q2, q3⟩ := u6
  have up : ∀ c, AlB (pL m) (pD m) (pB m) (pX m) (Nn m 3) (sB (2 ^ pnN m - 1)) c → RfB (pL m) (pD m) (pB m) (Nn m 3) (pnN m) (pX m) (sB (2 ^ pnN m - 1)) c := fun c hc => by
    obtain ⟨d, H⟩ := al_rf (Nn m 3) _ c hc
    have hr := H (pX m) (fun _ _ => rfl)
    have := rf_sz d _ _ _ hr
    rw [sz0] at this
    subst this
    exact hr
  have ev : bW b' = (if v < 1000000000 then nI v else -nI 1) := by
    by_cases z : v < 1000000000
    · rw [if_pos z]
      obtain ⟨e1, e2⟩ := q3 v (up v (a3 z))
      have e3 : b' = v + 1 := by
        rcases q1 e1 with e | ⟨c, hc, e⟩
        · exact absurd e e1
        · have := a2 c (rf_al _ _ _ _ hc)
          omega
      unfold bW
      rw [if_neg e1, e3, Nat.add_sub_cancel]
    · rw [if_neg z]
      by_cases e1 : b' = 0
      · rw [e1]; rfl
      · rcases q1 e1 with e | ⟨c, hc, e⟩
        · exact absurd e e1
        · have := a2 c (rf_al _ _ _ _ hc)
          omega
  exact ⟨_, h2, by show MX12_least h' 73 = _; rw [u1, ev], u2, u3, u4, rfl⟩
end
