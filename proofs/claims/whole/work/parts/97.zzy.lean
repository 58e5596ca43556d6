/-! ahead: the pair -/
section
variable {tg tg1 : Nat → List Nat} {h h1 h' z : Hp} {m M kk k t v : Nat → Int32} {i ii n f u : Int32} {q r x j : Nat}
/-- the trial room is there -/
theorem ah_24 (C : CSt tg h m k i t n f) (R : RSt h m k i t n f) (h9 : 109 ≤ sz h) : ∃ tg2 h2, (∀ v, MX11_ahead_24 h 1 v = MX11_ahead_42 h2 1 v) ∧ gP h2 1 11 ≠ 0 ∧ CSt tg2 h2 m k i t n f ∧ mu h2 ≤ mu h ∧ sz h ≤ sz h2 ∧ Rp h h2 := by
  obtain ⟨O, Y, Y2, S, V, D, E, I, T, Im, Tr⟩ := id C
  obtain ⟨t1, t2, t3, t4, t5, t13, t19, t48, t59, t68⟩ := tgs O Y
  by_cases g11 : gP h 1 11 = 0
  · have K19 : Rt tg h 19 5 := ⟨O, t3, t19, by omega, by omega⟩
    have K48 : Rt tg h 48 6 := ⟨O, t3, t48, by omega, by omega⟩
    obtain ⟨tg1, h1, y1, O1, x1, p1, l1, S1, m1, c1⟩ := c_newRoom O h9 [11]
    have X1 := fl_of (j := 11) (A := 1) O1 x1 (by rw [p1, t1]) (by omega) l1 (by omega) (by omega)
    have tk3 : tg1 3 = [3] := by rw [(x1 3 (by omega)).2]; exact t3
    have Kp1 : Rt tg1 h1 (sz h + 1) 11 := ⟨O1, tk3, p1, by omega, by omega⟩
    have sp1 := sm3_sP (j := 11) (p := sz h + 1) Kp1
    have mu1 := mu_fl X1 O Y h9 g11 (Or.inr (Or.inl ⟨rfl, (rmP_c sp1).trans m1, c1⟩))
    obtain ⟨Y1, Y21, T1⟩ := fl1_b O Y Y2 T h9 X1 (by omega)
    have s19 := fl1_sm3 X1 K19 (by omega)
    have s48 := fl1_sm3 X1 K48 (by omega)
    obtain ⟨h2, hh2⟩ : ∃ h2, h2 = sP h1 1 11 (sz h + 1) := ⟨_, rfl⟩
    have S92 := S1.congr sp1
    have rp1 := fl1_rp X1 h9
    rw [← hh2] at X1 mu1 Y1 Y21 T1 s19 s48 S92 rp1
    have g92 : gP h2 1 9 = gP h 1 9 := by rw [X1.2.2.2.2.2.2, if_neg (by omega)]
    have g102 : gP h2 1 10 = gP h 1 10 := by rw [X1.2.2.2.2.2.2, if_neg (by omega)]
    have g112 : gP h2 1 11 = sz h + 1 := by rw [X1.2.2.2.2.2.2, if_pos rfl]
    have Im2 : Img h2 k i := by
      rcases id Im with ⟨i0, g9, g10⟩ | ⟨i1, g9, g10, S9, V9, D10, E10, Ik⟩
      · exact Or.inl ⟨i0, by rw [g92]; exact g9, by rw [g102]; exact g10⟩
      · have s9 := fl1_sm3 X1 (rt_1 O Y g9 (by omega)) (O.2.2.2.2.2 1 9)
        have s10 := fl1_sm3 X1 (rt_1 O Y g10 (by omega)) (O.2.2.2.2.2 1 10)
        refine Or.inr ⟨i1, ?_⟩
        rw [g92, g102]
        exact ⟨g9, g10, S9.congr s9, V9.congr s9, D10.congr s10, E10.congr s10, Ik⟩
    have k1' : kd h1 1 = 10 := (x1 1 (by omega)).1.1.trans Y.1
    refine ⟨tg1, h2, fun v => ?_, by rw [g112]; omega, ⟨X1.1, Y1, Y21, S.congr s19, V.congr s19, D.congr s48, E.congr s48, I, T1, Im2, fun _ => by rw [g112]; exact S92⟩, by omega, X1.2.1, rp1⟩
    unfold MX11_ahead_24
    rw [gg_t Y.1, if_pos g11, lt_eq, y1, ob_some, gg_t k1', lt_eq, ← hh2]
  · refine ⟨tg, h, fun v => ?_, g11, C, Nat.le_refl _, Nat.le_refl _, Rp.rfl⟩
    unfold MX11_ahead_24
    rw [gg_t Y.1, if_neg g11]
/-- the reference keeps its memory aside and stops a machine -/
theorem r_a19 (R : RSt h m k i t n f) (w : Int32) (B : MIb m) (hw : (w = -nI 1 ∧ M = m) ∨ ∃ a, a < Nn m 3 ∧ w = nI a ∧ M = stF m a) : ∃ h2, MX12_ahead h 73 w = it (fun q : Hp => BX12_ahead_64 q 73) h2 ∧ RSt h2 M k i t n f ∧ Fr Rc h h2 ∧ gI h2 76 = cpM m (gI h 76) ∧ gI h2 73 0 = nI 0 := by
  obtain ⟨h0, hh0⟩ : ∃ h0, h0 = sI h 73 0 (nI 0) := ⟨_, rfl⟩
  have R0 : RSt h0 m k i t n f := by rw [hh0]; exact R.th
  have F0 : Fr Rc h h0 := by rw [hh0]; exact th_fr
  have z0 : gI h0 73 0 = nI 0 := by rw [hh0]; exact th_get
  have e76 : gI h0 76 = gI h 76 := by rw [hh0, gI_sI, if_neg (by omega)]
  obtain ⟨h3, hh3⟩ : ∃ h3, h3 = rI h0 76 (cpM m (gI h 76)) := ⟨_, rfl⟩
  have F3 : Fr (fun b => b = 76) h0 h3 := by rw [hh3]; exact Fr.rI rfl
  have g3 : ∀ b, b ≠ 76 → gI h3 b = gI h0 b := fun b hb => F3.2.2.2.2.2.2 b hb
  have R3 : RSt h3 m k i t n f := by
    obtain ⟨r0, r1, r2, r3, r4, r5, r6⟩ := R0
    exact ⟨r0.fr F3, by rw [g3 _ (by omega)]; exact r1, by rw [g3 _ (by omega)]; exact r2, by rw [g3 _ (by omega)]; exact r3, by rw [g3 _ (by omega)]; exact r4, by rw [g3 _ (by omega)]; exact r5, by rw [g3 _ (by omega)]; exact r6⟩
  have F03 : Fr Rc h h3 := F0.trans (F3.mono (fun b hb => by unfold Rc; omega))
  have z3 : gI h3 73 0 = nI 0 := by rw [g3 _ (by omega)]; exact z0
  have q3 : gI h3 76 = cpM m (gI h 76) := by rw [hh3, gI_rI, if_pos rfl]
  have e19 : ∀ w, MX12_ahead_19 h 73 w 73 (nI 0) = if w = -nI 1 then MX12_ahead_64 h3 73 else Option.bind (MX12_machine0 h3 w) fun (t44 : Int32) => gg (inB (t44 + (nI 28)) (ln h 74) = true) <| lt (sI h3 74 (t44 + (nI 28)).toNatClampNeg (nI 1)) fun (h46 : Hp) => MX12_ahead_64 h46 73 := fun w => by
    unfold MX12_ahead_19
    simp only [ZL]
    rw [gg_t (RS.f R.1).1, lt_eq, ← hh0, gg_t (RS.f R.1).1, z0, if_pos (by decide), show gP h 73 3 = 76 by simp only [RS.f R.1], show gP h 73 1 = 74 by simp only [RS.f R.1], show kd h 74 = 20 by simp only [RS.f R.1], show kd h 76 = 20 by simp only [RS.f R.1], gg_t rfl, gg_t rfl, show ln h0 76 = 337220 by simp only [RS.f R0.1], show ln h0 74 = 337220 by simp only [RS.f R0.1], gg_t (cpB_t (Nat.le_refl _) (Nat.le_refl _) (by omega)), lt_eq, nCl (by omega), nCl (by omega), cpy_M, R0.2.1, e76, ← hh3]
  rcases hw with ⟨w1, w2⟩ | ⟨a, a1, w1, w2⟩
  · subst w1 w2
    refine ⟨h3, ?_, R3, F03, q3, z3⟩
    unfold MX12_ahead MX12_ahead_18
    simp only [ZL]
    rw [if_pos trivial, e19, if_pos rfl]
    rfl
  · subst w1 w2
    have f3 := B.f.2.2.2.1.2
    have n1 : ¬ nI a = -nI 1 := by rw [nM6 (by omega)]; exact id
    refine ⟨sI h3 74 (320230 + 183 * a + 28) (nI 1), ?_, R3.m1, F03.trans fr74, by rw [gI_sI, if_neg (by omega)]; exact q3, by rw [gI_sI, if_neg (by omega)]; exact z3⟩
    unfold MX12_ahead MX12_ahead_18
    simp only [ZL]
    rw [if_neg n1, gg_t (RS.f R.1).1, r_isMachine_t R.1 R.2.1 B a1, ob_some, if_neg (by decide), e19, if_neg n1, r_machine0, ob_some, nAdd, show ln h 74 = 337220 by simp only [RS.f R.1], gg_in (by omega) (by omega), lt_eq, nCl (by omega)]
    rfl
/-- the whole of it, once the trial room is made and the machine stopped -/
theorem ah_fin (K : Rt tg z r 11) (hr : r ≤ sz z) (h9 : 109 ≤ sz z) (S : RmS z r) (V : RmV z r M) (I : MI M) (k1 : kd z 1 = 10) (e11 : gP z 1 11 = r) (e5 : gP z 1 5 = 19) (k6 : kd z 19 = 6) (e0 : gI z 19 0 = M 0) (eM : ∀ y, 337220 ≤ y → M y = m y) : ∃ w tg2 g2, MX11_ahead_71 z 1 = some (.inl w, g2) ∧ Rx tg z tg2 g2 (fun y => y = 11) ∧ cst g2 + rmP g2 r ≤ cst z + rmP z r ∧ RmS g2 r ∧ ∀ h2, RSt h2 M k i t n f → gI h2 76 = cpM m v → ∃ h3, it (fun q : Hp => BX12_ahead_64 q 73) h2 = some (w, h3) ∧ Fr Rc h2 h3 ∧ RSt h3 m k i t n f ∧ gI h3 73 0 = gI h2 73 0 := by
  have f0 := I.1.f.1
  have ch := c_chain K hr h9 S V I
  obtain ⟨J, tg2, g2, b1, -, b3, b4, b5, b6, b7⟩ := c_ahead K hr h9 I (fun tg' g X => ⟨(X.2.2.1 1 (by omega)).2.1.trans k1, by rw [rx_g1 X K.1 h9]; exact e11⟩) (600 - Nn M 0) 0 (by omega) tg z ⟨Rx.rfl K.1, Nat.le_refl _, S, V⟩ (ch 0 (by omega)).2
  refine ⟨if jbN (miI M J) (Nn (miI M J) 3) = 0 then miI M J 0 else -nI 1, tg2, g2, ?_, b4.1, b4.2.1, b4.2.2.1, fun h2 R2 g76 => ?_⟩
  · unfold MX11_ahead_71
    rw [gg_t k1, e5, gg_t k6, e0, f0.1]
    exact b1
  · obtain ⟨L, z2, c1, c2, c3, c4, -, c6, c7, c8⟩ := r_a64 (m := M) (kk := k) (ii := i) (t := t) (u := n) (f := f) (fun j hj => (ch j hj).2) (fun j hj => by
      obtain ⟨⟨tg', g, A⟩, Mj⟩ := ch j (by omega)
      obtain ⟨-, -, rr⟩ := c_mins (kk := k) (ii := i) (t := t) (u := n) (f := f) K hr h9 I hj A Mj
      exact rr) (600 - Nn M 0) 0 (by omega) h2 R2
    obtain ⟨d1, d2⟩ := r_a90 (m := m) (v := v) c2 (ch L c6).2.1 (by rw [fm_76 c3]; exact g76) (fun y hy => by rw [(ch L c6).2.2.2 y (by omega) (by omega) (by omega) (by omega)]; exact eM y hy)
    refine ⟨rI z2 74 m, ?_, (fm_rc c3).trans (Fr.rI (S := Rc) ⟨by omega, by omega⟩), d2, by rw [gI_rI, if_neg (by omega)]; exact c4⟩
    rw [c1, d1, ah_val (fun j hj => (ch j hj).2) b3 (fun l hl => b6 l (Nat.zero_le _) hl) b7 c6 c7 (fun l hl => c8 l (Nat.zero_le _) hl)]
theorem p_ahead (C : CSt tg h m k i t n f) (R : RSt h m k i t n f) (h9 : 109 ≤ sz h) (w : Int32) : Pr (cm [1]) Gm h (MX11_ahead h 1 w) (fun h' => MX12_ahead h' 73 w) := by
  obtain ⟨O, Y, -, S, V, -, -, I, -⟩ := id C
  have f3 := I.1.f.2.2.2.1.2
  by_cases hw : w = -nI 1 ∨ ∃ a, a < Nn m 3 ∧ w = nI a
  · have e24 : MX11_ahead h 1 w = MX11_ahead_24 h 1 w := by
      rcases hw with rfl | ⟨a, a1, rfl⟩
      · unfold MX11_ahead
        simp only [ZL]
        rw [if_pos trivial]
      · obtain ⟨c, -, q2, q3, -⟩ := c_findMachine_t S V I.1 a1
        unfold MX11_ahead
        simp only [ZL]
        rw [if_neg (by rw [nM6 (by omega)]; exact id), gg_t Y.1, X5 Y, gg_t S.1, q2, ob_some, if_neg q3]
    obtain ⟨tg2, h2, y1, y2, C2, y4, y5, y6⟩ := ah_24 C R h9
    obtain ⟨O2, Y2, Z2, S2, V2, D2, E2, -, T2, Im2, Tr2⟩ := id C2
    have h92 : 109 ≤ sz h2 := by omega
    obtain ⟨t1, t2, t3, t4, t5, t13, t19, t48, t59, t68⟩ := tgs O2 Y2
    have K19 : Rt tg2 h2 19 5 := ⟨O2, t3, t19, by omega, by omega⟩
    have K48 : Rt tg2 h2 48 6 := ⟨O2, t3, t48, by omega, by omega⟩
    have K11 := rt_1 O2 Y2 y2 (by omega)
    obtain ⟨r, hr⟩ : ∃ r, r = gP h2 1 11 := ⟨_, rfl⟩
    rw [← hr] at K11 y2 Tr2
    have r2 : r ≤ sz h2 := by rw [hr]; exact O2.2.2.2.2.2 1 11
    obtain ⟨z1, a1, tg3, R3, c3, S3, V3⟩ := c_tkRoom (⟨K11, r2, h92, Tr2 y2, K19, by omega, S2, V2, by omega⟩ : TKS tg2 h2 r 11 19 5 m) I
    have K3 := R3.rt K11 r2 h92
    have sz3 := R3.2.1
    have g31 := rx_g1 R3 O2 h92
    have k31 : kd z1 1 = 10 := (R3.2.2.1 1 (by omega)).2.1.trans Y2.1
    have s193 := rx_sm3 R3 K19 (by omega) (by omega : ¬ 5 = 11)
    have S193 := S2.congr s193
    have V193 := V2.congr s193
    have P : ∃ M z4, MX11_ahead_42 h2 1 w = MX11_ahead_71 z4 1 ∧ Rx tg3 z1 tg3 z4 (fun y => y = 11) ∧ cst z4 + rmP z4 r ≤ cst z1 + rmP z1 r ∧ RmS z4 r ∧ RmV z4 r M ∧ MI M ∧ M 0 = m 0 ∧ (∀ y, 337220 ≤ y → M y = m y) ∧ ((w = -nI 1 ∧ M = m) ∨ ∃ a, a < Nn m 3 ∧ w = nI a ∧ M = stF m a) := by
      rcases hw with hw | ⟨a, a2, hw⟩
      · refine ⟨m, z1, ?_, Rx.rfl R3.1, Nat.le_refl _, S3, V3, I, rfl, fun _ _ => rfl, Or.inl ⟨hw, rfl⟩⟩
        unfold MX11_ahead_42
        rw [gg_t Y2.1, ← hr, gg_t (Tr2 y2).1, X5 Y2, a1, ob_some, gg_t k31, g31, ← hr, gg_t S3.1, hw, c_findMachine_f S3 V3 I.1 (fun a ha => by
          have := nM5 (n := a) (by omega)
          intro e
          rw [this] at e
          exact e), ob_some, if_pos rfl]
      · obtain ⟨c, q1, q2, q3, q4, q5⟩ := c_findMachine_t S3 V3 I.1 a2
        obtain ⟨z4, u1, u2, u3, u4, u5⟩ := c_stop K3 S3 V3 I a2 q1
        have X4 : Rx tg3 z1 tg3 z4 (fun y => y = 11) := Rx.fr K3.1 u2 (fun b hb => ⟨hb.1, 11, rfl, (List.suffix_append [a, 8] [11]).trans hb.2⟩)
        refine ⟨stF m a, z4, ?_, X4, ?_, u3, u4, u5, by unfold stF; rw [up_at, if_neg (by omega)], fun y hy => by unfold stF; rw [up_at, if_neg (by omega)], Or.inr ⟨a, a2, hw, rfl⟩⟩
        · unfold MX11_ahead_42
          simp only [ZL]
          rw [gg_t Y2.1, ← hr, gg_t (Tr2 y2).1, X5 Y2, a1, ob_some, gg_t k31, g31, ← hr, gg_t S3.1, hw, q2, ob_some, if_neg q3, gg_t q4.1, lt_eq, ← u1]
        · rw [u1]
          exact Nat.le_refl _
    obtain ⟨M, z4, p1, p2, p3, p4, p5, p6, p7, p8, p9⟩ := P
    have sz4 := p2.2.1
    have g41 := rx_g1 p2 R3.1 (by omega)
    have s194 := rx_sm3 p2 (R3.rt K19 (by omega) h92) (by omega) (by omega : ¬ 5 = 11)
    obtain ⟨a, tg5, g5, b1, b2, b3, b4, b5⟩ := ah_fin (m := m) (v := gI h 76) (k := k) (i := i) (t := t) (n := n) (f := f) (p2.rt K3 (by omega) (by omega)) (by omega) (by omega) p4 p5 p6 ((p2.2.2.1 1 (by omega)).2.1.trans k31) (by rw [g41, g31]; exact hr.symm) (by rw [g41, g31]; exact X5 Y2) (S193.congr s194).1 (by rw [(V193.congr s194).1, p7]) p8
    have RR := (R3.trans p2).trans b2
    have g51 := rx_g1 RR O2 h92
    have s195 := rx_sm3 RR K19 (by omega) (by omega : ¬ 5 = 11)
    have s485 := rx_sm3 RR K48 (by omega) (by omega : ¬ 6 = 11)
    have C5 : CSt tg5 g5 m k i t n f := C2.rx h92 RR (fun y hy => by omega) (S2.congr s195) (V2.congr s195) (D2.congr s485) (E2.congr s485) I (rx_img RR O2 Y2 h92 (by omega) (by omega) Im2) (fun _ => by rw [g51, ← hr]; exact b4)
    have mm := mu_y RR O2 Y2 h92 (Or.inr (Or.inr (Or.inr (Or.inr rfl)))) (by unfold muQ; rw [if_neg (by omega), if_neg (by omega), if_neg (by omega), if_neg (by omega), if_neg (by omega), if_neg (by omega), if_neg (by omega), if_neg (by omega), g51, ← hr]; unfold rmQ; rw [if_neg y2, if_neg y2]; omega)
    have R2 := R.rp y6
    have rp5 := y6.tr (RR.rp O2 R2.1 h92 (fun y hy => by omega))
    refine ⟨.inl a, g5, tg5, m, k, i, t, n, f, by rw [e24, y1, p1, b1], C5, rp5, ⟨by omega, by have := RR.2.1; omega⟩, fun h' o => ?_⟩
    have R' := (R.rp rp5).ou o
    have e76 : gI h' 76 = gI h 76 := by
      rcases o with rfl | ⟨w', rfl⟩
      · exact (rp5 76 (by omega) (by omega)).2.2.1
      · rw [gI_sI, if_neg (by omega)]
        exact (rp5 76 (by omega) (by omega)).2.2.1
    obtain ⟨h3, u1, u2, u3, u4, u5⟩ := r_a19 R' w I.1 p9
    obtain ⟨h4, v1, v2, v3, v4⟩ := b5 h3 u2 (by rw [u4, e76])
    exact ⟨a, h4, by show MX12_ahead h' 73 w = _; rw [u1, v1], u3.trans v2, v3, by rw [v4]; exact u5, rfl⟩
  · have hv : ∀ a, a < Nn m 3 → w ≠ nI a := fun a ha e => hw (Or.inr ⟨a, ha, e⟩)
    have hv1 : ¬ w = -nI 1 := fun e => hw (Or.inl e)
    refine Pr.gm (Pr.thr C R 1 1 rfl (by omega) (by omega) ?_ fun h' R' => ?_)
    · unfold MX11_ahead
      simp only [ZL]
      rw [if_neg hv1, gg_t Y.1, X5 Y, gg_t S.1, c_findMachine_f S V I.1 hv, ob_some, if_pos rfl]
    · refine ⟨nI 0, ?_⟩
      unfold MX12_ahead MX12_ahead_19
      simp only [ZL]
      rw [if_neg hv1, gg_t (RS.f R'.1).1, r_isMachine_f R'.1 R'.2.1 I.1 hv, ob_some, if_pos rfl, gg_t (RS.f R'.1).1, lt_eq, gg_t (RS.f R'.1).1, th_get, if_neg (by decide)]
end
