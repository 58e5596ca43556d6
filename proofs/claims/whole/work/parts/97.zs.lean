/-! back, image -/
section
variable {tg tg' tg1 tg2 : Nat → List Nat} {h h' h1 h2 : Hp} {m m' k k' t u : Nat → Int32} {i i' n f : Int32}
theorem cpy_M {v : Nat → Int32} : va_cpy u v 0 0 337220 = cpM u v := by
  funext j
  rw [cpy_at]
  rfl
theorem RSt.ma (R : RSt h m k i t n f) : RSt (rI h 74 u) u k i t n f := by
  obtain ⟨r0, r1, r2, r3, r4, r5, r6⟩ := R
  exact ⟨r0.fr (Fr.rI (S := fun b => b = 74) rfl), by rw [gI_rI, if_pos rfl], by rw [gI_rI, if_neg (by omega)]; exact r2, by rw [gI_rI, if_neg (by omega)]; exact r3, by rw [gI_rI, if_neg (by omega)]; exact r4, by rw [gI_rI, if_neg (by omega)]; exact r5, by rw [gI_rI, if_neg (by omega)]; exact r6⟩
theorem RSt.ka (R : RSt h m k i t n f) : RSt (rI h 75 u) m u i t n f := by
  obtain ⟨r0, r1, r2, r3, r4, r5, r6⟩ := R
  exact ⟨r0.fr (Fr.rI (S := fun b => b = 75) rfl), by rw [gI_rI, if_neg (by omega)]; exact r1, by rw [gI_rI, if_pos rfl], by rw [gI_rI, if_neg (by omega)]; exact r3, by rw [gI_rI, if_neg (by omega)]; exact r4, by rw [gI_rI, if_neg (by omega)]; exact r5, by rw [gI_rI, if_neg (by omega)]; exact r6⟩
theorem RSt.ia {v : Int32} (R : RSt h m k i t n f) : RSt (sI h 73 4 v) m k v t n f := by
  obtain ⟨r0, r1, r2, r3, r4, r5, r6⟩ := R
  exact ⟨r0.fr (Fr.sI (S := fun b => b = 73) rfl), by rw [gI_sI, if_neg (by omega)]; exact r1, by rw [gI_sI, if_neg (by omega)]; exact r2, by rw [gI2, if_pos ⟨rfl, rfl⟩], by rw [gI_sI, if_neg (by omega)]; exact r4, by rw [gI2, if_neg (by omega)]; exact r5, by rw [gI2, if_neg (by omega)]; exact r6⟩
theorem r_back (R : RSt h m k (nI 1) t n f) : ∃ h2, MX12_back h 73 = some (nI 1, h2) ∧ Fr Rc h h2 ∧ RSt h2 (cpM k m) k (nI 1) t n f ∧ gI h2 73 0 = nI 0 := by
  obtain ⟨h0, hh0⟩ : ∃ h0, h0 = sI h 73 0 (nI 0) := ⟨_, rfl⟩
  have R0 : RSt h0 m k (nI 1) t n f := by rw [hh0]; exact R.th
  have F0 : Fr Rc h h0 := by rw [hh0]; exact th_fr
  have R1 : RSt (rI h0 74 (cpM k m)) (cpM k m) k (nI 1) t n f := R0.ma
  refine ⟨rI h0 74 (cpM k m), ?_, F0.trans (Fr.rI (S := Rc) ⟨by omega, by omega⟩), R1, ?_⟩
  · have g4 : gI h0 73 4 = nI 1 := R0.2.2.2.1
    have g4' : gI (rI h0 74 (cpM k m)) 73 4 = nI 1 := R1.2.2.2.1
    unfold MX12_back MX12_back_27
    simp only [ZL]
    rw [gg_t (RS.f R.1).1, lt_eq, ← hh0, g4, if_neg (by decide), show gP h 73 2 = 75 by simp only [RS.f R.1], show gP h 73 1 = 74 by simp only [RS.f R.1], show kd h 75 = 20 by simp only [RS.f R.1], show kd h 74 = 20 by simp only [RS.f R.1], gg_t rfl, gg_t rfl, show ln h0 75 = 337220 by simp only [RS.f R0.1], show ln h0 74 = 337220 by simp only [RS.f R0.1]]
    rw [gg_t (cpB_t (Nat.le_refl _) (Nat.le_refl _) (by omega)), lt_eq, nCl (by omega), nCl (by omega), cpy_M, R0.2.2.1, R0.2.1, gg_t (RS.f R1.1).1, g4', gg_t (by decide)]
  · rw [gI_rI, if_neg (by omega), hh0, th_get]
theorem r_image (R : RSt h m k i t n f) : ∃ h2, MX12_image h 73 = some h2 ∧ Fr Rc h h2 ∧ RSt h2 m (cpM m k) (nI 1) t n f ∧ gI h2 73 0 = nI 0 := by
  obtain ⟨h0, hh0⟩ : ∃ h0, h0 = sI h 73 0 (nI 0) := ⟨_, rfl⟩
  have R0 : RSt h0 m k i t n f := by rw [hh0]; exact R.th
  have F0 : Fr Rc h h0 := by rw [hh0]; exact th_fr
  have R1 : RSt (rI h0 75 (cpM m k)) m (cpM m k) i t n f := R0.ka
  obtain ⟨h1, hh1⟩ : ∃ h1, h1 = rI h0 75 (cpM m k) := ⟨_, rfl⟩
  have F1 : Fr Rc h0 h1 := by rw [hh1]; exact Fr.rI (S := Rc) ⟨by omega, by omega⟩
  rw [← hh1] at R1
  have R2 : RSt (sI h1 73 4 (nI 1)) m (cpM m k) (nI 1) t n f := R1.ia
  refine ⟨sI h1 73 4 (nI 1), ?_, (F0.trans F1).trans (Fr.sI (S := Rc) ⟨by omega, by omega⟩), R2, ?_⟩
  · unfold MX12_image
    simp only [ZL]
    rw [gg_t (RS.f R.1).1, lt_eq, ← hh0, show gP h 73 2 = 75 by simp only [RS.f R.1], show gP h 73 1 = 74 by simp only [RS.f R.1], show kd h 75 = 20 by simp only [RS.f R.1], show kd h 74 = 20 by simp only [RS.f R.1], gg_t rfl, gg_t rfl, show ln h0 75 = 337220 by simp only [RS.f R0.1], show ln h0 74 = 337220 by simp only [RS.f R0.1]]
    rw [gg_t (cpB_t (Nat.le_refl _) (Nat.le_refl _) (by omega)), lt_eq, nCl (by omega), nCl (by omega), cpy_M, R0.2.2.1, R0.2.1, ← hh1, lt_eq]
  · rw [gI2, if_neg (by omega), hh1, gI_rI, if_neg (by omega), hh0, th_get]
theorem p_back (C : CSt tg h m k i t n f) (R : RSt h m k i t n f) (h9 : 109 ≤ sz h) : Pr (cm []) Gm h (nX (MX11_back h 1)) (fun h' => MX12_back h' 73) := by
  obtain ⟨O, Y, Y2, S, V, D, E, I, T, Im, Tr⟩ := id C
  obtain ⟨t1, t2, t3, t4, t5, t13, t19, t48, t59, t68⟩ := tgs O Y
  rcases id Im with ⟨i0, g9, g10⟩ | ⟨i1, g9, g10, S9, V9, D10, E10, Ik⟩
  · refine Pr.gm (Pr.get C R (nI 0) ?_ fun h' R' => ?_)
    · unfold MX11_back
      rw [gg_t Y.1, if_pos g9]
      rfl
    · have g4 : gI (sI h' 73 0 (nI 0)) 73 4 = nI 0 := by rw [gI2, if_neg (by omega), R'.2.2.2.1, i0]
      unfold MX12_back MX12_back_27
      simp only [ZL]
      rw [gg_t (RS.f R'.1).1, lt_eq, g4, if_pos rfl, gg_t (show kd (sI h' 73 0 (nI 0)) 73 = 11 from (RS.f R'.1).1), gg_t (by decide)]
  · subst i1
    have K19 : Rt tg h 19 5 := ⟨O, t3, t19, by omega, by omega⟩
    have K48 : Rt tg h 48 6 := ⟨O, t3, t48, by omega, by omega⟩
    have K9 := rt_1 O Y g9 (by omega)
    have K10 := rt_1 O Y g10 (by omega)
    obtain ⟨z1, y1, tg1, R1, c1, S1, V1⟩ := c_tkRoom (⟨K19, by omega, h9, S, K9, O.2.2.2.2.2 1 9, S9, V9, by omega⟩ : TKS tg h 19 5 (gP h 1 9) 9 k) Ik
    have h91 : 109 ≤ sz z1 := by have := R1.2.1; omega
    have gP1 := rx_g1 R1 O h9
    obtain ⟨X1, X2, T1⟩ := rx_b O Y Y2 T h9 R1 (fun y hy => Or.inl hy)
    have s48 := rx_sm3 R1 K48 (by omega) (by omega : ¬ 6 = 5)
    have s10 := rx_sm3 R1 K10 (O.2.2.2.2.2 1 10) (by omega : ¬ 10 = 5)
    have s9 := rx_sm3 R1 K9 (O.2.2.2.2.2 1 9) (by omega : ¬ 9 = 5)
    have D1 := D.congr s48
    have E1 := E.congr s48
    have I1 := rx_img R1 O Y h9 (by omega) (by omega) Im
    have Tr1 := rx_tr R1 O Y h9 (by omega) Tr
    obtain ⟨z2, y2, tg2, R2, E2⟩ := c_tkDesk (⟨R1.rt K48 (by omega) h9, by omega, h91, D1, R1.rt K10 (O.2.2.2.2.2 1 10) h9, by have := O.2.2.2.2.2 1 10; have := R1.2.1; omega, D10.congr s10, E10.congr s10, by omega⟩ : DKT tg1 z1 48 6 (gP h 1 10) 10 k) Ik.1 Ik.2.2.2.2.1
    obtain ⟨r1, r2, r3, r4⟩ := R2
    obtain ⟨X3, X4, T3⟩ := rx_b R1.1 X1 X2 T1 h91 r1 (fun y hy => Or.inr (Or.inl hy))
    have s19 := rx_sm3 r1 (R1.rt K19 (by omega) h9) (by omega) (by omega : ¬ 5 = 6)
    have C2 : CSt tg2 z2 (cpM k m) k (nI 1) t n f := ⟨r1.1, X3, X4, S1.congr s19, (V1.congr s19).cp Ik, r3, E2.cp Ik, Ik.cp, T3, rx_img r1 R1.1 X1 h91 (by omega) (by omega) I1, rx_tr r1 R1.1 X1 h91 (by omega) Tr1⟩
    have RR : Rx tg h tg2 z2 (fun y => y = 5 ∨ y = 6) := (R1.mono (fun y hy => Or.inl hy)).trans (r1.mono (fun y hy => Or.inr hy))
    refine Pr.rx C R h9 (nI 1) ?_ RR (fun y hy => by omega) C2 ⟨?_, RR.2.1⟩ fun h1 Rr => r_back Rr
    · unfold MX11_back
      rw [gg_t Y.1, if_neg g9, if_neg g10, X5 Y, gg_t S.1, y1, ob_some, gg_t X1.1, X6 X1, gg_t D1.1, gP1, y2, ob_some]
      rfl
    · have a1 := mu_y R1 O Y h9 (Or.inl rfl) (by unfold muQ; rw [if_pos rfl]; exact c1)
      have a2 := mu_y r1 R1.1 X1 h91 (Or.inr (Or.inl rfl)) (by unfold muQ; rw [if_neg (by omega), if_pos rfl]; exact r2)
      omega
/-- both kept ones are there -/
theorem c_image36 (O : Own tg h) (Y : XS h) (Y2 : XS2 h) (S : RmS h 19) (V : RmV h 19 m) (D : DkS h 48) (E : DkV h 48 m) (I : MI m) (T : TpV h t n f) (Tr : gP h 1 11 ≠ 0 → RmS h (gP h 1 11)) (h9 : 109 ≤ sz h) (R : RS h) (g9 : gP h 1 9 ≠ 0) (g10 : gP h 1 10 ≠ 0) (S9 : RmS h (gP h 1 9)) (D10 : DkS h (gP h 1 10)) : ∃ z2 tg2, MX11_image_36 h 1 = some z2 ∧ CSt tg2 z2 m (cpM m k) (nI 1) t n f ∧ mu z2 ≤ mu h ∧ sz h ≤ sz z2 ∧ Rp h z2 := by
  obtain ⟨t1, t2, t3, t4, t5, t13, t19, t48, t59, t68⟩ := tgs O Y
  have K19 : Rt tg h 19 5 := ⟨O, t3, t19, by omega, by omega⟩
  have K48 : Rt tg h 48 6 := ⟨O, t3, t48, by omega, by omega⟩
  have K9 := rt_1 O Y g9 (by omega)
  have K10 := rt_1 O Y g10 (by omega)
  obtain ⟨z1, y1, tg1, R1, c1, S1, V1⟩ := c_tkRoom (⟨K9, O.2.2.2.2.2 1 9, h9, S9, K19, by omega, S, V, by omega⟩ : TKS tg h (gP h 1 9) 9 19 5 m) I
  have h91 : 109 ≤ sz z1 := by have := R1.2.1; omega
  have gP1 := rx_g1 R1 O h9
  obtain ⟨X1, X2, T1⟩ := rx_b O Y Y2 T h9 R1 (fun y hy => Or.inr (Or.inr (Or.inl hy)))
  have s48 := rx_sm3 R1 K48 (by omega) (by omega : ¬ 6 = 9)
  have s19 := rx_sm3 R1 K19 (by omega) (by omega : ¬ 5 = 9)
  have s10 := rx_sm3 R1 K10 (O.2.2.2.2.2 1 10) (by omega : ¬ 10 = 9)
  have D1 := D.congr s48
  have E1 := E.congr s48
  have Tr1 := rx_tr R1 O Y h9 (by omega) Tr
  have D101 := D10.congr s10
  have K481 := R1.rt K48 (by omega) h9
  have K101 := R1.rt K10 (O.2.2.2.2.2 1 10) h9
  have K91 := R1.rt K9 (O.2.2.2.2.2 1 9) h9
  have l10 : gP h 1 10 ≤ sz z1 := by have := O.2.2.2.2.2 1 10; have := R1.2.1; omega
  obtain ⟨z2, y2, tg2, R2, E2⟩ := c_tkDesk (⟨K101, l10, h91, D101, K481, by omega, D1, E1, by omega⟩ : DKT tg1 z1 (gP h 1 10) 10 48 6 m) I.1 I.2.2.2.2.1
  obtain ⟨r1, r2, r3, r4⟩ := R2
  have gP2 := rx_g1 r1 R1.1 h91
  obtain ⟨X3, X4, T3⟩ := rx_b R1.1 X1 X2 T1 h91 r1 (fun y hy => Or.inr (Or.inr (Or.inr (Or.inl hy))))
  have q19 := rx_sm3 r1 (R1.rt K19 (by omega) h9) (by omega) (by omega : ¬ 5 = 10)
  have q48 := rx_sm3 r1 K481 (by omega) (by omega : ¬ 6 = 10)
  have q9 := rx_sm3 r1 K91 (by have := O.2.2.2.2.2 1 9; have := R1.2.1; omega) (by omega : ¬ 9 = 10)
  have e9 : gP z2 1 9 = gP h 1 9 := by rw [gP2, gP1]
  have e10 : gP z2 1 10 = gP h 1 10 := by rw [gP2, gP1]
  refine ⟨z2, tg2, ?_, ⟨r1.1, X3, X4, (S.congr s19).congr q19, (V.congr s19).congr q19, D1.congr q48, E1.congr q48, I, T3, Or.inr ⟨rfl, by rw [e9]; exact g9, by rw [e10]; exact g10, by rw [e9]; exact S1.congr q9, by rw [e9]; exact (V1.congr q9).cp I, by rw [e10]; exact r3, by rw [e10]; exact E2.cp I, I.cp⟩, rx_tr r1 R1.1 X1 h91 (by omega) Tr1⟩, ?_, by have := R1.2.1; have := r1.2.1; omega, ?_⟩
  · unfold MX11_image_36
    rw [gg_t Y.1, gg_t S9.1, X5 Y, y1, ob_some, gg_t X1.1, gP1, gg_t D101.1, show gP h 1 6 = 48 from X6 Y, y2, ob_some]
  · have a1 := mu_y R1 O Y h9 (Or.inr (Or.inr (Or.inl rfl))) (by unfold muQ; rw [if_neg (by omega), if_neg (by omega), if_pos rfl, if_neg (by omega), if_neg (by omega), if_pos rfl, gP1]; unfold rmQ; rw [if_neg g9, if_neg g9]; exact c1)
    have a2 := mu_y r1 R1.1 X1 h91 (Or.inr (Or.inr (Or.inr (Or.inl rfl)))) (by unfold muQ; rw [if_neg (by omega), if_neg (by omega), if_neg (by omega), if_pos rfl, if_neg (by omega), if_neg (by omega), if_neg (by omega), if_pos rfl, gP2, gP1]; unfold dkQ; rw [if_neg g10, if_neg g10]; exact r2)
    omega
  · have p1 := R1.rp O R h9 (fun y hy => Or.inr (Or.inr (Or.inl hy)))
    have Rz : RS z1 := R.of (fun b q1 q2 => (p1 b q1 (by omega)).1) (fun b q1 q2 => (p1 b q1 (by omega)).2.1) (p1 73 (by omega) (by omega)).2.2.2
    exact p1.tr (r1.rp R1.1 Rz h91 (fun y hy => Or.inr (Or.inr (Or.inr (Or.inl hy)))))
theorem p_image (C : CSt tg h m k i t n f) (R : RSt h m k i t n f) (h9 : 109 ≤ sz h) : Pr (cm []) Gm h (nX (vY (MX11_image h 1))) (fun h' => vY (MX12_image h' 73)) := by
  obtain ⟨O, Y, Y2, S, V, D, E, I, T, Im, Tr⟩ := id C
  obtain ⟨t1, t2, t3, t4, t5, t13, t19, t48, t59, t68⟩ := tgs O Y
  have K : ∃ z2 tg2, MX11_image h 1 = some z2 ∧ CSt tg2 z2 m (cpM m k) (nI 1) t n f ∧ mu z2 ≤ mu h ∧ sz h ≤ sz z2 ∧ Rp h z2 := by
    rcases id Im with ⟨i0, g9, g10⟩ | ⟨i1, g9, g10, S9, V9, D10, E10, Ik⟩
    · have K19 : Rt tg h 19 5 := ⟨O, t3, t19, by omega, by omega⟩
      have K48 : Rt tg h 48 6 := ⟨O, t3, t48, by omega, by omega⟩
      -- the room
      obtain ⟨tg1, h1, y1, O1, x1, p1, l1, S1, m1, c1⟩ := c_newRoom O h9 [9]
      have X1 := fl_of (j := 9) (A := 1) O1 x1 (by rw [p1, t1]) (by omega) l1 (by omega) (by omega)
      have tk3 : tg1 3 = [3] := by rw [(x1 3 (by omega)).2]; exact t3
      have Kp1 : Rt tg1 h1 (sz h + 1) 9 := ⟨O1, tk3, p1, by omega, by omega⟩
      have sp1 := sm3_sP (j := 9) (p := sz h + 1) Kp1
      have mu1 := mu_fl X1 O Y h9 g9 (Or.inl ⟨rfl, (rmP_c sp1).trans m1, c1⟩)
      obtain ⟨Y1, Y21, T1⟩ := fl1_b O Y Y2 T h9 X1 (by omega)
      have s19 := fl1_sm3 X1 K19 (by omega)
      have s48 := fl1_sm3 X1 K48 (by omega)
      obtain ⟨h2, hh2⟩ : ∃ h2, h2 = sP h1 1 9 (sz h + 1) := ⟨_, rfl⟩
      have S92 := S1.congr sp1
      have rp1 := fl1_rp X1 h9
      rw [← hh2] at X1 mu1 Y1 Y21 T1 s19 s48 S92 rp1
      have h92 : 109 ≤ sz h2 := by have := X1.2.1; omega
      have g92 : gP h2 1 9 = sz h + 1 := by rw [X1.2.2.2.2.2.2, if_pos rfl]
      have g102 : gP h2 1 10 = 0 := by rw [X1.2.2.2.2.2.2, if_neg (by omega)]; exact g10
      have g112 : gP h2 1 11 = gP h 1 11 := by rw [X1.2.2.2.2.2.2, if_neg (by omega)]
      have Tr2 : gP h2 1 11 ≠ 0 → RmS h2 (gP h2 1 11) := fun z => by
        rw [g112] at z ⊢
        exact (Tr z).congr (fl1_sm3 X1 (rt_1 O Y z (by omega)) (O.2.2.2.2.2 1 11))
      -- the desk
      obtain ⟨t1', t2', t3', t4', t5', t13', t19', t48', t59', t68'⟩ := tgs X1.1 Y1
      obtain ⟨tg3, h3, y3, O3, x3, p3, l3, D3, m3, c3⟩ := c_newDesk X1.1 h92 [10]
      have X3 := fl_of (j := 10) (A := 1) O3 x3 (by rw [p3, t1']) (by omega) l3 (by omega) (by omega)
      have tk33 : tg3 3 = [3] := by rw [(x3 3 (by omega)).2]; exact t3'
      have Kp3 : Rt tg3 h3 (sz h2 + 1) 10 := ⟨O3, tk33, p3, by omega, by omega⟩
      have sp3 := sm3_sP (j := 10) (p := sz h2 + 1) Kp3
      have mu3 := mu_fl X3 X1.1 Y1 h92 g102 (Or.inr (Or.inr ⟨rfl, (dkP_c sp3).trans m3, c3⟩))
      obtain ⟨Y3, Y23, T3⟩ := fl1_b X1.1 Y1 Y21 T1 h92 X3 (by omega)
      have q19 := fl1_sm3 X3 (⟨X1.1, t3', t19', by omega, by omega⟩ : Rt tg1 h2 19 5) (by omega)
      have q48 := fl1_sm3 X3 (⟨X1.1, t3', t48', by omega, by omega⟩ : Rt tg1 h2 48 6) (by omega)
      have q9 := fl1_sm3 X3 (rt_1 X1.1 Y1 (by rw [g92]; omega) (by omega)) (X1.1.2.2.2.2.2 1 9)
      have rp3 := fl1_rp X3 h92
      have D4 := D3.congr sp3
      obtain ⟨h4, hh4⟩ : ∃ h4, h4 = sP h3 1 10 (sz h2 + 1) := ⟨_, rfl⟩
      rw [← hh4] at X3 mu3 Y3 Y23 T3 q19 q48 q9 rp3 D4
      have g94 : gP h4 1 9 = sz h + 1 := by rw [X3.2.2.2.2.2.2, if_neg (by omega)]; exact g92
      have g104 : gP h4 1 10 = sz h2 + 1 := by rw [X3.2.2.2.2.2.2, if_pos rfl]
      have g114 : gP h4 1 11 = gP h2 1 11 := by rw [X3.2.2.2.2.2.2, if_neg (by omega)]
      have Tr4 : gP h4 1 11 ≠ 0 → RmS h4 (gP h4 1 11) := fun z => by
        rw [g114] at z ⊢
        exact (Tr2 z).congr (fl1_sm3 X3 (rt_1 X1.1 Y1 z (by omega)) (X1.1.2.2.2.2.2 1 11))
      have rp := rp1.tr rp3
      have Rz : RS h4 := R.1.of (fun b q1 q2 => (rp b q1 (by omega)).1) (fun b q1 q2 => (rp b q1 (by omega)).2.1) (rp 73 (by omega) (by omega)).2.2.2
      rw [g92] at q9
      obtain ⟨z2, tg2, k1, k2, k3, k4, k5⟩ := c_image36 (k := k) X3.1 Y3 Y23 ((S.congr s19).congr q19) ((V.congr s19).congr q19) ((D.congr s48).congr q48) ((E.congr s48).congr q48) I T3 Tr4 (by have := X3.2.1; omega) Rz (by rw [g94]; omega) (by rw [g104]; omega) (by rw [g94]; exact S92.congr q9) (by rw [g104]; exact D4)
      refine ⟨z2, tg2, ?_, k2, by omega, by have := X1.2.1; have := X3.2.1; omega, rp.tr k5⟩
      have k1' : kd h1 1 = 10 := (x1 1 (by omega)).1.1.trans Y.1
      have k3' : kd h3 1 = 10 := (x3 1 (by omega)).1.1.trans Y1.1
      unfold MX11_image MX11_image_18
      rw [gg_t Y.1, if_pos g9, lt_eq, y1, ob_some, gg_t k1', lt_eq, ← hh2, gg_t Y1.1, if_pos g102, lt_eq, y3, ob_some, gg_t k3', lt_eq, ← hh4, k1]
    · obtain ⟨z2, tg2, k1, k2, k3, k4, k5⟩ := c_image36 (k := k) O Y Y2 S V D E I T Tr h9 R.1 g9 g10 S9 D10
      refine ⟨z2, tg2, ?_, k2, k3, k4, k5⟩
      unfold MX11_image MX11_image_18
      rw [gg_t Y.1, if_neg g9, gg_t Y.1, if_neg g10, k1]
  obtain ⟨z2, tg2, k1, k2, k3, k4, k5⟩ := K
  refine ⟨.inl (nI 0), z2, tg2, m, cpM m k, nI 1, t, n, f, by rw [k1]; rfl, k2, k5, ⟨by omega, k4⟩, fun h' o => ?_⟩
  obtain ⟨h3, u1, u2, u3, u4⟩ := r_image ((R.rp k5).ou o)
  exact ⟨nI 0, h3, by show vY (MX12_image h' 73) = _; rw [u1]; rfl, u2, u3, u4, rfl⟩
end
