/-! minutes: the pair -/
section
variable {tg : Nat → List Nat} {h h1 : Hp} {m k t kk : Nat → Int32} {i n f ii u : Int32} {r x N b : Nat}
/-- j minutes on -/
def MnS (tg : Nat → List Nat) (h : Hp) (r x : Nat) (m : Nat → Int32) (j : Nat) (tg' : Nat → List Nat) (g : Hp) : Prop := Rx tg h tg' g (fun y => y = x) ∧ cst g + rmP g r ≤ cst h + rmP h r ∧ RmS g r ∧ RmV g r (miI m j)
def MnM (m : Nat → Int32) (j : Nat) : Prop := MI (miI m j) ∧ miI m j 0 = nI (Nn m 0 + j) ∧ ∀ y, y < 130 ∨ (326582 ≤ y ∧ y < 337180) ∨ 337220 ≤ y → y ≠ 4 → y ≠ 0 → y ≠ 7 → miI m j y = m y
theorem c_mins (K : Rt tg h r x) (hr : r ≤ sz h) (h9 : 109 ≤ sz h) (I : MI m) {j : Nat} (hj : Nn m 0 + j < 600) {tg' : Nat → List Nat} {g : Hp} (A : MnS tg h r x m j tg' g) (M : MnM m j) : (∃ tg2 g2, MX7_passMinute g r = some g2 ∧ MnS tg h r x m (j + 1) tg2 g2) ∧ MnM m (j + 1) ∧ ∀ h', RSt h' (miI m j) kk ii t u f → ∃ h2, MX12_minute h' 73 = some h2 ∧ Fr Rm h' h2 ∧ RSt h2 (miI m (j + 1)) kk ii t u f ∧ gI h2 73 0 = gI h' 73 0 := by
  obtain ⟨A1, A2, A3, A4⟩ := A
  obtain ⟨M1, M2, M3⟩ := M
  have K1 := A1.rt K hr h9
  have zs := A1.2.1
  have n0 : Nn (miI m j) 0 = Nn m 0 + j := by
    show (miI m j 0).toNatClampNeg = _
    rw [M2, nCl (by omega)]
  obtain ⟨⟨tg2, g2, a1, a2, a3, a4, a5⟩, a6, a7, a8, a9⟩ := c_minute (kk := kk) (ii := ii) (t := t) (u := u) (f := f) K1 (by omega) (by omega) A3 A4 M1 (by omega)
  refine ⟨⟨tg2, g2, a1, A1.trans a2, by omega, a4, a5⟩, ⟨a6, ?_, fun y h1 h2 h3 h4 => ?_⟩, a9⟩
  · show miM (miI m j) 0 = _
    rw [a7, n0]
    rfl
  · show miM (miI m j) y = _
    rw [a8 y h1 h2 h3 h4]
    exact M3 y h1 h2 h3 h4
theorem c_chain (K : Rt tg h r x) (hr : r ≤ sz h) (h9 : 109 ≤ sz h) (S : RmS h r) (V : RmV h r m) (I : MI m) : ∀ j, Nn m 0 + j ≤ 600 → (∃ tg' g, MnS tg h r x m j tg' g) ∧ MnM m j
  | 0, _ => ⟨⟨tg, h, Rx.rfl K.1, Nat.le_refl _, S, V⟩, I, I.1.f.1.1, fun _ _ _ _ _ => rfl⟩
  | j + 1, hj => by
    obtain ⟨⟨tg', g, A⟩, M⟩ := c_chain K hr h9 S V I j (by omega)
    obtain ⟨⟨tg2, g2, -, B⟩, M', -⟩ := c_mins (kk := m) (ii := 0) (t := m) (u := 0) (f := 0) K hr h9 I (by omega) A M
    exact ⟨⟨tg2, g2, B⟩, M'⟩
theorem p_minutes (C : CSt tg h m k i t n f) (R : RSt h m k i t n f) (h9 : 109 ≤ sz h) (v : Int32) : Pr (cm [2]) Gm h (MX11_minutes h 1 v) (fun h' => MX12_minutes h' 73 v) := by
  obtain ⟨O, X, X2, S, V, D, DV, I, T, Im, Tr⟩ := id C
  have K := C.rt
  obtain ⟨g0, f0⟩ := I.1.f.1
  have h16 : ∀ h', RSt h' m k i t n f → ∀ c, MX12_minutes_16 h' 73 v 73 (nI c) = if nI c ≤ nI 0 then MX12_minutes_30 (sI h' 73 0 (nI c)) 73 v (nI 0) else some (nI 0, sI h' 73 0 (nI c)) := fun h' R' c => by
    unfold MX12_minutes_16
    simp only [ZL]
    rw [gg_t (RS.f R'.1).1, lt_eq, gg_t (RS.f R'.1).1, th_get]
  rcases ni_d v 121 with hv | ⟨b, hb, rfl⟩
  · refine (Pr.thr C R 2 1 rfl (by omega) (by omega) ?_ fun h' R' => ⟨nI 0, ?_⟩).gm
    · unfold MX11_minutes
      simp only [ZL]
      rcases rn_c (v := v) (a := 0) (b := 120) (by omega) (by omega) (fun j _ h2 => hv j h2) with z | ⟨z1, z2, z3⟩
      · rw [if_pos z]
      · rw [if_neg z1, if_neg z2]
    · unfold MX12_minutes
      simp only [ZL]
      rw [r_isIn_f (by omega) hv, ob_some, if_pos rfl, h16 h' R', if_neg (by decide)]
  · obtain ⟨N, hN⟩ : ∃ N, N = min b (600 - Nn m 0) := ⟨_, rfl⟩
    have K19 : 19 ≤ sz h := by omega
    have ch := fun j hj => c_chain K K19 h9 S V I j hj
    have w5 : ∀ y : Nat, y = 5 → y = 5 ∨ y = 6 ∨ y = 9 ∨ y = 10 ∨ y = 11 := fun y hy => Or.inl hy
    have gx : ∀ j tg' g, MnS tg h 19 5 m j tg' g → MnM m j → kd g 1 = 10 ∧ gP g 1 5 = 19 ∧ kd g 19 = 6 ∧ gI g 19 0 = nI (Nn m 0 + j) := fun j tg' g A M => by
      obtain ⟨Y1, -, -⟩ := rx_b O X X2 T h9 A.1 w5
      exact ⟨Y1.1, X5 Y1, A.2.2.1.1, by rw [A.2.2.2.1, M.2.1]⟩
    -- the class
    have cl : ∃ z, it (fun q : Int32 × Hp => BX11_minutes_20 q.2 1 (nI b) q.1) (nI 0, h) = some z ∧ ∃ tg' g, z = (.inl (nI (Nn m 0 + N)), g) ∧ MnS tg h 19 5 m N tg' g := by
      refine it_cnt (fun j s => s.1 = nI j ∧ ∃ tg', MnS tg h 19 5 m j tg' s.2) N (fun j s hj pp => ?_) (fun s pp => ?_) ⟨rfl, tg, Rx.rfl K.1, Nat.le_refl _, S, V⟩
      · obtain ⟨w, g⟩ := s
        obtain ⟨p1, tg1, p2⟩ := pp
        replace p1 : w = nI j := p1
        replace p2 : MnS tg h 19 5 m j tg1 g := p2
        subst p1
        have M := (ch j (by omega)).2
        obtain ⟨x1, x2, x3, x4⟩ := gx j tg1 g p2 M
        obtain ⟨⟨tg2, g2, a1, a2⟩, -, -⟩ := c_mins (kk := m) (ii := 0) (t := m) (u := 0) (f := 0) K K19 h9 I (by omega) p2 M
        refine ⟨(nI (j + 1), g2), ?_, rfl, tg2, a2⟩
        show BX11_minutes_20 g 1 (nI b) (nI j) = _
        unfold BX11_minutes_20
        simp only [ZL, nAdd]
        rw [if_neg (nI_ge (by omega) (by omega)), gg_t x1, x2, gg_t x3, x4, if_neg (nI_ge (by omega) (by omega)), a1, ob_some]
      · obtain ⟨w, g⟩ := s
        obtain ⟨p1, tg1, p2⟩ := pp
        replace p1 : w = nI N := p1
        replace p2 : MnS tg h 19 5 m N tg1 g := p2
        subst p1
        have M := (ch N (by omega)).2
        obtain ⟨x1, x2, x3, x4⟩ := gx N tg1 g p2 M
        refine ⟨_, ?_, tg1, g, rfl, p2⟩
        have e51 : MX11_minutes_51 g 1 = some (.inl (nI (Nn m 0 + N)), g) := by
          unfold MX11_minutes_51
          rw [gg_t x1, x2, gg_t x3, x4]
        show BX11_minutes_20 g 1 (nI b) (nI N) = _
        unfold BX11_minutes_20
        simp only [ZL]
        by_cases z : b ≤ N
        · rw [if_pos (nI_le z (by omega)), e51, up1_some]
        · rw [if_neg (nI_ge (by omega) (by omega)), gg_t x1, x2, gg_t x3, x4, if_pos (nI_le (by omega) (by omega)), e51, up1_some]
    obtain ⟨z, c1, tg', g, c2, A1, A2, A3, A4⟩ := cl
    have hM := (ch N (by omega)).2
    obtain ⟨M1, M2, M3⟩ := id hM
    obtain ⟨t1, t2, t3, t4, t5, t13, t19, t48, t59, t68⟩ := tgs O X
    have K48 : Rt tg h 48 6 := ⟨O, t3, t48, by omega, by omega⟩
    have s48 := rx_sm3 A1 K48 (by omega) (by omega : ¬ 6 = 5)
    have HD : ∀ y, rgDk y → miI m N y = m y := fun y hy => M3 y (by unfold rgDk at hy; omega) (by unfold rgDk at hy; omega) (by unfold rgDk at hy; omega) (by unfold rgDk at hy; omega)
    refine Pr.rx C R h9 (nI (Nn m 0 + N)) ?_ A1 w5 (C.rx h9 A1 w5 A3 A4 (D.congr s48) ((DV.congr s48).mc HD I.1 I.2.2.2.2.1) M1 (rx_img A1 O X h9 (by omega) (by omega) Im) (rx_tr A1 O X h9 (by omega) Tr)) ⟨?_, A1.2.1⟩ fun h' R' => ?_
    · unfold MX11_minutes MX11_minutes_20
      simp only [ZL]
      rw [if_neg (nI_nlt (Nat.zero_le b) (by omega)), if_pos (nI_le (by omega) (by omega)), c1, c2]
    · have := mu_y A1 O X h9 (Or.inl rfl) (by unfold muQ; rw [if_pos rfl]; exact A2)
      omega
    · have R0 := R'.th (v := nI 0)
      have rl : ∃ z, it (fun q : Int32 × Hp => BX12_minutes_30 q.2 73 (nI b) q.1) (nI 0, sI h' 73 0 (nI 0)) = some z ∧ (z.1 = nI (Nn m 0 + N) ∧ Fr Rc h' z.2 ∧ RSt z.2 (miI m N) k i t n f ∧ gI z.2 73 0 = nI 0) := by
        refine it_cnt (fun j s => s.1 = nI j ∧ Fr Rc h' s.2 ∧ RSt s.2 (miI m j) k i t n f ∧ gI s.2 73 0 = nI 0) N (fun j s hj pp => ?_) (fun s pp => ?_) ⟨rfl, th_fr, R0, th_get⟩
        · obtain ⟨w, z⟩ := s
          obtain ⟨p1, p2, p3, p4⟩ := pp
          replace p1 : w = nI j := p1
          replace p2 : Fr Rc h' z := p2
          replace p3 : RSt z (miI m j) k i t n f := p3
          replace p4 : gI z 73 0 = nI 0 := p4
          subst p1
          obtain ⟨⟨tg1, g1, B⟩, M⟩ := ch j (by omega)
          obtain ⟨-, -, rr⟩ := c_mins (kk := k) (ii := i) (t := t) (u := n) (f := f) K K19 h9 I (by omega) B M
          obtain ⟨z2, a1, a2, a3, a4⟩ := rr z p3
          have d0 : gI z 74 0 = nI (Nn m 0 + j) := by rw [p3.2.1]; exact M.2.1
          refine ⟨(nI (j + 1), z2), ?_, rfl, p2.trans (fm_rc a2), a3, by rw [a4, p4]⟩
          show BX12_minutes_30 z 73 (nI b) (nI j) = _
          unfold BX12_minutes_30
          simp only [ZL, nAdd]
          rw [if_neg (nI_ge (by omega) (by omega)), gg_t (RS.f p3.1).1, (RS.f p3.1).2.1, gg_t (RS.f p3.1).2.2.1, (RS.f p3.1).2.2.2.1, gg_in (by omega) (by omega), nCl (by omega), d0, if_neg (nI_ge (by omega) (by omega)), a1, ob_some]
        · obtain ⟨w, z⟩ := s
          obtain ⟨p1, p2, p3, p4⟩ := pp
          replace p1 : w = nI N := p1
          replace p2 : Fr Rc h' z := p2
          replace p3 : RSt z (miI m N) k i t n f := p3
          replace p4 : gI z 73 0 = nI 0 := p4
          subst p1
          have d0 : gI z 74 0 = nI (Nn m 0 + N) := by rw [p3.2.1]; exact M2
          refine ⟨(nI (Nn m 0 + N), z), ?_, rfl, p2, p3, p4⟩
          have e57 : MX12_minutes_57 z 73 = some (nI (Nn m 0 + N), z) := by
            unfold MX12_minutes_57
            simp only [ZL]
            rw [gg_t (RS.f p3.1).1, (RS.f p3.1).2.1, gg_t (RS.f p3.1).2.2.1, (RS.f p3.1).2.2.2.1, gg_in (by omega) (by omega), nCl (by omega), d0]
          show BX12_minutes_30 z 73 (nI b) (nI N) = _
          unfold BX12_minutes_30
          simp only [ZL]
          by_cases y : b ≤ N
          · rw [if_pos (nI_le y (by omega)), e57, up1_some]
          · rw [if_neg (nI_ge (by omega) (by omega)), gg_t (RS.f p3.1).1, (RS.f p3.1).2.1, gg_t (RS.f p3.1).2.2.1, (RS.f p3.1).2.2.2.1, gg_in (by omega) (by omega), nCl (by omega), d0, if_pos (nI_le (by omega) (by omega)), e57, up1_some]
      obtain ⟨⟨z1, z2⟩, q1, q2, q3, q4, q5⟩ := rl
      replace q2 : z1 = nI (Nn m 0 + N) := q2
      subst q2
      refine ⟨z2, ?_, q3, q4, q5⟩
      unfold MX12_minutes
      simp only [ZL]
      rw [r_isIn_t (by omega) (by omega) (by omega), ob_some, if_neg (by decide), h16 h' R', if_pos (by decide)]
      unfold MX12_minutes_30
      exact q1
end
