/-! where slugs lie: slug and place are written -/
def plX (x : Nat) : Prop := (130 ≤ x ∧ x < 64630 ∧ 45 ≤ (x - 130) % 645 ∧ (x - 130) % 645 < 85) ∨ (64630 ≤ x ∧ x < 320230 ∧ 4 ≤ (x - 64630) % 852 ∧ (x - 64630) % 852 ≤ 6)
def pT (x : Nat) (l : List Nat) : Prop := (∃ q, l = [4, q, 5, x]) ∨ ∃ s, l = [s, 10, x]
/-- the places of part q in m' -/
def plP (m m' : Nat → Int32) (q : Nat) : Prop := m (130 + 645 * q + 3) = nI 1 → ∀ l, l < Nn m (130 + 645 * q + 4) → oN m' (130 + 645 * q + 45 + l) 300 ∧ (m' (130 + 645 * q + 45 + l) ≠ nI 0 → Nn m' (130 + 645 * q + 45 + l) ≤ Nn m 4 ∧ m' (64630 + 852 * (Nn m' (130 + 645 * q + 45 + l) - 1) + 4) = nI 0 ∧ m' (64630 + 852 * (Nn m' (130 + 645 * q + 45 + l) - 1) + 5) = nI l ∧ m' (64630 + 852 * (Nn m' (130 + 645 * q + 45 + l) - 1) + 6) = nI q)
/-- where slug s lies in m' -/
def plS (m m' : Nat → Int32) (s : Nat) : Prop := oN m' (64630 + 852 * s + 4) 2 ∧ (m' (64630 + 852 * s + 4) ≠ nI 0 → m' (64630 + 852 * s + 5) = -1 ∧ m' (64630 + 852 * s + 6) = -1) ∧ (m' (64630 + 852 * s + 4) = nI 0 → oN m' (64630 + 852 * s + 5) 39 ∧ oN m' (64630 + 852 * s + 6) 99 ∧ vP m (Nn m' (64630 + 852 * s + 6)) ∧ m (130 + 645 * Nn m' (64630 + 852 * s + 6) + 3) = nI 1 ∧ Nn m' (64630 + 852 * s + 5) < Nn m (130 + 645 * Nn m' (64630 + 852 * s + 6) + 4) ∧ m' (130 + 645 * Nn m' (64630 + 852 * s + 6) + 45 + Nn m' (64630 + 852 * s + 5)) = nI (s + 1))
section
variable {tg : Nat → List Nat} {h h1 h' : Hp} {m m' k t : Nat → Int32} {i n f : Int32} {r x : Nat}
theorem MIq.lay (H : ∀ y, ¬ plX y → m' y = m y) (Ip : ∀ q, vP m q → MIp m q) (I : MIq m) : MIq m' := by
  intro q hq hs l hl
  have hq' : vP m q := hq.c (H 1 (by unfold plX; omega)).symm (fun _ => (H _ (by have := hq.1; unfold plX; omega)).symm)
  have hb := hq.1
  have e : ∀ x, x < 645 → ¬ (45 ≤ x ∧ x < 85) → m' (130 + 645 * q + x) = m (130 + 645 * q + x) := fun x hx hn => H _ (by unfold plX; omega)
  rw [e 3 (by omega) (by omega)] at hs
  rw [Nn.c (e 4 (by omega) (by omega))] at hl
  have J := I q hq' hs l hl
  obtain ⟨-, -, -, -, -, o4, -, -, -, -, -, os⟩ := Ip q hq'
  obtain ⟨-, o4b⟩ := o4.eq (by omega)
  obtain ⟨-, -, -, c3⟩ := os hs
  have ee : ∀ l, l < Nn m (130 + 645 * q + 4) → Nn m' (130 + 645 * q + 5 + l) = Nn m (130 + 645 * q + 5 + l) ∧ Nn m (130 + 645 * q + 5 + l) ≤ 39 := fun l hl => by
    have := e (5 + l) (by omega) (by omega)
    rw [← Nat.add_assoc] at this
    exact ⟨Nn.c this, ((c3 l hl).1.eq (by omega)).2⟩
  have ew : ∀ b, b < 41 → Nn m' (130 + 645 * q + 85 + b) = Nn m (130 + 645 * q + 85 + b) := fun b hb => by
    have := e (85 + b) (by omega) (by omega)
    rw [← Nat.add_assoc] at this
    exact Nn.c this
  have el : ∀ k, k < 41 → lsN m' q k = lsN m q k := fun k hk => lsN.mc k (fun x hx => by
    have := e (125 + x) (by omega) (by omega)
    rwa [← Nat.add_assoc] at this)
  have eg : bgN m' q l = bgN m q l ∧ bgN m q l < 41 := by
    unfold bgN
    by_cases z : l = 0
    · rw [if_pos z, if_pos z]; exact ⟨Eq.refl _, by omega⟩
    · obtain ⟨c1, c2⟩ := ee (l - 1) (by omega)
      rw [if_neg z, if_neg z, c1]; exact ⟨Eq.refl _, by omega⟩
  obtain ⟨d1, d2⟩ := ee l hl
  rw [d1, eg.1, el _ (by omega), el _ eg.2, ew _ (by omega), ew _ eg.2]
  exact J
theorem MIql.lay (H : ∀ y, ¬ plX y → m' y = m y) (Ip : ∀ q, vP m q → MIp m q) (Is : ∀ s, s < Nn m 4 → MIs m (64630 + 852 * s) s) (I : MIql m) : MIql m' := ⟨I.1.lay H Ip, I.2.mc (H 4 (by unfold plX; omega)) Is (fun s hs x hx => H _ (by unfold plX; omega))⟩
theorem MI.lay (I : MI m) (H : ∀ y, ¬ plX y → m' y = m y) (hp : ∀ q, vP m q → plP m m' q) (hs : ∀ s, s < Nn m 4 → plS m m' s) : MI m' := by
  obtain ⟨B, Ip, Is, Im, Ih, Iy, Iz, Iq⟩ := I
  obtain ⟨⟨-, f0⟩, ⟨-, f1⟩, ⟨-, f2⟩, ⟨-, f3⟩, ⟨-, f4⟩, -⟩ := B.f
  have Hb : ∀ x, x < 130 → m' x = m x := fun x hx => H x (by unfold plX; omega)
  refine ⟨B.mc Hb, fun q hq => ?_, fun s hs1 => ?_, fun k hk => ?_, Ih.mc B (fun x hx => H x (by unfold plX; omega)) (fun x h1 h2 => H x (by unfold plX; omega)), fun y hy => ?_, Iz.mc (fun x hx => H x (by unfold plX; omega)) (fun q h1 h2 y h3 h4 => H _ (by unfold plX; omega)) (fun q h1 h2 y h3 h4 => H _ (by unfold plX; omega)), Iq.lay H Ip Is⟩
  · have hq' := hq.b' Hb
    have hb := hq.1
    have P := hp q hq'
    obtain ⟨o0, o1, o1', o2, o3, o4, ob, ow, ow1, ow2, oz, os⟩ := Ip q hq'
    obtain ⟨-, o1b⟩ := o1.eq (by omega)
    obtain ⟨-, o4b⟩ := o4.eq (by omega)
    have e : ∀ x, x < 645 → ¬ (45 ≤ x ∧ x < 85) → m' (130 + 645 * q + x) = m (130 + 645 * q + x) := fun x hx hn => H _ (by unfold plX; omega)
    have e0 : m' (130 + 645 * q) = m (130 + 645 * q) := e 0 (by omega) (by omega)
    have ew : ∀ b, b < 40 → m' (130 + 645 * q + 85 + b) = m (130 + 645 * q + 85 + b) := fun b hb => by
      have := e (85 + b) (by omega) (by omega)
      rwa [← Nat.add_assoc] at this
    have el : ∀ b, b < 40 → m' (130 + 645 * q + 125 + b) = m (130 + 645 * q + 125 + b) := fun b hb => by
      have := e (125 + b) (by omega) (by omega)
      rwa [← Nat.add_assoc] at this
    have ee : ∀ b, b < 40 → m' (130 + 645 * q + 5 + b) = m (130 + 645 * q + 5 + b) := fun b hb => by
      have := e (5 + b) (by omega) (by omega)
      rwa [← Nat.add_assoc] at this
    have n1 := Nn.c (e 1 (by omega) (by omega))
    have n4 := Nn.c (e 4 (by omega) (by omega))
    refine ⟨o0.c e0, o1.c (e 1 (by omega) (by omega)), by rw [n1]; exact o1', o2.c (e 2 (by omega) (by omega)), o3.c (e 3 (by omega) (by omega)), o4.c (e 4 (by omega) (by omega)), fun b hb => ?_, by rw [Nn.c (e 85 (by omega) (by omega))]; exact ow, fun b hb => ?_, ?_, by rw [e 3 (by omega) (by omega), e 4 (by omega) (by omega)]; exact oz, ?_⟩
    · rw [n1] at hb
      obtain ⟨c1, c2, c3, c4⟩ := ob b hb
      have c2b := (c2.eq (by omega)).2
      refine ⟨c1.c (ew b (by omega)), c2.c (el b (by omega)), by rw [Nn.c (el b (by omega))]; exact c3, fun i hi => ?_⟩
      rw [Nn.c (el b (by omega))] at hi
      have := e (165 + 12 * b + i) (by omega) (by omega)
      rw [← Nat.add_assoc, ← Nat.add_assoc] at this
      exact (c4 i hi).c this
    · rw [n1] at hb
      rw [Nn.c (ew b (by omega)), Nn.c (ew (b + 1) (by omega))]
      exact ow1 b hb
    · rw [n1, Nn.c (ew _ (by omega)), Nn.c e0]
      exact ow2
    · rw [e 3 (by omega) (by omega), e 2 (by omega) (by omega), n4, n1, Nn.c (ee _ (by omega))]
      intro hs
      obtain ⟨c0, c1, c2, c3⟩ := os hs
      refine ⟨c0, c1, c2, fun l hl => ?_⟩
      obtain ⟨d1, -, d3, -⟩ := c3 l hl
      rw [Nn.c (ee l (by omega)), Nn.c (Hb 4 (by omega))]
      exact ⟨d1.c (ee l (by omega)), (P hs l hl).1, fun h2 => by rw [Nn.c (ee (l + 1) (by omega))]; exact d3 h2, (P hs l hl).2⟩
  · rw [Nn.c (Hb 4 (by omega))] at hs1
    obtain ⟨a0, a1, a2, a3, a4, a5, a6, a7, a8, a9, a10, a11, a12, a13, a14, a15, a16⟩ := Is s hs1
    obtain ⟨p1, p2, p3⟩ := hs s hs1
    have e : ∀ x, x < 852 → ¬ (4 ≤ x ∧ x ≤ 6) → m' (64630 + 852 * s + x) = m (64630 + 852 * s + x) := fun x hx hn => H _ (by unfold plX; omega)
    have e0 : m' (64630 + 852 * s) = m (64630 + 852 * s) := e 0 (by omega) (by omega)
    have e9 := (a11.eq (by omega)).2
    refine ⟨a0.c e0, by rw [Nn.c e0]; exact a1.b Hb, a2.c (e _ (by omega) (by omega)), by rw [Nn.c (e 1 (by omega) (by omega)), Nn.c (Hb 3 (by omega))]; exact a3, a4.c (e _ (by omega) (by omega)), by rw [Nn.c (e 2 (by omega) (by omega)), Nn.c (Hb 0 (by omega))]; exact a5, by rw [Nn.c (e 2 (by omega) (by omega))]; exact a6, a7.c (e _ (by omega) (by omega)), p1, a9.c (e _ (by omega) (by omega)), a10.c (e _ (by omega) (by omega)), a11.c (e _ (by omega) (by omega)), a12.c (e _ (by omega) (by omega)), a13.c (e _ (by omega) (by omega)), fun i hi => ?_, p2, fun hz => ?_⟩
    · rw [Nn.c (e 9 (by omega) (by omega))] at hi
      have h1 := e (12 + i) (by omega) (by omega)
      have h2 := e (432 + i) (by omega) (by omega)
      rw [← Nat.add_assoc] at h1 h2
      exact ⟨(a14 i hi).1.c h1, (a14 i hi).2.c h2⟩
    · obtain ⟨c1, c2, c3, c4, c5, c6⟩ := p3 hz
      have hb := c3.1
      rw [H (130 + 645 * Nn m' (64630 + 852 * s + 6) + 3) (by unfold plX; omega), Nn.c (H (130 + 645 * Nn m' (64630 + 852 * s + 6) + 4) (by unfold plX; omega))]
      exact ⟨c1, c2, c3.b Hb, c4, c5, c6⟩
  · rw [Nn.c (Hb 3 (by omega))] at hk
    refine (Im k hk).mc hk f3 Hb (fun x h1 h2 => H _ (by unfold plX; omega)) (fun j hj y h1 h2 => ?_) (fun k' hk' => ((Im k' hk').2.2.2.1.eq (by omega)).2)
    have := ((Im k hk).2.2.2.2 j hj).2.1.1
    exact H _ (by unfold plX; omega)
  · rw [Nn.c (Hb 2 (by omega))] at hy
    exact (Iy y hy).mc fun x hx => H _ (by unfold plX; omega)
/-- what stays whatever the places say -/
def Wk (m : Nat → Int32) : Prop := MIb m ∧ (∀ q, vP m q → oN m (130 + 645 * q + 1) 40 ∧ oN m (130 + 645 * q + 4) 40 ∧ ∀ b, b < Nn m (130 + 645 * q + 1) → oN m (130 + 645 * q + 125 + b) 12) ∧ (∀ k, k < Nn m 3 → oN m (320230 + 183 * k + 29) 30 ∧ ∀ j, j < Nn m (320230 + 183 * k + 29) → vP m (Nn m (320230 + 183 * k + 33 + 5 * j))) ∧ (∀ s, s < Nn m 4 → vP m (Nn m (64630 + 852 * s)) ∧ oN m (64630 + 852 * s + 9) 401) ∧ ∀ y, y < Nn m 2 → oN m (320962 + 562 * y + 1) 12
theorem MI.wk (I : MI m) : Wk m := by
  obtain ⟨B, Ip, Is, Im, Ih, Iy, Iz⟩ := I
  exact ⟨B, fun q hq => ⟨(Ip q hq).2.1, (Ip q hq).2.2.2.2.2.1, fun b hb => ((Ip q hq).2.2.2.2.2.2.1 b hb).2.1⟩, fun k hk => ⟨(Im k hk).2.2.2.1, fun j hj => ((Im k hk).2.2.2.2 j hj).2.1⟩, fun s hs => ⟨(Is s hs).2.1, (Is s hs).2.2.2.2.2.2.2.2.2.2.2.1⟩, fun y hy => (Iy y hy).2.1⟩
theorem Wk.lay (W : Wk m) (H : ∀ y, ¬ plX y → m' y = m y) : Wk m' := by
  obtain ⟨B, Ip, Im, Is, Iy⟩ := W
  obtain ⟨⟨-, f0⟩, ⟨-, f1⟩, ⟨-, f2⟩, ⟨-, f3⟩, ⟨-, f4⟩, -⟩ := B.f
  have Hb : ∀ x, x < 130 → m' x = m x := fun x hx => H x (by unfold plX; omega)
  refine ⟨B.mc Hb, fun q hq => ?_, fun k hk => ?_, fun s hs => ?_, fun y hy => ?_⟩
  · have hq' := hq.b' Hb
    have hb := hq.1
    obtain ⟨o1, o4, ob⟩ := Ip q hq'
    have l1 := (o1.eq (by omega)).2
    refine ⟨o1.c (H _ (by unfold plX; omega)), o4.c (H _ (by unfold plX; omega)), fun b hb2 => ?_⟩
    rw [Nn.c (H (130 + 645 * q + 1) (by unfold plX; omega))] at hb2
    exact (ob b hb2).c (H _ (by unfold plX; omega))
  · rw [Nn.c (Hb 3 (by omega))] at hk
    obtain ⟨i3, ij⟩ := Im k hk
    have l3 := (i3.eq (by omega)).2
    refine ⟨i3.c (H _ (by unfold plX; omega)), fun j hj => ?_⟩
    rw [Nn.c (H (320230 + 183 * k + 29) (by unfold plX; omega))] at hj
    rw [Nn.c (H _ (by unfold plX; omega))]
    exact (ij j hj).b Hb
  · rw [Nn.c (Hb 4 (by omega))] at hs
    rw [Nn.c (H (64630 + 852 * s) (by unfold plX; omega))]
    exact ⟨(Is s hs).1.b Hb, (Is s hs).2.c (H _ (by unfold plX; omega))⟩
  · rw [Nn.c (Hb 2 (by omega))] at hy
    exact (Iy y hy).c (H _ (by unfold plX; omega))
theorem RmV.lay (K : Rt tg h r x) (F : Ft tg (pT x) h h1) (W : Wk m) (V : RmV h r m) (H : ∀ y, ¬ plX y → m' y = m y) (hp : ∀ q, vP m q → m (130 + 645 * q + 3) = nI 1 → ∀ l, l < Nn m (130 + 645 * q + 4) → gI h1 (gP h (gP h (gP h r 5) q) 4) l = m' (130 + 645 * q + 45 + l) - nI 1) (hs : ∀ s, s < Nn m 4 → (∀ j, ¬ (10 ≤ j ∧ j ≤ 12) → gI h1 (gP h (gP h r 10) s) j = gI h (gP h (gP h r 10) s) j) ∧ gI h1 (gP h (gP h r 10) s) 10 = m' (64630 + 852 * s + 4) ∧ gI h1 (gP h (gP h r 10) s) 11 = m' (64630 + 852 * s + 5) ∧ gI h1 (gP h (gP h r 10) s) 12 = m' (64630 + 852 * s + 6)) : RmV h1 r m' := by
  obtain ⟨B, Ip, Im, Is, Iy⟩ := W
  obtain ⟨⟨-, f0⟩, ⟨-, f1⟩, ⟨-, f2⟩, ⟨-, f3⟩, ⟨-, f4⟩, -⟩ := B.f
  obtain ⟨a1, a2, a3, a4, a5, a6, a7, c1, c2, c3, c4, d⟩ := V
  have Hb : ∀ x, x < 130 → m' x = m x := fun x hx => H x (by unfold plX; omega)
  have n1 : Nn m' 1 = Nn m 1 := Nn.c (Hb 1 (by omega))
  have n2 : Nn m' 2 = Nn m 2 := Nn.c (Hb 2 (by omega))
  have n3 : Nn m' 3 = Nn m 3 := Nn.c (Hb 3 (by omega))
  have n4 : Nn m' 4 = Nn m 4 := Nn.c (Hb 4 (by omega))
  have e3 : gP h1 = gP h := F.gp
  have g0 := (K.s0 F (by simp [pT])).2.2.1
  have g1 := (K.s1 (k := 1) F (by simp [pT])).2.2.1
  have g6 := (K.s1 (k := 6) F (by simp [pT])).2.2.1
  have g12 := (K.s1 (k := 12) F (by simp [pT])).2.2.1
  have g13 := (K.s1 (k := 13) F (by simp [pT])).2.2.1
  unfold RmV
  rw [e3, g0, g1, g6, g12, g13, n1, n2, n3, n4, Hb 0 (by omega), Hb 1 (by omega), Hb 2 (by omega), Hb 3 (by omega), Hb 4 (by omega)]
  refine ⟨a1, a2, a3, a4, a5, fun i hi => by rw [Hb _ (by omega)]; exact a6 i hi, fun s hs => by rw [Hb _ (by omega)]; exact a7 s hs, fun q hq => ?_, fun k hk => ?_, fun s hs1 => ?_, fun y hy => ?_, ?_⟩
  · have hq' : vP m q := hq.b' Hb
    have hb := hq.1
    refine ⟨(c1 q hq').1, ?_⟩
    obtain ⟨b1, b2, b3, b4, b5, b6, b7, b8, b9⟩ := (c1 q hq').2
    obtain ⟨o1, o4, ob⟩ := Ip q hq'
    obtain ⟨-, o1b⟩ := o1.eq (by omega)
    obtain ⟨-, o4b⟩ := o4.eq (by omega)
    have e : ∀ x, x < 645 → ¬ (45 ≤ x ∧ x < 85) → m' (130 + 645 * q + x) = m (130 + 645 * q + x) := fun x hx hn => H _ (by unfold plX; omega)
    have e0 : m' (130 + 645 * q) = m (130 + 645 * q) := e 0 (by omega) (by omega)
    have p0 := (K.s2 (k := 5) (j := q) F (by simp [pT])).2.2.1
    have q0 := (K.s3 (k := 5) (j := q) (i := 0) F (by simp [pT])).2.2.1
    have q1 := (K.s3 (k := 5) (j := q) (i := 1) F (by simp [pT])).2.2.1
    have q2 := (K.s3 (k := 5) (j := q) (i := 2) F (by simp [pT])).2.2.1
    have q3 := (K.s3 (k := 5) (j := q) (i := 3) F (by simp [pT])).2.2.1
    unfold PtV
    rw [e3, p0, q0, q1, q2, q3, e 1 (by omega) (by omega), e0, Hb (70 + q / 5) (by omega), Hb (90 + q / 5) (by omega), e 2 (by omega) (by omega), e 3 (by omega) (by omega), e 4 (by omega) (by omega), Nn.c (e 1 (by omega) (by omega)), Nn.c (e 4 (by omega) (by omega))]
    refine ⟨b1, b2, b3, b4, b5, b6, fun b hb => ?_, b8, fun hz l hl => ⟨?_, hp q hq' hz l hl⟩⟩
    · obtain ⟨d1, d2, d3⟩ := b7 b hb
      have ol := ((ob b hb).eq (by omega)).2
      have ew : ∀ b, b < 41 → m' (130 + 645 * q + 85 + b) = m (130 + 645 * q + 85 + b) := fun b hb => by
        have := e (85 + b) (by omega) (by omega)
        rwa [← Nat.add_assoc] at this
      have el : m' (130 + 645 * q + 125 + b) = m (130 + 645 * q + 125 + b) := by
        have := e (125 + b) (by omega) (by omega)
        rwa [← Nat.add_assoc] at this
      rw [ew b (by omega), ew (b + 1) (by omega), el, Nn.c el]
      refine ⟨d1, d2, fun i hi => ?_⟩
      have := e (165 + 12 * b + i) (by omega) (by omega)
      rw [← Nat.add_assoc, ← Nat.add_assoc] at this
      rw [this]
      exact d3 i hi
    · have := e (5 + l) (by omega) (by omega)
      rw [← Nat.add_assoc] at this
      rw [this]
      exact (b9 hz l hl).1
  · obtain ⟨i3, ij⟩ := Im k hk
    refine ⟨(c2 k hk).1, ((c2 k hk).2.congr (K.s2 F (by simp [pT])) (fun j => K.s3 F (by simp [pT]))).mc (fun x hx => ?_) i3⟩
    rcases hx with ⟨h1, h2⟩ | ⟨j, hj, hx⟩
    · exact H _ (by unfold plX; omega)
    · have hb := (ij j hj).1
      rcases hx with rfl | rfl <;> exact H _ (by unfold plX; omega)
  · refine ⟨(c3 s hs1).1, ?_⟩
    obtain ⟨y0, y10, y11, y12⟩ := hs s hs1
    obtain ⟨w5, w8, w9, w3, w10, w11, w12, w14, w7, w2, w13, w6, wl, wb, w4⟩ := (c3 s hs1).2
    have hi := Is s hs1
    have hb := hi.1.1
    have h9 := (hi.2.eq (by omega)).2
    have e : ∀ x, x < 852 → ¬ (4 ≤ x ∧ x ≤ 6) → m' (64630 + 852 * s + x) = m (64630 + 852 * s + x) := fun x hx hn => H _ (by unfold plX; omega)
    have e0 : m' (64630 + 852 * s) = m (64630 + 852 * s) := e 0 (by omega) (by omega)
    have e9 := Nn.c (e 9 (by omega) (by omega))
    have q0 := (K.s3 (k := 10) (j := s) (i := 0) F (by simp [pT])).2.2.1
    have q1 := (K.s3 (k := 10) (j := s) (i := 1) F (by simp [pT])).2.2.1
    have ea : ∀ a, a < Nn m (64630 + 852 * s + 9) → m' (64630 + 852 * s + 12 + a) = m (64630 + 852 * s + 12 + a) ∧ m' (64630 + 852 * s + 432 + a) = m (64630 + 852 * s + 432 + a) := fun a ha => by
      have h1 := e (12 + a) (by omega) (by omega)
      have h2 := e (432 + a) (by omega) (by omega)
      rw [← Nat.add_assoc] at h1 h2
      exact ⟨h1, h2⟩
    unfold SlV
    rw [e3, F.el, q0, q1, e9, wrN.mc _ ea, y0 5 (by omega), y0 8 (by omega), y0 9 (by omega), y0 3 (by omega), y10, y11, y12, y0 14 (by omega), y0 7 (by omega), y0 2 (by omega), y0 13 (by omega), y0 6 (by omega), y0 4 (by omega), Nn.c e0, e0, e 1 (by omega) (by omega), e 2 (by omega) (by omega), e 3 (by omega) (by omega), e 7 (by omega) (by omega), e 8 (by omega) (by omega), e 9 (by omega) (by omega), e 10 (by omega) (by omega), e 11 (by omega) (by omega), Hb (70 + Nn m (64630 + 852 * s) / 5) (by omega)]
    refine ⟨w5, w8, w9, w3, Eq.refl _, Eq.refl _, Eq.refl _, w14, w7, w2, w13, w6, wl, fun a ha => ?_, w4⟩
    rw [(ea a ha).1, (ea a ha).2]
    exact wb a ha
  · exact ⟨(c4 y hy).1, ((c4 y hy).2.congr (K.s2 F (by simp [pT])) (fun j => K.s3 F (by simp [pT]))).mc (fun x hx => H _ (by unfold plX; omega)) (Iy y hy)⟩
  · have := rows.mc (h := h) (r := r) (m' := m') B ⟨Hb 0 (by omega), Hb 4 (by omega), Hb 7 (by omega)⟩ (fun x h1 h2 => H x (by unfold plX; omega)) (fun s hs => ⟨H _ (by unfold plX; omega), H _ (by unfold plX; omega)⟩) d
    rw [n4] at this
    exact this
theorem RmS.lay (K : Rt tg h r x) (F : Ft tg (pT x) h h1) (S : RmS h r) (hs : ∀ s, gI h1 (gP h (gP h r 10) s) 14 = gI h (gP h (gP h r 10) s) 14) : RmS h1 r := by
  refine S.of F ?_
  obtain ⟨n1, n2, n3, n4, n5⟩ := S.n
  have e3 : gP h1 = gP h := F.gp
  unfold RmN
  rw [e3]
  refine ⟨?_, ?_, fun q hq => ?_, fun k hk => ?_, fun s hz => ?_⟩
  · rw [(K.s1 (k := 4) F (by simp [pT])).2.2.1]; exact n1
  · rw [(K.s2 (k := 14) (j := 8) F (by simp [pT])).2.2.1, (K.s2 (k := 14) (j := 9) F (by simp [pT])).2.2.1]; exact n2
  · rw [(K.s3 (k := 5) (j := q) (i := 1) F (by simp [pT])).2.2.1, (K.s3 (k := 5) (j := q) (i := 2) F (by simp [pT])).2.2.1, (K.s2 (k := 5) (j := q) F (by simp [pT])).2.2.1]
    exact n3 q hq
  · rw [(K.s3 (k := 8) (j := k) (i := 10) F (by simp [pT])).2.2.1, (K.s2 (k := 8) (j := k) F (by simp [pT])).2.2.1]
    exact n4 k hk
  · rw [hs s]
    exact n5 s hz
end
