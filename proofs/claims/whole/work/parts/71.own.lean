/-! an array of the room's own is written: width, tear -/
section
variable {tg : Nat → List Nat} {h h1 h' : Hp} {m m' k t : Nat → Int32} {i n f : Int32} {D : Nat → Prop} {r k0 : Nat}
theorem own_sm (O : Own tg h) (h3 : tg 3 = [3]) {x : Nat} (hr : tg r = [x]) (hx : x ≠ 3) (hz : gP h r k0 ≠ 0) (r0 : r ≠ 0) (Fr1 : Fr (fun b => b = gP h r k0) h h1) : sm h h1 r ∧ (∀ j, j ≠ k0 → sm h h1 (gP h r j)) ∧ ∀ j l, sm h h1 (gP h (gP h r j) l) ∧ ∀ i, sm h h1 (gP h (gP h (gP h r j) l) i) := by
  obtain ⟨-, -, -, o1, o2, -⟩ := id O
  have r3 : r ≠ 3 := fun e => by
    rw [e, h3] at hr
    exact hx (List.cons.inj hr).1.symm
  have tz := tgc O hz r3
  rw [hr] at tz
  have z0 : sm h h1 0 := Fr1.sm (fun z => hz z.symm)
  refine ⟨Fr1.sm (fun z => ?_), fun j hj => ?_, fun j l => ?_⟩
  · have z : r = gP h r k0 := z
    exact ne_o O r3 hz z
  · by_cases q : gP h r j = 0
    · rw [q]; exact z0
    · exact Fr1.sm (fun z => ne_f O r3 q hz hj z)
  · by_cases q : gP h r j = 0
    · rw [q, o1 l]
      exact ⟨z0, fun i => by rw [o1 i]; exact z0⟩
    · have t1 := tgc O q r3
      rw [hr] at t1
      have n3 : gP h r j ≠ 3 := fun e => by
        rw [e, h3] at t1
        have := congrArg List.length t1
        simp at this
      by_cases q2 : gP h (gP h r j) l = 0
      · rw [q2]
        exact ⟨z0, fun i => by rw [o1 i]; exact z0⟩
      · have t2 := tgc O q2 n3
        rw [t1] at t2
        have n4 : gP h (gP h r j) l ≠ 3 := fun e => by
          rw [e, h3] at t2
          have := congrArg List.length t2
          simp at this
        refine ⟨Fr1.sm (fun z => ?_), fun i => ?_⟩
        · have z : gP h (gP h r j) l = gP h r k0 := z
          rw [z, tz] at t2
          have := congrArg List.length t2
          simp at this
        · by_cases q3 : gP h (gP h (gP h r j) l) i = 0
          · rw [q3]; exact z0
          · have t3 := tgc O q3 n4
            rw [t2] at t3
            refine Fr1.sm (fun z => ?_)
            have z : gP h (gP h (gP h r j) l) i = gP h r k0 := z
            rw [z, tz] at t3
            have := congrArg List.length t3
            simp at this
theorem RmS.own (S : RmS h r) (Fr1 : Fr D h h1) (h4 : k0 ≠ 4 ∧ k0 ≠ 14) (sf : sm h h1 r ∧ (∀ j, j ≠ k0 → sm h h1 (gP h r j)) ∧ ∀ j l, sm h h1 (gP h (gP h r j) l) ∧ ∀ i, sm h h1 (gP h (gP h (gP h r j) l) i)) : RmS h1 r := by
  obtain ⟨a1, a2, a3, a4, a5, a6, a7, a8, a9, a10, a11, a12, a13, a14, ⟨b1, b2, b3, b3'⟩, ⟨b4, b5⟩, c1, c2, c3, c4⟩ := S
  obtain ⟨e0, e1, e2⟩ := sf
  refine ⟨by rw [Fr1.1]; exact a1, a2.fr Fr1, a3.fr Fr1, a4.fr Fr1, a5.fr Fr1, a6.fr Fr1, a7.fr Fr1, a8.fr Fr1, a9.fr Fr1, a10.fr Fr1, a11.fr Fr1, a12.fr Fr1, a13.fr Fr1, a14.fr Fr1, ?_, ?_, ?_, ?_, ?_, ?_⟩
  · rw [Fr1.2.2.1, (e1 4 (by omega)).2.2.1]
    exact ⟨b1, b2.congr (e1 4 (by omega)) (fun j => (e2 4 j).1), b3, b3'⟩
  · rw [Fr1.2.2.1]
    exact ⟨b4, b5.congr (e1 14 (by omega)) (fun j => (e2 14 j).1)⟩
  · rw [Fr1.2.2.1]
    exact fun q hq => (c1 q hq).congr (e2 5 q).1 (e2 5 q).2
  · rw [Fr1.2.2.1]
    exact fun q hq => (c2 q hq).congr (e2 2 q).1 (e2 2 q).2
  · rw [Fr1.2.2.1]
    exact fun q hq => (c3 q hq).congr (e2 8 q).1 (e2 8 q).2
  · rw [Fr1.2.2.1]
    exact fun q hq => (c4 q hq).congr (e2 10 q).1 (e2 10 q).2
/-- the objects of the room as they are, its arrays told anew -/
theorem RmV.own (I : MI m) (V : RmV h r m) (Fr1 : Fr D h h1) (sf : sm h h1 r ∧ (∀ j, j ≠ k0 → sm h h1 (gP h r j)) ∧ ∀ j l, sm h h1 (gP h (gP h r j) l) ∧ ∀ i, sm h h1 (gP h (gP h (gP h r j) l) i)) (h6 : k0 ≠ 6) (H : ∀ x, x < 16 ∨ (70 ≤ x ∧ x < 326582) → m' x = m x) (hw : ∀ i, i < 54 → gI h1 (gP h r 1) i = m' (16 + i)) (hr : ∀ i, i < Nn m 7 → ∀ k, k < 4 → gI h1 (gP h r 12) ((Nn m 0 - Nn m 7 + i) % 8 * 4 + k) = m' (337180 + 5 * i + 1 + k) ∧ gI h1 (gP h r 13) ((Nn m 0 - Nn m 7 + i) % 8 * 4 + k) = lastS m (nI k) (nI (Nn m 0 - Nn m 7 + i + 1)) (Nn m 4)) : RmV h1 r m' := by
  obtain ⟨B, Ip, Is, Im, Ih, Iy, Iz⟩ := I
  obtain ⟨⟨-, f0⟩, ⟨-, f1⟩, ⟨-, f2⟩, ⟨-, f3⟩, ⟨-, f4⟩, -⟩ := B.f
  obtain ⟨a1, a2, a3, a4, a5, a6, a7, c1, c2, c3, c4, d⟩ := V
  obtain ⟨e0, e1, e2⟩ := sf
  have n0 : Nn m' 0 = Nn m 0 := Nn.c (H 0 (by omega))
  have n1 : Nn m' 1 = Nn m 1 := Nn.c (H 1 (by omega))
  have n2 : Nn m' 2 = Nn m 2 := Nn.c (H 2 (by omega))
  have n3 : Nn m' 3 = Nn m 3 := Nn.c (H 3 (by omega))
  have n4 : Nn m' 4 = Nn m 4 := Nn.c (H 4 (by omega))
  have n7 : Nn m' 7 = Nn m 7 := Nn.c (H 7 (by omega))
  unfold RmV
  rw [Fr1.2.2.1, e0.2.2.1, n0, n1, n2, n3, n4, n7, (e1 6 (by omega)).2.2.1, H 0 (by omega), H 1 (by omega), H 2 (by omega), H 3 (by omega), H 4 (by omega)]
  refine ⟨a1, a2, a3, a4, a5, hw, fun s hs => by rw [H _ (by omega)]; exact a7 s hs, fun q hq => ?_, fun k hk => ?_, fun s hs1 => ?_, fun y hy => ?_, fun i hi k hk => ⟨(hr i hi k hk).1, ?_⟩⟩
  · have hq' : vP m q := hq.c (H 1 (by omega)).symm (fun z => (H _ (by have := hq.1; omega)).symm)
    have hb := hq.1
    refine ⟨(c1 q hq').1, ((c1 q hq').2.congr (e2 5 q).1 (e2 5 q).2).mc (fun x hx => ?_) (Ip q hq')⟩
    rcases hx with rfl | rfl | ⟨h1, h2⟩ <;> exact H _ (by omega)
  · obtain ⟨-, -, -, i3, ij⟩ := Im k hk
    refine ⟨(c2 k hk).1, ((c2 k hk).2.congr (e2 8 k).1 (e2 8 k).2).mc (fun x hx => ?_) i3⟩
    rcases hx with ⟨h1, h2⟩ | ⟨j, hj, hx⟩
    · exact H _ (by omega)
    · have hb := (ij j hj).2.1.1
      rcases hx with rfl | rfl <;> exact H _ (by omega)
  · have hi := Is s hs1
    have hb := hi.2.1.1
    refine ⟨(c3 s hs1).1, ((c3 s hs1).2.congr (e2 10 s).1 (e2 10 s).2).mc (fun x hx => ?_) hi.2.2.2.2.2.2.2.2.2.2.2.1⟩
    rcases hx with ⟨h1, h2⟩ | rfl <;> exact H _ (by omega)
  · exact ⟨(c4 y hy).1, ((c4 y hy).2.congr (e2 2 y).1 (e2 2 y).2).mc (fun x hx => H _ (by omega)) (Iy y hy).2.1⟩
  · rw [lastS.mc (m := m) (m' := m') _ (fun s hs => ⟨H _ (by omega), H _ (by omega)⟩)]
    exact (hr i hi k hk).2
/-- widths and rows alone are changed in the memory -/
theorem MI.wr (I : MI m) (H : ∀ x, x < 16 ∨ (70 ≤ x ∧ x < 337180) → m' x = m x) (hw : ∀ i, i < 54 → oN m' (16 + i) 20 ∧ 1 ≤ Nn m' (16 + i)) (hr : ∀ i, i < Nn m 7 → m' (337180 + 5 * i) = m (337180 + 5 * i)) : MI m' := by
  obtain ⟨B, Ip, Is, Im, Ih, Iy, Iz, Iq⟩ := I
  obtain ⟨⟨-, f0⟩, ⟨-, f1⟩, ⟨-, f2⟩, ⟨-, f3⟩, ⟨-, f4⟩, ⟨-, f5⟩, ⟨-, f6⟩, ⟨-, f7⟩⟩ := B.f
  have vp : ∀ q, vP m' q → vP m q := fun q hq => hq.c (H 1 (by omega)).symm (fun _ => (H _ (by have := hq.1; omega)).symm)
  have vp2 : ∀ q, vP m q → vP m' q := fun q hq => hq.c (H 1 (by omega)) (fun _ => H _ (by have := hq.1; omega))
  -- through a memory that is m' with m's widths
  have K : ∃ m2 : Nat → Int32, (∀ x, x < 130 → m2 x = m x) ∧ (∀ x, (x < 16 ∨ 70 ≤ x) → m' x = m2 x) ∧ MI m2 := by
    obtain ⟨m2, hm2⟩ : ∃ m2 : Nat → Int32, ∀ x, m2 x = if 16 ≤ x ∧ x < 70 then m x else m' x := ⟨_, fun _ => rfl⟩
    have H2 : ∀ x, x < 337180 → m2 x = m x := fun x hx => by
      rw [hm2]
      split
      · rfl
      · exact H x (by omega)
    refine ⟨m2, fun x hx => H2 x (by omega), fun x hx => by rw [hm2, if_neg (by omega)], ?_⟩
    · have _u := hm2
      refine ⟨B.mc (fun x hx => H2 x (by omega)), fun q hq => ?_, fun s hs => ?_, fun k hk => ?_, ?_, fun y hy => ?_, Iz.mc (fun x hx => H2 x (by omega)) (fun q h1 h2 y h3 h4 => H2 _ (by omega)) (fun q h1 h2 y h3 h4 => H2 _ (by omega)), Iq.mc (fun x hx => H2 x (by omega)) Ip (H2 4 (by omega)) Is (fun s hs x hx => H2 _ (by omega))⟩
      · have hq' := hq.b' (fun x hx => H2 x (by omega))
        have hb := hq.1
        have hI := Ip q hq'
        refine hI.mc fun x hx => ?_
        rcases hx with rfl | ⟨h1, h2⟩ | ⟨l, hl, hz, h1, h2⟩
        · exact H2 _ (by omega)
        · exact H2 _ (by omega)
        · obtain ⟨x3, hx3, e3⟩ := hI.2.2.2.2.1
          have hset : m (130 + 645 * q + 3) = nI 1 := by
            rcases (show x3 = 0 ∨ x3 = 1 by omega) with rfl | rfl
            · have := hI.2.2.2.2.2.2.2.2.2.2.1 e3
              unfold Nn at hl
              rw [this, nCl (by omega)] at hl
              omega
            · exact e3
          obtain ⟨-, -, -, c3⟩ := hI.2.2.2.2.2.2.2.2.2.2.2 hset
          obtain ⟨-, -, -, d4⟩ := c3 l hl
          have := (d4 hz).1
          exact H2 _ (by omega)
      · rw [Nn.c (H2 4 (by omega))] at hs
        refine (Is s hs).mc (fun x hx => H2 x (by omega)) (fun x hx => H2 _ (by omega)) fun hz => ?_
        obtain ⟨-, -, -, -, -, -, -, -, -, -, -, -, -, -, -, -, a16⟩ := Is s hs
        obtain ⟨c1, c2, c3, -⟩ := a16 hz
        have := c3.1
        have := (c1.eq (by omega)).2
        exact ⟨H2 _ (by omega), H2 _ (by omega), H2 _ (by omega)⟩
      · rw [Nn.c (H2 3 (by omega))] at hk
        refine (Im k hk).mc hk f3 (fun x hx => H2 x (by omega)) (fun x h1 h2 => H2 _ (by omega)) (fun j hj y h1 h2 => ?_) (fun k' hk' => ((Im k' hk').2.2.2.1.eq (by omega)).2)
        have := ((Im k hk).2.2.2.2 j hj).2.1.1
        exact H2 _ (by omega)
      · obtain ⟨i1, i2, i3, i4⟩ := Ih
        refine ⟨fun p hp => ?_, fun e he p hp => ?_, fun i hi => ?_, fun y hy => ?_⟩
        · obtain ⟨b1, b2, b3, b4, b5⟩ := i1 p hp
          exact ⟨b1.c (H2 _ (by omega)), by rw [Nn.c (H2 _ (by omega))]; exact b2, b3.c (H2 _ (by omega)), by rw [Nn.c (H2 _ (by omega))]; exact b4, b5.c (H2 _ (by omega))⟩
        · rw [Nn.c (H2 6 (by omega))] at he
          exact (i2 e he p hp).c (H2 _ (by omega))
        · rw [Nn.c (H2 7 (by omega))] at hi
          rw [Nn.c (H2 0 (by omega)), Nn.c (H2 7 (by omega))]
          rw [hm2, if_neg (by omega), hr i hi]
          exact i3 i hi
        · rw [Nn.c (H2 5 (by omega))] at hy
          obtain ⟨b1, b2, b3, b4⟩ := i4 y hy
          exact ⟨b1.c (H2 _ (by omega)), b2.c (H2 _ (by omega)), b3.c (H2 _ (by omega)), b4.c (H2 _ (by omega))⟩
      · rw [Nn.c (H2 2 (by omega))] at hy
        exact (Iy y hy).mc fun x hx => H2 _ (by omega)
  obtain ⟨m2, k1, k2, I2⟩ := K
  obtain ⟨B2, Ip2, Is2, Im2, Ih2, Iy2, Iz2, Iq2⟩ := I2
  have v2 : ∀ q, vP m' q → vP m2 q := fun q hq => hq.c (k2 1 (by omega)).symm (fun _ => (k2 _ (by omega)).symm)
  have v3 : ∀ q, vP m2 q → vP m' q := fun q hq => hq.c (k2 1 (by omega)) (fun _ => k2 _ (by omega))
  obtain ⟨⟨-, g0⟩, ⟨-, g1⟩, ⟨-, g2⟩, ⟨-, g3⟩, ⟨-, g4⟩, ⟨-, g5⟩, ⟨-, g6⟩, ⟨-, g7⟩⟩ := B2.f
  have B' : MIb m' := by
    obtain ⟨b0, b1, b2, b3, b4, b5, b6, b7, b8, b9⟩ := B2
    refine ⟨b0.c (k2 _ (by omega)), b1.c (k2 _ (by omega)), b2.c (k2 _ (by omega)), b3.c (k2 _ (by omega)), b4.c (k2 _ (by omega)), b5.c (k2 _ (by omega)), b6.c (k2 _ (by omega)), by rw [k2 7 (by omega), Nn.c (k2 0 (by omega))]; exact b7, hw, fun s hs => ?_⟩
    rw [Nn.c (k2 1 (by omega))] at hs
    obtain ⟨c1, c2, c3, c4⟩ := b9 s hs
    exact ⟨c1.c (k2 _ (by omega)), c2.c (k2 _ (by omega)), c3.c (k2 _ (by omega)), by rw [Nn.c (k2 _ (by omega))]; exact c4⟩
  refine ⟨B', fun q hq => ?_, fun s hs => ?_, fun k hk => ?_, ?_, fun y hy => ?_, ?_, Iq2.mc (fun x hx => k2 x (by omega)) Ip2 (k2 4 (by omega)) Is2 (fun s hs x hx => k2 _ (by omega))⟩
  · refine (Ip2 q (v2 q hq)).mc fun x hx => ?_
    rcases hx with rfl | ⟨h1, h2⟩ | ⟨l, hl, hz, h1, h2⟩ <;> exact k2 _ (by omega)
  · rw [Nn.c (k2 4 (by omega))] at hs
    obtain ⟨a0, a1, a2, a3, a4, a5, a6, a7, a8, a9, a10, a11, a12, a13, a14, a15, a16⟩ := Is2 s hs
    have e : ∀ x, x < 852 → m' (64630 + 852 * s + x) = m2 (64630 + 852 * s + x) := fun x hx => k2 _ (by omega)
    have e0 : m' (64630 + 852 * s) = m2 (64630 + 852 * s) := e 0 (by omega)
    have e9 := (a11.eq (by omega)).2
    refine ⟨a0.c e0, by rw [Nn.c e0]; exact v3 _ a1, a2.c (e _ (by omega)), by rw [Nn.c (e 1 (by omega)), Nn.c (k2 3 (by omega))]; exact a3, a4.c (e _ (by omega)), by rw [Nn.c (e 2 (by omega)), Nn.c (k2 0 (by omega))]; exact a5, by rw [Nn.c (e 2 (by omega))]; exact a6, a7.c (e _ (by omega)), a8.c (e _ (by omega)), a9.c (e _ (by omega)), a10.c (e _ (by omega)), a11.c (e _ (by omega)), a12.c (e _ (by omega)), a13.c (e _ (by omega)), fun i hi => ?_, by rw [e 4 (by omega), e 5 (by omega), e 6 (by omega)]; exact a15, ?_⟩
    · rw [Nn.c (e 9 (by omega))] at hi
      exact ⟨(a14 i hi).1.c (k2 _ (by omega)), (a14 i hi).2.c (k2 _ (by omega))⟩
    · rw [e 4 (by omega)]
      intro hz
      obtain ⟨c1, c2, c3, c4, c5, c6⟩ := a16 hz
      rw [Nn.c (e 5 (by omega)), Nn.c (e 6 (by omega)), k2 (130 + 645 * Nn m2 (64630 + 852 * s + 6) + 3) (by omega), Nn.c (k2 (130 + 645 * Nn m2 (64630 + 852 * s + 6) + 4) (by omega)), k2 (130 + 645 * Nn m2 (64630 + 852 * s + 6) + 45 + Nn m2 (64630 + 852 * s + 5)) (by omega)]
      exact ⟨c1.c (e _ (by omega)), c2.c (e _ (by omega)), v3 _ c3, c4, c5, c6⟩
  · rw [Nn.c (k2 3 (by omega))] at hk
    obtain ⟨a0, a1, a2, a3, a4⟩ := Im2 k hk
    have e : ∀ x, 70 ≤ x → m' x = m2 x := fun x h1 => k2 x (by omega)
    refine ⟨fun i hi => (a0 i hi).c (e _ (by omega)), a1.c (e _ (by omega)), a2.c (e _ (by omega)), a3.c (e _ (by omega)), fun j hj2 => ?_⟩
    rw [Nn.c (e (320230 + 183 * k + 29) (by omega))] at hj2
    obtain ⟨b1, b2, b3, b4, b5, b6, b7, b8⟩ := a4 j hj2
    have e2 : m' (320230 + 183 * k + 33 + 5 * j) = m2 (320230 + 183 * k + 33 + 5 * j) := e _ (by omega)
    rw [Nn.c e2, Nn.c (e (320230 + 183 * k + 33 + 5 * j + 1) (by omega)), Nn.c (e (320230 + 183 * k + 33 + 5 * j + 2) (by omega)), e (320230 + 183 * k + 33 + 5 * j + 4) (by omega), e (320230 + 183 * k + 33 + 5 * j + 1) (by omega), e (130 + 645 * Nn m2 (320230 + 183 * k + 33 + 5 * j) + 2) (by omega), e (130 + 645 * Nn m2 (320230 + 183 * k + 33 + 5 * j) + 3) (by omega), Nn.c (e (130 + 645 * Nn m2 (320230 + 183 * k + 33 + 5 * j) + 4) (by omega)), Nn.c (k2 3 (by omega)), e2]
    refine ⟨b1.c e2, v3 _ b2, b3.c (e _ (by omega)), b4.c (e _ (by omega)), b5.c (e _ (by omega)), b6.c (e _ (by omega)), b7, fun hf => ?_⟩
    obtain ⟨c1, c2, c3, c4⟩ := b8 hf
    refine ⟨c1, c2, c3, fun k' hk' j' hj' => ?_⟩
    rw [Nn.c (e (320230 + 183 * k' + 29) (by omega))] at hj'
    rw [e (320230 + 183 * k' + 33 + 5 * j' + 4) (by omega), e (320230 + 183 * k' + 33 + 5 * j') (by omega)]
    exact c4 k' hk' j' hj'
  · exact Ih2.mc B2 (fun x hx => k2 x (by omega)) (fun x h1 h2 => k2 x (by omega))
  · rw [Nn.c (k2 2 (by omega))] at hy
    exact (Iy2 y hy).mc fun x hx => k2 _ (by omega)
  · exact Iz2.mc (fun x hx => k2 x (by omega)) (fun q h1 h2 y h3 h4 => k2 _ (by omega)) (fun q h1 h2 y h3 h4 => k2 _ (by omega))
end
