section
variable {h : Hp} {m m' : Nat → Int32}
def rgRm (x : Nat) : Prop := x < 5 ∨ x = 7 ∨ (16 ≤ x ∧ x < 326582) ∨ (337180 ≤ x ∧ x < 337220)
theorem rows.mc {r : Nat} (B : MIb m) (H0 : m' 0 = m 0 ∧ m' 4 = m 4 ∧ m' 7 = m 7) (Hr : ∀ x, 337180 ≤ x → x < 337220 → m' x = m x) (Hs : ∀ s, s < Nn m 4 → m' (64630 + 852 * s + 1) = m (64630 + 852 * s + 1) ∧ m' (64630 + 852 * s + 2) = m (64630 + 852 * s + 2))
    (S : ∀ i, i < Nn m 7 → ∀ k, k < 4 → gI h (gP h r 12) ((Nn m 0 - Nn m 7 + i) % 8 * 4 + k) = m (337180 + 5 * i + 1 + k) ∧ gI h (gP h r 13) ((Nn m 0 - Nn m 7 + i) % 8 * 4 + k) = lastS m (nI k) (nI (Nn m 0 - Nn m 7 + i + 1)) (Nn m 4)) :
    ∀ i, i < Nn m' 7 → ∀ k, k < 4 → gI h (gP h r 12) ((Nn m' 0 - Nn m' 7 + i) % 8 * 4 + k) = m' (337180 + 5 * i + 1 + k) ∧ gI h (gP h r 13) ((Nn m' 0 - Nn m' 7 + i) % 8 * 4 + k) = lastS m' (nI k) (nI (Nn m' 0 - Nn m' 7 + i + 1)) (Nn m' 4) := by
  obtain ⟨-, -, -, -, -, -, -, ⟨-, f7⟩⟩ := B.f
  intro i hi k hk
  rw [Nn.c H0.2.2] at hi
  rw [Nn.c H0.1, Nn.c H0.2.1, Nn.c H0.2.2, lastS.mc _ Hs, Hr _ (by omega) (by omega)]
  exact S i hi k hk
theorem RmV.mc {r : Nat} (H : ∀ x, rgRm x → m' x = m x) (I : MI m) (S : RmV h r m) : RmV h r m' := by
  obtain ⟨B, Ip, Is, Im, Ih, Iy, Iz⟩ := I
  obtain ⟨⟨-, f0⟩, ⟨-, f1⟩, ⟨-, f2⟩, ⟨-, f3⟩, ⟨-, f4⟩, -⟩ := B.f
  obtain ⟨a1, a2, a3, a4, a5, a6, a7, c1, c2, c3, c4, d⟩ := S
  have H16 : ∀ x, 16 ≤ x → x < 326582 → m' x = m x := fun x h1 h2 => H x (Or.inr (Or.inr (Or.inl ⟨h1, h2⟩)))
  have H5 : ∀ x, x < 5 → m' x = m x := fun x h1 => H x (Or.inl h1)
  have H7 : m' 7 = m 7 := H 7 (Or.inr (Or.inl rfl))
  refine ⟨by rw [H5 0 (by omega)]; exact a1, by rw [H5 1 (by omega)]; exact a2, by rw [H5 2 (by omega)]; exact a3, by rw [H5 3 (by omega)]; exact a4, by rw [H5 4 (by omega)]; exact a5, fun i hi => by rw [H16 _ (by omega) (by omega)]; exact a6 i hi, fun s hs => ?_, fun q hq => ?_, fun k hk => ?_, fun s hs => ?_, fun y hy => ?_, ?_⟩
  · rw [Nn.c (H5 1 (by omega))] at hs
    rw [H16 _ (by omega) (by omega)]; exact a7 s hs
  · have hq' : vP m q := hq.c (H5 1 (by omega)).symm (fun z => (H16 _ (by omega) (by have := hq.1; omega)).symm)
    have hb := hq.1
    refine ⟨(c1 q hq').1, (c1 q hq').2.mc (fun x hx => ?_) (Ip q hq')⟩
    rcases hx with rfl | rfl | ⟨h1, h2⟩ <;> exact H16 _ (by omega) (by omega)
  · rw [Nn.c (H5 3 (by omega))] at hk
    obtain ⟨-, -, -, i3, ij⟩ := Im k hk
    refine ⟨(c2 k hk).1, (c2 k hk).2.mc (fun x hx => ?_) i3⟩
    rcases hx with ⟨h1, h2⟩ | ⟨j, hj, hx⟩
    · exact H16 _ (by omega) (by omega)
    · have hb := (ij j hj).2.1.1
      rcases hx with rfl | rfl <;> exact H16 _ (by omega) (by omega)
  · rw [Nn.c (H5 4 (by omega))] at hs
    have hi := Is s hs
    have hb := hi.2.1.1
    refine ⟨(c3 s hs).1, (c3 s hs).2.mc (fun x hx => ?_) hi.2.2.2.2.2.2.2.2.2.2.2.1⟩
    rcases hx with ⟨h1, h2⟩ | rfl <;> exact H16 _ (by omega) (by omega)
  · rw [Nn.c (H5 2 (by omega))] at hy
    exact ⟨(c4 y hy).1, (c4 y hy).2.mc (fun x hx => H16 _ (by omega) (by omega)) (Iy y hy).2.1⟩
  · exact rows.mc B ⟨H5 0 (by omega), H5 4 (by omega), H7⟩ (fun x h1 h2 => H x (Or.inr (Or.inr (Or.inr ⟨h1, h2⟩)))) (fun s hs => ⟨H16 _ (by omega) (by omega), H16 _ (by omega) (by omega)⟩) d
def rgDk (x : Nat) : Prop := x = 5 ∨ x = 6 ∨ (326582 ≤ x ∧ x < 337180)
theorem DkV.mc {d : Nat} (H : ∀ x, rgDk x → m' x = m x) (B : MIb m) (I : MIh m) (S : DkV h d m) : DkV h d m' := by
  obtain ⟨-, -, -, -, -, ⟨-, f5⟩, ⟨-, f6⟩, -⟩ := B.f
  obtain ⟨i1, i2, -, -⟩ := I
  obtain ⟨a1, a2, a3, a4, a5⟩ := S
  have H5 : m' 5 = m 5 := H 5 (Or.inl rfl)
  have H6 : m' 6 = m 6 := H 6 (Or.inr (Or.inl rfl))
  have HH : ∀ x, 326582 ≤ x → x < 337180 → m' x = m x := fun x h1 h2 => H x (Or.inr (Or.inr ⟨h1, h2⟩))
  refine ⟨by rw [H6]; exact a1, by rw [H5]; exact a2, fun p hp => ?_, fun e he p hp => ?_, fun t ht => ?_⟩
  · obtain ⟨b1, b2, b3, b4, b5, b6, b7⟩ := a3 p hp
    have ob := ((i1 p hp).2.2.2.2.eq (by omega)).2
    rw [HH (327382 + 185 * p) (by omega) (by omega), HH (327382 + 185 * p + 1) (by omega) (by omega), HH (327382 + 185 * p + 3) (by omega) (by omega), HH (327382 + 185 * p + 4) (by omega) (by omega), Nn.c (HH (327382 + 185 * p + 2) (by omega) (by omega)), HH (327382 + 185 * p + 2) (by omega) (by omega)]
    exact ⟨b1, b2, b3, b4, b5, b6, fun i hi => by rw [HH _ (by omega) (by omega)]; exact b7 i hi⟩
  · rw [Nn.c H6] at he
    obtain ⟨b1, b2, b3⟩ := a4 e he p hp
    have ob := ((i2 e he p hp).eq (by omega)).2
    rw [Nn.c (HH (328492 + 181 * (6 * e + p)) (by omega) (by omega)), HH (328492 + 181 * (6 * e + p)) (by omega) (by omega)]
    exact ⟨b1, b2, fun i hi => by rw [HH _ (by omega) (by omega)]; exact b3 i hi⟩
  · rw [Nn.c H5] at ht
    rw [HH (326582 + 4 * t) (by omega) (by omega), HH (326582 + 4 * t + 1) (by omega) (by omega), HH (326582 + 4 * t + 2) (by omega) (by omega), HH (326582 + 4 * t + 3) (by omega) (by omega)]
    exact a5 t ht
/-- the desk's part of the memory is written: the rest is kept -/
theorem MI.desk (H : ∀ x, x < 5 ∨ (7 ≤ x ∧ x < 326582) ∨ (337180 ≤ x ∧ x < 337220) → m' x = m x) (I : MI m) (h5 : oN m' 5 200) (h6 : oN m' 6 8) (Ih : MIh m') : MI m' := by
  obtain ⟨B, Ip, Is, Im, -, Iy, Iz, Iq⟩ := I
  obtain ⟨⟨-, f0⟩, ⟨-, f1⟩, ⟨-, f2⟩, ⟨-, f3⟩, ⟨-, f4⟩, -⟩ := B.f
  have H7 : ∀ x, 7 ≤ x → x < 326582 → m' x = m x := fun x h1 h2 => H x (Or.inr (Or.inl ⟨h1, h2⟩))
  have H5 : ∀ x, x < 5 → m' x = m x := fun x h1 => H x (Or.inl h1)
  -- a memory that is m' but for the two numbers
  have B' : MIb m' := by
    obtain ⟨b0, b1, b2, b3, b4, b5, b6, b7, b8, b9⟩ := B
    refine ⟨b0.c (H5 _ (by omega)), b1.c (H5 _ (by omega)), b2.c (H5 _ (by omega)), b3.c (H5 _ (by omega)), b4.c (H5 _ (by omega)), h5, h6, by rw [H7 7 (by omega) (by omega), Nn.c (H5 0 (by omega))]; exact b7, fun i hi => ⟨(b8 i hi).1.c (H7 _ (by omega) (by omega)), by rw [Nn.c (H7 _ (by omega) (by omega))]; exact (b8 i hi).2⟩, fun s hs => ?_⟩
    rw [Nn.c (H5 1 (by omega))] at hs
    obtain ⟨c1, c2, c3, c4⟩ := b9 s hs
    exact ⟨c1.c (H7 _ (by omega) (by omega)), c2.c (H7 _ (by omega) (by omega)), c3.c (H7 _ (by omega) (by omega)), by rw [Nn.c (H7 _ (by omega) (by omega))]; exact c4⟩
  have vp : ∀ q, vP m' q → vP m q := fun q hq => hq.c (H5 1 (by omega)).symm (fun _ => (H7 _ (by omega) (by have := hq.1; omega)).symm)
  have vp2 : ∀ q, vP m q → vP m' q := fun q hq => hq.c (H5 1 (by omega)) (fun _ => H7 _ (by omega) (by have := hq.1; omega))
  refine ⟨B', fun q hq => ?_, fun s hs => ?_, fun k hk => ?_, Ih, fun y hy => ?_, ?_, Iq.mc (fun x hx => H x (by omega)) Ip (H 4 (by omega)) Is (fun s hs x hx => H _ (by omega))⟩
  · have hq' := vp q hq
    have hI := Ip q hq'
    refine hI.mc (fun x hx => ?_)
    have hb := hq.1
    rcases hx with rfl | ⟨h1, h2⟩ | ⟨l, hl, hz, h1, h2⟩
    · exact H5 _ (by omega)
    · exact H7 _ (by omega) (by omega)
    · obtain ⟨x3, hx3, e3⟩ := hI.2.2.2.2.1
      have hset : m (130 + 645 * q + 3) = nI 1 := by
        rcases (show x3 = 0 ∨ x3 = 1 by omega) with rfl | rfl
        · have := hI.2.2.2.2.2.2.2.2.2.2.1 e3
          unfold Nn at hl
          rw [this, nCl (by omega)] at hl
          omega
        · exact e3
      obtain ⟨-, -, -, c3⟩ := hI.2.2.2.2.2.2.2.2.2.2.2 hset
      obtain ⟨-, -, -, d4⟩ := c3 l hl
      have := (d4 hz).1
      exact H7 _ (by omega) (by omega)
  · rw [Nn.c (H5 4 (by omega))] at hs
    have hI := Is s hs
    obtain ⟨a0, a1, a2, a3, a4, a5, a6, a7, a8, a9, a10, a11, a12, a13, a14, a15, a16⟩ := hI
    have v1 := vp2 _ a1
    have e : ∀ x, x < 852 → m' (64630 + 852 * s + x) = m (64630 + 852 * s + x) := fun x hx => H7 _ (by omega) (by omega)
    have e0 : m' (64630 + 852 * s) = m (64630 + 852 * s) := e 0 (by omega)
    have e9 := (a11.eq (by omega)).2
    refine ⟨a0.c e0, by rw [Nn.c e0]; exact v1, a2.c (e _ (by omega)), by rw [Nn.c (e 1 (by omega)), Nn.c (H5 3 (by omega))]; exact a3, a4.c (e _ (by omega)), by rw [Nn.c (e 2 (by omega)), Nn.c (H5 0 (by omega))]; exact a5, by rw [Nn.c (e 2 (by omega))]; exact a6, a7.c (e _ (by omega)), a8.c (e _ (by omega)), a9.c (e _ (by omega)), a10.c (e _ (by omega)), a11.c (e _ (by omega)), a12.c (e _ (by omega)), a13.c (e _ (by omega)), fun i hi => ?_, by rw [e 4 (by omega), e 5 (by omega), e 6 (by omega)]; exact a15, ?_⟩
    · rw [Nn.c (e 9 (by omega))] at hi
      exact ⟨(a14 i hi).1.c (H7 _ (by omega) (by omega)), (a14 i hi).2.c (H7 _ (by omega) (by omega))⟩
    · rw [e 4 (by omega)]
      intro hz
      obtain ⟨c1, c2, c3, c4, c5, c6⟩ := a16 hz
      have hb := c3.1
      have hb2 := (c1.eq (by omega)).2
      rw [Nn.c (e 5 (by omega)), Nn.c (e 6 (by omega)), H7 (130 + 645 * Nn m (64630 + 852 * s + 6) + 3) (by omega) (by omega), Nn.c (H7 (130 + 645 * Nn m (64630 + 852 * s + 6) + 4) (by omega) (by omega)), H7 (130 + 645 * Nn m (64630 + 852 * s + 6) + 45 + Nn m (64630 + 852 * s + 5)) (by omega) (by omega)]
      exact ⟨c1.c (e _ (by omega)), c2.c (e _ (by omega)), vp2 _ c3, c4, c5, c6⟩
  · rw [Nn.c (H5 3 (by omega))] at hk
    have hI := Im k hk
    obtain ⟨a0, a1, a2, a3, a4⟩ := hI
    have e : ∀ x, 320230 ≤ x → x < 320962 → m' x = m x := fun x h1 h2 => H7 x (by omega) (by omega)
    have hn := (a3.eq (by omega)).2
    refine ⟨fun i hi => (a0 i hi).c (e _ (by omega) (by omega)), a1.c (e _ (by omega) (by omega)), a2.c (e _ (by omega) (by omega)), a3.c (e _ (by omega) (by omega)), fun j hj2 => ?_⟩
    rw [Nn.c (e (320230 + 183 * k + 29) (by omega) (by omega))] at hj2
    obtain ⟨b1, b2, b3, b4, b5, b6, b7, b8⟩ := a4 j hj2
    have hb := b2.1
    have e2 : m' (320230 + 183 * k + 33 + 5 * j) = m (320230 + 183 * k + 33 + 5 * j) := e _ (by omega) (by omega)
    have e3 : ∀ y, 1 ≤ y → y < 5 → m' (320230 + 183 * k + 33 + 5 * j + y) = m (320230 + 183 * k + 33 + 5 * j + y) := fun y h1 h2 => e _ (by omega) (by omega)
    rw [Nn.c e2, Nn.c (e3 1 (by omega) (by omega)), Nn.c (e3 2 (by omega) (by omega)), e3 4 (by omega) (by omega), e3 1 (by omega) (by omega), H7 (130 + 645 * Nn m (320230 + 183 * k + 33 + 5 * j) + 2) (by omega) (by omega), H7 (130 + 645 * Nn m (320230 + 183 * k + 33 + 5 * j) + 3) (by omega) (by omega), Nn.c (H7 (130 + 645 * Nn m (320230 + 183 * k + 33 + 5 * j) + 4) (by omega) (by omega)), Nn.c (H5 3 (by omega)), e2]
    refine ⟨b1.c e2, vp2 _ b2, b3.c (e3 1 (by omega) (by omega)), b4.c (e3 2 (by omega) (by omega)), b5.c (e3 3 (by omega) (by omega)), b6.c (e3 4 (by omega) (by omega)), b7, fun hf => ?_⟩
    obtain ⟨c1, c2, c3, c4⟩ := b8 hf
    refine ⟨c1, c2, c3, fun k' hk' j' hj' => ?_⟩
    have h30 := ((Im k' hk').2.2.2.1.eq (by omega)).2
    rw [Nn.c (e (320230 + 183 * k' + 29) (by omega) (by omega))] at hj'
    rw [e (320230 + 183 * k' + 33 + 5 * j' + 4) (by omega) (by omega), e (320230 + 183 * k' + 33 + 5 * j') (by omega) (by omega)]
    exact c4 k' hk' j' hj'
  · rw [Nn.c (H5 2 (by omega))] at hy
    exact (Iy y hy).mc (fun x hx => H7 _ (by omega) (by omega))
  · refine ⟨fun q h1 h2 => ?_, fun k h1 h2 i h3 h4 => ?_⟩
    · rw [Nn.c (H5 1 (by omega))] at h2
      rw [H7 (130 + 645 * q + 2) (by omega) (by omega), H7 (130 + 645 * q + 3) (by omega) (by omega), H7 (130 + 645 * q + 4) (by omega) (by omega)]
      exact Iz.1 q h1 h2
    · rw [Nn.c (H5 3 (by omega))] at h1
      rw [H7 _ (by omega) (by omega)]
      exact Iz.2 k h1 h2 i h3 h4
end
