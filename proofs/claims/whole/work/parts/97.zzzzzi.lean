/-! correct: slugs lie elsewhere: what the memory keeps -/
section
variable {m M M2 : Nat → Int32} {q op ol nl sm d s l y : Nat}
theorem pm_mi (I : MI m) (vq : vP m q) (H : ∀ y, (y < 130 + 645 * q + 1 ∨ 130 + 645 * q + 645 ≤ y ∨ y = 130 + 645 * q + 2 ∨ y = 130 + 645 * q + 3) → ¬ slX y → M y = m y) (J : ∀ k, k < Nn m 3 → ∀ j, j < Nn m (320230 + 183 * k + 29) → Nn m (320230 + 183 * k + 33 + 5 * j) ≠ q) (P : MIp M q) (Q : MIq1 M q) (e3 : M (130 + 645 * q + 3) = nI 1) (Sl : ∀ s, s < Nn m 4 → ((m (64630 + 852 * s + 4) = nI 0 ∧ Nn m (64630 + 852 * s + 6) = q) → oN M (64630 + 852 * s + 4) 2 ∧ (M (64630 + 852 * s + 4) ≠ nI 0 → M (64630 + 852 * s + 5) = -1 ∧ M (64630 + 852 * s + 6) = -1) ∧ (M (64630 + 852 * s + 4) = nI 0 → oN M (64630 + 852 * s + 5) 39 ∧ M (64630 + 852 * s + 6) = nI q ∧ Nn M (64630 + 852 * s + 5) < Nn M (130 + 645 * q + 4) ∧ M (130 + 645 * q + 45 + Nn M (64630 + 852 * s + 5)) = nI (s + 1))) ∧ (¬ (m (64630 + 852 * s + 4) = nI 0 ∧ Nn m (64630 + 852 * s + 6) = q) → M (64630 + 852 * s + 4) = m (64630 + 852 * s + 4) ∧ M (64630 + 852 * s + 5) = m (64630 + 852 * s + 5) ∧ M (64630 + 852 * s + 6) = m (64630 + 852 * s + 6))) : MI M := by
  obtain ⟨B, Ip, Is, Im, Ih, Iy, Iz, Iq⟩ := I
  obtain ⟨⟨-, f0⟩, ⟨-, f1⟩, ⟨-, f2⟩, ⟨-, f3⟩, ⟨-, f4⟩, -⟩ := B.f
  have q1 := vq.1
  have Hb : ∀ x, x < 130 → M x = m x := fun x hx => H x (by omega) (by unfold slX; omega)
  have hi : ∀ y, 320230 ≤ y → M y = m y := fun y h1 => H y (by omega) (by unfold slX; omega)
  have ot : ∀ q', q' < 100 → q' ≠ q → ∀ x, x < 645 → M (130 + 645 * q' + x) = m (130 + 645 * q' + x) := fun q' h0 hq x hx => H _ (by omega) (by unfold slX; omega)
  have es : ∀ s x, s < 300 → x < 852 → ¬ (4 ≤ x ∧ x ≤ 6) → M (64630 + 852 * s + x) = m (64630 + 852 * s + x) := fun s x h0 hx hn => H _ (by omega) (by unfold slX; omega)
  refine ⟨B.mc Hb, fun q' hq => ?_, fun s hs => ?_, fun k hk => ?_, Ih.mc B (fun x hx => Hb x (by omega)) (fun x h1 h2 => hi x (by omega)), fun y hy => ?_, Iz.mc (fun x hx => Hb x (by omega)) (fun q' h1 h2 y h3 h4 => ?_) (fun k h1 h2 j h3 h4 => hi _ (by omega)), fun q' hq hs => ?_, ?_⟩
  · have hq' := hq.b' Hb
    by_cases z : q' = q
    · rw [z]; exact P
    · have hI := Ip q' hq'
      refine hI.mc fun x hx => ?_
      rcases hx with rfl | ⟨h1, h2⟩ | ⟨l, hl, hz, h1, h2⟩
      · exact Hb _ (by omega)
      · have := ot q' hq'.1 z (x - (130 + 645 * q')) (by omega)
        rwa [show 130 + 645 * q' + (x - (130 + 645 * q')) = x by omega] at this
      · obtain ⟨x3, hx3, e3'⟩ := hI.2.2.2.2.1
        have u3 : m (130 + 645 * q' + 3) = nI 1 := by
          rcases (show x3 = 0 ∨ x3 = 1 by omega) with rfl | rfl
          · have := hI.2.2.2.2.2.2.2.2.2.2.1 e3'
            unfold Nn at hl
            rw [this, nCl (by omega)] at hl
            omega
          · exact e3'
        obtain ⟨-, -, -, c3⟩ := hI.2.2.2.2.2.2.2.2.2.2.2 u3
        obtain ⟨-, c4, -, c5⟩ := c3 l hl
        obtain ⟨d1, d2, d3, d4⟩ := c5 hz
        obtain ⟨a1, a2⟩ := c4.eq (by omega)
        have a0 : Nn m (130 + 645 * q' + 45 + l) ≠ 0 := fun z => hz (by rw [a1, z])
        have hb := hq'.1
        obtain ⟨k1, k2, k3⟩ := (Sl (Nn m (130 + 645 * q' + 45 + l) - 1) (by omega)).2 (fun z' => by
          obtain ⟨-, z2⟩ := z'
          unfold Nn at z2
          unfold Nn at d4
          rw [d4, nCl (by omega)] at z2
          exact z z2)
        rcases (show x = 64630 + 852 * (Nn m (130 + 645 * q' + 45 + l) - 1) + 4 ∨ x = 64630 + 852 * (Nn m (130 + 645 * q' + 45 + l) - 1) + 5 ∨ x = 64630 + 852 * (Nn m (130 + 645 * q' + 45 + l) - 1) + 6 by omega) with rfl | rfl | rfl
        · exact k1
        · exact k2
        · exact k3
  · rw [Nn.c (Hb 4 (by omega))] at hs
    obtain ⟨a0, a1, a2, a3, a4, a5, a6, a7, a8, a9, a10, a11, a12, a13, a14, a15, a16⟩ := Is s hs
    have e : ∀ x, x < 852 → ¬ (4 ≤ x ∧ x ≤ 6) → M (64630 + 852 * s + x) = m (64630 + 852 * s + x) := fun x hx hn => es s x (by omega) hx hn
    have e0 : M (64630 + 852 * s) = m (64630 + 852 * s) := e 0 (by omega) (by omega)
    have e9 := (a11.eq (by omega)).2
    obtain ⟨k1, k2⟩ := Sl s hs
    have T : oN M (64630 + 852 * s + 4) 2 ∧ (M (64630 + 852 * s + 4) ≠ nI 0 → M (64630 + 852 * s + 5) = -1 ∧ M (64630 + 852 * s + 6) = -1) ∧ (M (64630 + 852 * s + 4) = nI 0 → oN M (64630 + 852 * s + 5) 39 ∧ oN M (64630 + 852 * s + 6) 99 ∧ vP M (Nn M (64630 + 852 * s + 6)) ∧ M (130 + 645 * Nn M (64630 + 852 * s + 6) + 3) = nI 1 ∧ Nn M (64630 + 852 * s + 5) < Nn M (130 + 645 * Nn M (64630 + 852 * s + 6) + 4) ∧ M (130 + 645 * Nn M (64630 + 852 * s + 6) + 45 + Nn M (64630 + 852 * s + 5)) = nI (s + 1)) := by
      by_cases z : m (64630 + 852 * s + 4) = nI 0 ∧ Nn m (64630 + 852 * s + 6) = q
      · obtain ⟨t1, t2, t3⟩ := k1 z
        refine ⟨t1, t2, fun hz => ?_⟩
        obtain ⟨c1, c2, c3, c4⟩ := t3 hz
        have n6 : Nn M (64630 + 852 * s + 6) = q := by unfold Nn; rw [c2, nCl (by omega)]
        rw [n6]
        exact ⟨c1, ⟨q, by omega, c2⟩, vq.b Hb, e3, c3, c4⟩
      · obtain ⟨t1, t2, t3⟩ := k2 z
        refine ⟨a8.c t1, fun hz => by rw [t1] at hz; rw [t2, t3]; exact a15 hz, fun hz => ?_⟩
        rw [t1] at hz
        obtain ⟨c1, c2, c3, c4, c5, c6⟩ := a16 hz
        have nq : Nn m (64630 + 852 * s + 6) ≠ q := fun e => z ⟨hz, e⟩
        have c1b := (c1.eq (by omega)).2
        have o := fun x hx => ot _ c3.1 nq x hx
        have o45 := o (45 + Nn m (64630 + 852 * s + 5)) (by omega)
        rw [← Nat.add_assoc] at o45
        rw [Nn.c t3, Nn.c t2, o 3 (by omega), Nn.c (o 4 (by omega)), o45]
        exact ⟨c1.c t2, c2.c t3, c3.b Hb, c4, c5, c6⟩
    refine ⟨a0.c e0, by rw [Nn.c e0]; exact a1.b Hb, a2.c (e _ (by omega) (by omega)), by rw [Nn.c (e 1 (by omega) (by omega)), Nn.c (Hb 3 (by omega))]; exact a3, a4.c (e _ (by omega) (by omega)), by rw [Nn.c (e 2 (by omega) (by omega)), Nn.c (Hb 0 (by omega))]; exact a5, by rw [Nn.c (e 2 (by omega) (by omega))]; exact a6, a7.c (e _ (by omega) (by omega)), T.1, a9.c (e _ (by omega) (by omega)), a10.c (e _ (by omega) (by omega)), a11.c (e _ (by omega) (by omega)), a12.c (e _ (by omega) (by omega)), a13.c (e _ (by omega) (by omega)), fun j hj => ?_, T.2.1, T.2.2⟩
    rw [Nn.c (e 9 (by omega) (by omega))] at hj
    have h1 := e (12 + j) (by omega) (by omega)
    have h2 := e (432 + j) (by omega) (by omega)
    rw [← Nat.add_assoc] at h1 h2
    exact ⟨(a14 j hj).1.c h1, (a14 j hj).2.c h2⟩
  · rw [Nn.c (Hb 3 (by omega))] at hk
    refine (Im k hk).mc hk f3 Hb (fun x h1 h2 => hi _ (by omega)) (fun j hj y h1 h2 => ?_) (fun k' hk' => ((Im k' hk').2.2.2.1.eq (by omega)).2)
    have := ((Im k hk).2.2.2.2 j hj).2.1.1
    exact ot _ this (J k hk j hj) y (by omega)
  · rw [Nn.c (Hb 2 (by omega))] at hy
    exact (Iy y hy).mc fun x hx => hi _ (by omega)
  · by_cases z : q' = q
    · rw [z] at h2
      have := vq.2.1
      omega
    · exact ot _ h1 z y (by omega)
  · have hq' := hq.b' Hb
    by_cases z : q' = q
    · rw [z] at hs ⊢; exact Q hs
    · exact mq_1 (fun x hx => ot _ hq'.1 z x (by omega)) (Ip q' hq') (Iq.1 q' hq') hs
  · exact Iq.2.mc (Hb 4 (by omega)) Is (fun s hs x hx => es s x (by omega) (by omega) (by omega))
end
