/-! a story: what the memory keeps -/
section
variable {m M : Nat → Int32} {q k S fc du : Nat} {s : TX} {u v : Int32}
theorem mq_1 (e : ∀ x, x < 645 → M (130 + 645 * q + x) = m (130 + 645 * q + x)) (Ip : MIp m q) (I : m (130 + 645 * q + 3) = nI 1 → ∀ l, l < Nn m (130 + 645 * q + 4) → lsN m q (Nn m (130 + 645 * q + 5 + l) + 1) + Nn m (130 + 645 * q + 85 + Nn m (130 + 645 * q + 5 + l)) ≤ 400 + lsN m q (bgN m q l) + Nn m (130 + 645 * q + 85 + bgN m q l)) : M (130 + 645 * q + 3) = nI 1 → ∀ l, l < Nn M (130 + 645 * q + 4) → lsN M q (Nn M (130 + 645 * q + 5 + l) + 1) + Nn M (130 + 645 * q + 85 + Nn M (130 + 645 * q + 5 + l)) ≤ 400 + lsN M q (bgN M q l) + Nn M (130 + 645 * q + 85 + bgN M q l) := by
  intro hs l hl
  rw [e 3 (by omega)] at hs
  rw [Nn.c (e 4 (by omega))] at hl
  have J := I hs l hl
  obtain ⟨-, -, -, -, -, o4, -, -, -, -, -, os⟩ := Ip
  obtain ⟨-, o4b⟩ := o4.eq (by omega)
  obtain ⟨-, -, -, c3⟩ := os hs
  have ee : ∀ l, l < Nn m (130 + 645 * q + 4) → Nn M (130 + 645 * q + 5 + l) = Nn m (130 + 645 * q + 5 + l) ∧ Nn m (130 + 645 * q + 5 + l) ≤ 39 := fun l hl => by
    have := e (5 + l) (by omega)
    rw [← Nat.add_assoc] at this
    exact ⟨Nn.c this, ((c3 l hl).1.eq (by omega)).2⟩
  have ew : ∀ b, b < 41 → Nn M (130 + 645 * q + 85 + b) = Nn m (130 + 645 * q + 85 + b) := fun b hb => by
    have := e (85 + b) (by omega)
    rw [← Nat.add_assoc] at this
    exact Nn.c this
  have el : ∀ k, k < 41 → lsN M q k = lsN m q k := fun k hk => lsN.mc k (fun x hx => by
    have := e (125 + x) (by omega)
    rwa [← Nat.add_assoc] at this)
  have eg : bgN M q l = bgN m q l ∧ bgN m q l < 41 := by
    unfold bgN
    by_cases z : l = 0
    · rw [if_pos z, if_pos z]; exact ⟨rfl, by omega⟩
    · obtain ⟨c1, c2⟩ := ee (l - 1) (by omega)
      rw [if_neg z, if_neg z, c1]; exact ⟨rfl, by omega⟩
  obtain ⟨d1, d2⟩ := ee l hl
  rw [d1, eg.1, el _ (by omega), el _ eg.2, ew _ (by omega), ew _ eg.2]
  exact J
theorem sy_mi0 (I : MI m) (hS : S = Nn m 1) (S20 : S < 20) (k5 : k < 5) (hf : fc ≤ 1) (hd : du ≤ 600) (L : ∀ y, y ≠ 1 → y ≠ 70 + S → y ≠ 90 + S → y ≠ 110 + S → (y < 130 + 645 * (5 * S) ∨ 3355 + 3225 * S ≤ y) → M y = m y) (H1 : M 1 = nI (S + 1)) (H70 : M (70 + S) = nI fc) (H90 : M (90 + S) = nI du) (H110 : M (110 + S) = nI (k + 1)) (NP : ∀ j, j ≤ k → MIp M (5 * S + j) ∧ M (130 + 645 * (5 * S + j) + 3) = nI 0) : MI M := by
  obtain ⟨B, Ip, Is, Im, Ih, Iy, Iz, Iq⟩ := I
  obtain ⟨⟨-, f0⟩, ⟨-, f1⟩, ⟨-, f2⟩, ⟨-, f3⟩, ⟨-, f4⟩, -⟩ := B.f
  have n1 : Nn M 1 = S + 1 := by unfold Nn; rw [H1, nCl (by omega)]
  have lo : ∀ y, y ≠ 1 → y < 70 → M y = m y := fun y h1 h2 => L y h1 (by omega) (by omega) (by omega) (by omega)
  have hi' : ∀ y, 64630 ≤ y → M y = m y := fun y h1 => L y (by omega) (by omega) (by omega) (by omega) (by omega)
  have old : ∀ q, q / 5 < S → ∀ y, (y = 70 + q / 5 ∨ y = 90 + q / 5 ∨ y = 110 + q / 5 ∨ (130 + 645 * q ≤ y ∧ y < 130 + 645 * q + 645)) → M y = m y := fun q hq y hy => by
    have : q < 5 * S := by omega
    exact L y (by omega) (by omega) (by omega) (by omega) (by omega)
  have vpM : ∀ q, vP m q → vP M q := fun q hq => by
    obtain ⟨q1, q2, q3⟩ := hq
    rw [← hS] at q2
    have e := old q q2 (110 + q / 5) (Or.inr (Or.inr (Or.inl rfl)))
    exact ⟨q1, by omega, by rw [Nn.c e]; exact q3⟩
  have vpm : ∀ q, vP M q → (q / 5 < S ∧ vP m q) ∨ ∃ j, j ≤ k ∧ q = 5 * S + j := fun q hq => by
    obtain ⟨q1, q2, q3⟩ := hq
    by_cases z : q / 5 < S
    · have e := old q z (110 + q / 5) (Or.inr (Or.inr (Or.inl rfl)))
      exact Or.inl ⟨z, q1, by omega, by rw [← Nn.c e]; exact q3⟩
    · have qS : q / 5 = S := by omega
      have e110 : Nn M (110 + q / 5) = k + 1 := by
        unfold Nn
        rw [qS, H110, nCl (by omega)]
      rw [e110] at q3
      exact Or.inr ⟨q % 5, by omega, by omega⟩
  have lines : ∀ q, vP m q → ∀ l, l < Nn m (130 + 645 * q + 4) → m (130 + 645 * q + 3) = nI 1 := fun q hq l hl => by
    have hI := Ip q hq
    obtain ⟨x3, hx3, e3⟩ := hI.2.2.2.2.1
    rcases (show x3 = 0 ∨ x3 = 1 by omega) with rfl | rfl
    · have := hI.2.2.2.2.2.2.2.2.2.2.1 e3
      unfold Nn at hl
      rw [this, nCl (by omega)] at hl
      omega
    · exact e3
  refine ⟨?_, fun q hq => ?_, fun s hs => ?_, fun k hk => ?_, ?_, fun y hy => ?_, ?_, ?_, ?_⟩
  · obtain ⟨b0, b1, b2, b3, b4, b5, b6, b7, b8, b9⟩ := B
    refine ⟨b0.c (lo 0 (by omega) (by omega)), ⟨S + 1, by omega, H1⟩, b2.c (lo 2 (by omega) (by omega)), b3.c (lo 3 (by omega) (by omega)), b4.c (lo 4 (by omega) (by omega)), b5.c (lo 5 (by omega) (by omega)), b6.c (lo 6 (by omega) (by omega)), by rw [lo 7 (by omega) (by omega), Nn.c (lo 0 (by omega) (by omega))]; exact b7, fun j hj => ?_, fun s hs => ?_⟩
    · have e := lo (16 + j) (by omega) (by omega)
      exact ⟨(b8 j hj).1.c e, by rw [Nn.c e]; exact (b8 j hj).2⟩
    · rw [n1] at hs
      by_cases z : s = S
      · rw [z]
        refine ⟨⟨fc, hf, H70⟩, ⟨du, hd, H90⟩, ⟨k + 1, by omega, H110⟩, ?_⟩
        unfold Nn
        rw [H110, nCl (by omega)]
        omega
      · obtain ⟨c1, c2, c3, c4⟩ := b9 s (by omega)
        have e5 : 5 * s / 5 = s := by omega
        have o1 := old (5 * s) (by omega) (70 + s) (Or.inl (by omega))
        have o2 := old (5 * s) (by omega) (90 + s) (Or.inr (Or.inl (by omega)))
        have o3 := old (5 * s) (by omega) (110 + s) (Or.inr (Or.inr (Or.inl (by omega))))
        exact ⟨c1.c o1, c2.c o2, c3.c o3, by rw [Nn.c o3]; exact c4⟩
  · rcases vpm q hq with ⟨z, hq'⟩ | ⟨j, hj, rfl⟩
    · have hI := Ip q hq'
      refine hI.mc fun x hx => ?_
      rcases hx with rfl | ⟨h1, h2⟩ | ⟨l, hl, hz, h1, h2⟩
      · exact lo _ (by omega) (by omega)
      · exact old q z x (Or.inr (Or.inr (Or.inr ⟨h1, h2⟩)))
      · obtain ⟨-, -, -, c3⟩ := hI.2.2.2.2.2.2.2.2.2.2.2 (lines q hq' l hl)
        obtain ⟨-, -, -, d4⟩ := c3 l hl
        have := (d4 hz).1
        exact hi' _ (by omega)
    · exact (NP j hj).1
  · rw [Nn.c (lo 4 (by omega) (by omega))] at hs
    obtain ⟨a0, a1, a2, a3, a4, a5, a6, a7, a8, a9, a10, a11, a12, a13, a14, a15, a16⟩ := Is s hs
    have e : ∀ x, x < 852 → M (64630 + 852 * s + x) = m (64630 + 852 * s + x) := fun x hx => hi' _ (by omega)
    have e0 : M (64630 + 852 * s) = m (64630 + 852 * s) := e 0 (by omega)
    have e9 := (a11.eq (by omega)).2
    refine ⟨a0.c e0, by rw [Nn.c e0]; exact vpM _ a1, a2.c (e _ (by omega)), by rw [Nn.c (e 1 (by omega)), Nn.c (lo 3 (by omega) (by omega))]; exact a3, a4.c (e _ (by omega)), by rw [Nn.c (e 2 (by omega)), Nn.c (lo 0 (by omega) (by omega))]; exact a5, by rw [Nn.c (e 2 (by omega))]; exact a6, a7.c (e _ (by omega)), a8.c (e _ (by omega)), a9.c (e _ (by omega)), a10.c (e _ (by omega)), a11.c (e _ (by omega)), a12.c (e _ (by omega)), a13.c (e _ (by omega)), fun j hj => ?_, fun hz => ?_, fun hz => ?_⟩
    · rw [Nn.c (e 9 (by omega))] at hj
      have h1 := e (12 + j) (by omega)
      have h2 := e (432 + j) (by omega)
      rw [← Nat.add_assoc] at h1 h2
      exact ⟨(a14 j hj).1.c h1, (a14 j hj).2.c h2⟩
    · rw [e 4 (by omega)] at hz
      rw [e 5 (by omega), e 6 (by omega)]
      exact a15 hz
    · rw [e 4 (by omega)] at hz
      obtain ⟨c1, c2, c3, c4, c5, c6⟩ := a16 hz
      have c1b := (c1.eq (by omega)).2
      have o := fun y hy => old _ (by rw [hS]; exact c3.2.1) y (Or.inr (Or.inr (Or.inr hy)))
      rw [Nn.c (e 6 (by omega)), Nn.c (e 5 (by omega)), o (130 + 645 * Nn m (64630 + 852 * s + 6) + 3) (by omega), Nn.c (o (130 + 645 * Nn m (64630 + 852 * s + 6) + 4) (by omega)), o (130 + 645 * Nn m (64630 + 852 * s + 6) + 45 + Nn m (64630 + 852 * s + 5)) (by omega)]
      exact ⟨c1.c (e 5 (by omega)), c2.c (e 6 (by omega)), vpM _ c3, c4, c5, c6⟩
  · rw [Nn.c (lo 3 (by omega) (by omega))] at hk
    have e : ∀ y, 320230 ≤ y → y < 320962 → M y = m y := fun y h1 h2 => hi' y (by omega)
    obtain ⟨a0, a1, a2, a3, a4⟩ := Im k hk
    have h30 := (a3.eq (by omega)).2
    refine ⟨fun j hj => (a0 j hj).c (e _ (by omega) (by omega)), a1.c (e _ (by omega) (by omega)), a2.c (e _ (by omega) (by omega)), a3.c (e _ (by omega) (by omega)), fun j hj => ?_⟩
    rw [Nn.c (e (320230 + 183 * k + 29) (by omega) (by omega))] at hj
    obtain ⟨c1, c2, c3', c4, c5, c6, c7, c8⟩ := a4 j hj
    have o : ∀ x, x < 5 → M (320230 + 183 * k + 33 + 5 * j + x) = m (320230 + 183 * k + 33 + 5 * j + x) := fun x hx => e _ (by omega) (by omega)
    have e0 : M (320230 + 183 * k + 33 + 5 * j) = m (320230 + 183 * k + 33 + 5 * j) := o 0 (by omega)
    have p := fun y hy => old _ (by rw [hS]; exact c2.2.1) y (Or.inr (Or.inr (Or.inr hy)))
    rw [Nn.c e0, Nn.c (o 1 (by omega)), Nn.c (o 2 (by omega)), o 1 (by omega), o 4 (by omega), p (130 + 645 * Nn m (320230 + 183 * k + 33 + 5 * j) + 2) (by omega), p (130 + 645 * Nn m (320230 + 183 * k + 33 + 5 * j) + 3) (by omega), Nn.c (p (130 + 645 * Nn m (320230 + 183 * k + 33 + 5 * j) + 4) (by omega)), Nn.c (lo 3 (by omega) (by omega)), e0]
    refine ⟨c1.c e0, vpM _ c2, c3'.c (o 1 (by omega)), c4.c (o 2 (by omega)), c5.c (o 3 (by omega)), c6.c (o 4 (by omega)), c7, fun hf => ?_⟩
    obtain ⟨d1, d2, d3, d4⟩ := c8 hf
    refine ⟨d1, d2, d3, fun k' hk3 j' hj' h4 h0 => ?_⟩
    have h30' := ((Im k' hk3).2.2.2.1.eq (by omega)).2
    rw [Nn.c (e (320230 + 183 * k' + 29) (by omega) (by omega))] at hj'
    rw [e _ (by omega) (by omega)] at h4 h0
    exact d4 k' hk3 j' hj' h4 h0
  · obtain ⟨i1, i2, i3, i4⟩ := Ih
    obtain ⟨-, -, -, -, -, ⟨-, f5⟩, ⟨-, f6⟩, ⟨-, f7⟩⟩ := B.f
    refine ⟨fun p hp => ?_, fun e he p hp => ?_, fun i hi => ?_, fun t ht => ?_⟩
    · obtain ⟨c1, c2, c3, c4, c5⟩ := i1 p hp
      exact ⟨c1.c (hi' _ (by omega)), by rw [Nn.c (hi' (327382 + 185 * p) (by omega))]; exact c2, c3.c (hi' _ (by omega)), by rw [Nn.c (hi' (327382 + 185 * p + 1) (by omega))]; exact c4, c5.c (hi' _ (by omega))⟩
    · rw [Nn.c (lo 6 (by omega) (by omega))] at he
      exact (i2 e he p hp).c (hi' _ (by omega))
    · rw [Nn.c (lo 7 (by omega) (by omega))] at hi
      rw [Nn.c (lo 7 (by omega) (by omega)), Nn.c (lo 0 (by omega) (by omega)), hi' _ (by omega)]
      exact i3 i hi
    · rw [Nn.c (lo 5 (by omega) (by omega))] at ht
      obtain ⟨c1, c2, c3, c4⟩ := i4 t ht
      exact ⟨c1.c (hi' _ (by omega)), c2.c (hi' _ (by omega)), c3.c (hi' _ (by omega)), c4.c (hi' _ (by omega))⟩
  · rw [Nn.c (lo 2 (by omega) (by omega))] at hy
    exact (Iy y hy).mc fun x hx => hi' _ (by omega)
  · refine ⟨fun q hq h5 => ?_, fun k h1 h2 j h3 h4 => ?_⟩
    · rw [n1] at h5
      have o : ∀ x, x < 645 → M (130 + 645 * q + x) = m (130 + 645 * q + x) := fun x hx => L _ (by omega) (by omega) (by omega) (by omega) (by omega)
      rw [o 2 (by omega), o 3 (by omega), o 4 (by omega)]
      exact Iz.1 q hq (by omega)
    · rw [Nn.c (lo 3 (by omega) (by omega))] at h1
      rw [hi' _ (by omega)]
      exact Iz.2 k h1 h2 j h3 h4
  · intro q hq hs
    rcases vpm q hq with ⟨z, hq'⟩ | ⟨j, hj, rfl⟩
    · exact mq_1 (fun x hx => old q z _ (Or.inr (Or.inr (Or.inr (by omega))))) (Ip q hq') (Iq.1 q hq') hs
    · rw [(NP j hj).2] at hs
      exact absurd hs (by decide)
  · exact Iq.2.mc (lo 4 (by omega) (by omega)) Is (fun s hs x hx => hi' _ (by omega))
/-- the parts of the copy -/
theorem sy_mip (I : MI m) (hS : S = Nn m 1) (S20 : S < 20) (T : TI 5 24 0 s) (tw0 : 0 < tw s) {j : Nat} (hj : j ≤ s.1) : MIp (syF m S s u v) (5 * S + j) ∧ syF m S s u v (130 + 645 * (5 * S + j) + 3) = nI 0 := by
  have N := ti_sy T
  have k5 := N.1
  obtain ⟨q, hq⟩ : ∃ q, q = 5 * S + j := ⟨_, rfl⟩
  obtain ⟨v0, v1, v2, v3⟩ := syF_v (m := m) (fc := u) (du := v) N S20 hj hq
  rw [← hq]
  obtain ⟨iz2, iz3, iz4⟩ := I.2.2.2.2.2.2.1.1 q (by omega) (by omega)
  obtain ⟨-, -, t3, -, -, -, t7, t8⟩ := T
  obtain ⟨o1, o2⟩ := t3 j hj
  obtain ⟨p1, p2⟩ := t8 j hj
  obtain ⟨e2, b2⟩ := o2.eq (by omega)
  have w1 : 1 ≤ Nn s.2.2.2.1 j := by
    by_cases z : j < s.1
    · exact t7 j z
    · have : j = s.1 := by omega
      rw [this]
      exact tw0
  have m2 : syF m S s u v (130 + 645 * q + 2) = nI 0 := by rw [v2 2 (by omega) (by omega)]; exact iz2
  have m3 : syF m S s u v (130 + 645 * q + 3) = nI 0 := by rw [v2 3 (by omega) (by omega)]; exact iz3
  have m4 : syF m S s u v (130 + 645 * q + 4) = nI 0 := by rw [v2 4 (by omega) (by omega)]; exact iz4
  have n0 : Nn (syF m S s u v) (130 + 645 * q) = Nn s.2.2.2.1 j := by unfold Nn; rw [v0]
  have n1 : Nn (syF m S s u v) (130 + 645 * q + 1) = Nn s.2.2.2.2.1 j := by unfold Nn; rw [v1]
  have nW : ∀ x, x < Nn s.2.2.2.2.1 j → Nn (syF m S s u v) (130 + 645 * q + 85 + x) = Nn s.2.2.2.2.2.1 (40 * j + x) := fun x hx => by unfold Nn; rw [(v3 x hx).1]
  have nL : ∀ x, x < Nn s.2.2.2.2.1 j → Nn (syF m S s u v) (130 + 645 * q + 125 + x) = Nn s.2.2.2.2.2.2.1 (40 * j + x) := fun x hx => by unfold Nn; rw [(v3 x hx).2.1]
  refine ⟨⟨?_, ?_, by rw [n1]; omega, ⟨0, by omega, m2⟩, ⟨0, by omega, m3⟩, ⟨0, by omega, m4⟩, fun x hx => ?_, ?_, fun x hx => ?_, ?_, fun _ => m4, fun z => absurd (m3.symm.trans z) (by decide)⟩, m3⟩
  · obtain ⟨a, h1, h2⟩ := o1
    exact ⟨a, h1, by rw [v0]; exact h2⟩
  · obtain ⟨a, h1, h2⟩ := o2
    exact ⟨a, h1, by rw [v1]; exact h2⟩
  · rw [n1] at hx
    obtain ⟨⟨⟨a, a1, a2⟩, -⟩, ⟨⟨c, c1, c2⟩, c3⟩, l1⟩ := p2 x hx
    obtain ⟨r1, r2, r3⟩ := v3 x hx
    have lb : Nn s.2.2.2.2.2.2.1 (40 * j + x) ≤ 12 := by unfold Nn; rw [c2, nCl (by omega)]; exact c1
    refine ⟨⟨a, a1, by rw [r1]; exact a2⟩, ⟨c, c1, by rw [r2]; exact c2⟩, by rw [nL x hx]; exact c3, fun l hl => ?_⟩
    rw [nL x hx] at hl
    obtain ⟨d, d1, d2⟩ := l1 l hl
    exact ⟨d, d1, by rw [r3 l (by omega)]; exact d2⟩
  · obtain ⟨⟨-, z0, -⟩, -⟩ := p2 0 (by omega)
    have := nW 0 (by omega)
    rw [Nat.add_zero] at this
    rw [this]
    exact z0 rfl
  · rw [n1] at hx
    rw [nW (x + 1) hx, nW x (by omega)]
    exact (p2 x (by omega)).1.2.2.2 hx
  · rw [n1, nW _ (by omega), n0]
    exact (p2 (Nn s.2.2.2.2.1 j - 1) (by omega)).1.2.2.1 (by omega)
end
