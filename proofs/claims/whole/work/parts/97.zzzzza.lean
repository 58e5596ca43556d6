/-! correct: a part's pieces and lines are others, what the memory keeps -/
section
variable {m M : Nat → Int32} {q : Nat}
def MIq1 (M : Nat → Int32) (q : Nat) : Prop := M (130 + 645 * q + 3) = nI 1 → ∀ l, l < Nn M (130 + 645 * q + 4) → lsN M q (Nn M (130 + 645 * q + 5 + l) + 1) + Nn M (130 + 645 * q + 85 + Nn M (130 + 645 * q + 5 + l)) ≤ 400 + lsN M q (bgN M q l) + Nn M (130 + 645 * q + 85 + bgN M q l)
theorem pc_mi (I : MI m) (vq : vP m q) (H : ∀ y, (y < 130 + 645 * q + 1 ∨ 130 + 645 * q + 645 ≤ y ∨ y = 130 + 645 * q + 2 ∨ y = 130 + 645 * q + 3) → M y = m y) (J : M (130 + 645 * q + 4) = m (130 + 645 * q + 4) ∨ ∀ k, k < Nn m 3 → ∀ j, j < Nn m (320230 + 183 * k + 29) → Nn m (320230 + 183 * k + 33 + 5 * j) ≠ q) (P : MIp M q) (Q : MIq1 M q) (L : ∀ s, s < Nn m 4 → m (64630 + 852 * s + 4) = nI 0 → Nn m (64630 + 852 * s + 6) = q → Nn m (64630 + 852 * s + 5) < Nn M (130 + 645 * q + 4) ∧ M (130 + 645 * q + 45 + Nn m (64630 + 852 * s + 5)) = m (130 + 645 * q + 45 + Nn m (64630 + 852 * s + 5))) : MI M := by
  obtain ⟨B, Ip, Is, Im, Ih, Iy, Iz, Iq⟩ := I
  obtain ⟨⟨-, f0⟩, ⟨-, f1⟩, ⟨-, f2⟩, ⟨-, f3⟩, ⟨-, f4⟩, -⟩ := B.f
  have q1 := vq.1
  have Hb : ∀ x, x < 130 → M x = m x := fun x hx => H x (by omega)
  have hi : ∀ y, 64630 ≤ y → M y = m y := fun y h1 => H y (by omega)
  have ot : ∀ q', q' ≠ q → ∀ x, x < 645 → M (130 + 645 * q' + x) = m (130 + 645 * q' + x) := fun q' hq x hx => H _ (by omega)
  refine ⟨B.mc Hb, fun q' hq => ?_, fun s hs => ?_, fun k hk => ?_, Ih.mc B (fun x hx => Hb x (by omega)) (fun x h1 h2 => hi x (by omega)), fun y hy => ?_, Iz.mc (fun x hx => Hb x (by omega)) (fun q' h1 h2 y h3 h4 => ?_) (fun k h1 h2 j h3 h4 => hi _ (by omega)), fun q' hq hs => ?_, ?_⟩
  · have hq' := hq.b' Hb
    by_cases z : q' = q
    · rw [z]; exact P
    · have hI := Ip q' hq'
      refine hI.mc fun x hx => ?_
      rcases hx with rfl | ⟨h1, h2⟩ | ⟨l, hl, hz, h1, h2⟩
      · exact Hb _ (by omega)
      · have := ot q' z (x - (130 + 645 * q')) (by omega)
        rwa [show 130 + 645 * q' + (x - (130 + 645 * q')) = x by omega] at this
      · exact hi _ (by omega)
  · rw [Nn.c (Hb 4 (by omega))] at hs
    obtain ⟨a0, a1, a2, a3, a4, a5, a6, a7, a8, a9, a10, a11, a12, a13, a14, a15, a16⟩ := Is s hs
    have e : ∀ x, x < 852 → M (64630 + 852 * s + x) = m (64630 + 852 * s + x) := fun x hx => hi _ (by omega)
    have e0 : M (64630 + 852 * s) = m (64630 + 852 * s) := e 0 (by omega)
    have e9 := (a11.eq (by omega)).2
    refine ⟨a0.c e0, by rw [Nn.c e0]; exact a1.b Hb, a2.c (e _ (by omega)), by rw [Nn.c (e 1 (by omega)), Nn.c (Hb 3 (by omega))]; exact a3, a4.c (e _ (by omega)), by rw [Nn.c (e 2 (by omega)), Nn.c (Hb 0 (by omega))]; exact a5, by rw [Nn.c (e 2 (by omega))]; exact a6, a7.c (e _ (by omega)), a8.c (e _ (by omega)), a9.c (e _ (by omega)), a10.c (e _ (by omega)), a11.c (e _ (by omega)), a12.c (e _ (by omega)), a13.c (e _ (by omega)), fun j hj => ?_, fun hz => ?_, fun hz => ?_⟩
    · rw [Nn.c (e 9 (by omega))] at hj
      have h1 := e (12 + j) (by omega)
      have h2 := e (432 + j) (by omega)
      rw [← Nat.add_assoc] at h1 h2
      exact ⟨(a14 j hj).1.c h1, (a14 j hj).2.c h2⟩
    · rw [e 4 (by omega)] at hz
      rw [e 5 (by omega), e 6 (by omega)]
      exact a15 hz
    · rw [e 4 (by omega)] at hz
      obtain ⟨c1, c2, c3, c4, c5, c6⟩ := a16 hz
      have c1b := (c1.eq (by omega)).2
      rw [Nn.c (e 6 (by omega)), Nn.c (e 5 (by omega))]
      refine ⟨c1.c (e 5 (by omega)), c2.c (e 6 (by omega)), c3.b Hb, ?_, ?_, ?_⟩
      · by_cases z : Nn m (64630 + 852 * s + 6) = q
        · rw [z] at c4 ⊢
          rw [H _ (by omega)]
          exact c4
        · rw [ot _ z 3 (by omega)]; exact c4
      · by_cases z : Nn m (64630 + 852 * s + 6) = q
        · rw [z]; exact (L s hs hz z).1
        · rw [Nn.c (ot _ z 4 (by omega))]; exact c5
      · by_cases z : Nn m (64630 + 852 * s + 6) = q
        · rw [z] at c6 ⊢
          rw [(L s hs hz z).2]; exact c6
        · have := ot _ z (45 + Nn m (64630 + 852 * s + 5)) (by omega)
          rw [← Nat.add_assoc] at this
          rw [this]; exact c6
  · rw [Nn.c (Hb 3 (by omega))] at hk
    refine (Im k hk).mc hk f3 Hb (fun x h1 h2 => hi _ (by omega)) (fun j hj y h1 h2 => ?_) (fun k' hk' => ((Im k' hk').2.2.2.1.eq (by omega)).2)
    by_cases z : Nn m (320230 + 183 * k + 33 + 5 * j) = q
    · rcases J with J | J
      · rw [z]
        rcases (show y = 2 ∨ y = 3 ∨ y = 4 by omega) with rfl | rfl | rfl
        · exact H _ (by omega)
        · exact H _ (by omega)
        · exact J
      · exact absurd z (J k hk j hj)
    · exact ot _ z y (by omega)
  · rw [Nn.c (Hb 2 (by omega))] at hy
    exact (Iy y hy).mc fun x hx => hi _ (by omega)
  · by_cases z : q' = q
    · rw [z] at h2
      have := vq.2.1
      omega
    · exact ot _ z y (by omega)
  · have hq' := hq.b' Hb
    by_cases z : q' = q
    · rw [z] at hs ⊢; exact Q hs
    · exact mq_1 (fun x hx => ot _ z x (by omega)) (Ip q' hq') (Iq.1 q' hq') hs
  · exact Iq.2.mc (Hb 4 (by omega)) Is (fun s hs x hx => hi _ (by omega))
/-- the pieces' side of what the memory keeps of a part -/
def MIc (m : Nat → Int32) (q : Nat) : Prop := oN m (130 + 645 * q) 24 ∧ oN m (130 + 645 * q + 1) 40 ∧ 1 ≤ Nn m (130 + 645 * q + 1) ∧
  (∀ b, b < Nn m (130 + 645 * q + 1) → oN m (130 + 645 * q + 85 + b) 23 ∧ oN m (130 + 645 * q + 125 + b) 12 ∧ 1 ≤ Nn m (130 + 645 * q + 125 + b) ∧ ∀ i, i < Nn m (130 + 645 * q + 125 + b) → oN m (130 + 645 * q + 165 + 12 * b + i) 25) ∧
  Nn m (130 + 645 * q + 85) = 0 ∧ (∀ b, b + 1 < Nn m (130 + 645 * q + 1) → Nn m (130 + 645 * q + 85 + (b + 1)) = Nn m (130 + 645 * q + 85 + b) ∨ Nn m (130 + 645 * q + 85 + (b + 1)) = Nn m (130 + 645 * q + 85 + b) + 1) ∧ Nn m (130 + 645 * q + 85 + (Nn m (130 + 645 * q + 1) - 1)) + 1 = Nn m (130 + 645 * q)
variable {f f2 w : Nat} {s : TX}
theorem ch_mic (J : MIp m q) (hw : w < Nn m (130 + 645 * q)) (F : FW m q w f) (F2 : FW m q (w + 1) f2) (Ts : TI 1 1 (Nn m (130 + 645 * q + 1) - (f2 - f)) s) (s1 : s.1 = 0) (etw : 0 < tw s) (H : Chd m M q f f2 (tp s) (nI w) s.2.2.2.2.2.2.1 s.2.2.2.2.2.2.2) : MIc M q ∧ Nn M (130 + 645 * q + 1) = f + tp s + (Nn m (130 + 645 * q + 1) - f2) := by
  obtain ⟨n1, n2, n3, n4, n5⟩ := ti_nm Ts (by omega)
  obtain ⟨d1, d2⟩ := FW_2 J F F2 hw
  have f2n := F2.1
  obtain ⟨-, b40⟩ := J.2.1.eq (by omega)
  obtain ⟨-, b24⟩ := J.1.eq (by omega)
  obtain ⟨l1, l2⟩ := wP_l J
  obtain ⟨z1, z2⟩ := Ts.2.2.2.2.2.2.2 0 (by omega)
  have e0 : Nn s.2.2.2.2.1 0 = tp s := by unfold tp; rw [s1]
  have e1 : Nn s.2.2.2.1 0 = tw s := by unfold tw; rw [s1]
  rw [e0] at z1 z2
  rw [e1] at z1
  have p1 : 1 ≤ tp s := by
    by_cases z : tp s = 0
    · have := z1.mp z
      omega
    · omega
  obtain ⟨k1, k2, k3, k4, k5⟩ := H
  obtain ⟨N, hN⟩ : ∃ N, N = f + tp s + (Nn m (130 + 645 * q + 1) - f2) := ⟨_, rfl⟩
  rw [← hN] at k1
  have nn : Nn M (130 + 645 * q + 1) = N := by unfold Nn; rw [k1, nCl (by omega)]
  -- the words of the pieces
  have wd : ∀ x, x < N → Nn M (130 + 645 * q + 85 + x) = (if x < f then wP m q x else if x < f + tp s then w else wP m q (x - (f + tp s) + f2)) := fun x hx => by
    by_cases c1 : x < f
    · rw [if_pos c1, Nn.c (k3 x c1).1]; rfl
    · by_cases c2 : x < f + tp s
      · have := (k4 (x - f) (by omega)).1
        rw [show f + (x - f) = x by omega] at this
        rw [if_neg c1, if_pos c2]
        unfold Nn
        rw [this, nCl (by omega)]
      · have := (k5 (x - (f + tp s)) (by omega)).1
        rw [show f + tp s + (x - (f + tp s)) = x by omega] at this
        rw [if_neg c1, if_neg c2]
        unfold wP Nn
        rw [this, Nat.add_comm f2]
  have ws : ∀ y, f ≤ y → y < f2 → wP m q y = w := fun y h1 h2 => (d2 y (by omega)).mpr ⟨h1, h2⟩
  have nxt : ∀ x, x + 1 < N → Nn M (130 + 645 * q + 85 + (x + 1)) = Nn M (130 + 645 * q + 85 + x) ∨ Nn M (130 + 645 * q + 85 + (x + 1)) = Nn M (130 + 645 * q + 85 + x) + 1 := fun x hx => by
    rw [wd (x + 1) hx, wd x (by omega)]
    by_cases c1 : x + 1 < f
    · rw [if_pos c1, if_pos (show x < f by omega)]
      exact wP_s J (by omega)
    · by_cases c2 : x < f
      · rw [if_neg c1, if_pos (show x + 1 < f + tp s by omega), if_pos c2]
        have := wP_s J (x := x) (by omega)
        rw [ws (x + 1) (by omega) (by omega)] at this
        exact this
      · by_cases c3 : x + 1 < f + tp s
        · rw [if_neg c1, if_pos c3, if_neg c2, if_pos (show x < f + tp s by omega)]
          exact Or.inl rfl
        · by_cases c4 : x < f + tp s
          · rw [if_neg c1, if_neg c3, if_neg c2, if_pos c4, show x + 1 - (f + tp s) + f2 = f2 by omega]
            have := wP_s J (x := f2 - 1) (by omega)
            rw [show f2 - 1 + 1 = f2 by omega, ws (f2 - 1) (by omega) (by omega)] at this
            exact this
          · rw [if_neg c1, if_neg c3, if_neg c2, if_neg c4, show x + 1 - (f + tp s) + f2 = x - (f + tp s) + f2 + 1 by omega]
            exact wP_s J (by omega)
  refine ⟨⟨J.1.c k2, ⟨N, by omega, k1⟩, by rw [nn]; omega, fun x hx => ?_, ?_, fun x hx => ?_, ?_⟩, by rw [nn, hN]⟩
  · rw [nn] at hx
    by_cases c1 : x < f
    · obtain ⟨a1, a2, a3⟩ := k3 x c1
      obtain ⟨o1, o2, o3, o4⟩ := J.2.2.2.2.2.2.1 x (by omega)
      have := (o2.eq (by omega)).2
      refine ⟨o1.c a1, o2.c a2, by rw [Nn.c a2]; exact o3, fun l hl => ?_⟩
      rw [Nn.c a2] at hl
      exact (o4 l hl).c (a3 l (by omega))
    · by_cases c2 : x < f + tp s
      · obtain ⟨y, rfl⟩ : ∃ y, x = f + y := ⟨x - f, by omega⟩
        obtain ⟨a1, a2, a3⟩ := k4 y (by omega)
        obtain ⟨-, ⟨y1, y2⟩, y3⟩ := z2 y (by omega)
        rw [show 40 * 0 + y = y by omega] at y1 y2 y3
        obtain ⟨v1, v2⟩ := y1.eq (by omega)
        have e : Nn M (130 + 645 * q + 125 + (f + y)) = Nn s.2.2.2.2.2.2.1 y := by unfold Nn; rw [a2]
        refine ⟨⟨w, by omega, a1⟩, ⟨_, v2, by rw [a2]; exact v1⟩, by rw [e]; exact y2, fun l hl => ?_⟩
        rw [e] at hl
        obtain ⟨d, d1, d2⟩ := y3 l hl
        exact ⟨d, d1, by rw [a3 l (by omega)]; exact d2⟩
      · obtain ⟨y, rfl⟩ : ∃ y, x = f + tp s + y := ⟨x - (f + tp s), by omega⟩
        obtain ⟨a1, a2, a3⟩ := k5 y (by omega)
        obtain ⟨o1, o2, o3, o4⟩ := J.2.2.2.2.2.2.1 (f2 + y) (by omega)
        have := (o2.eq (by omega)).2
        have e : Nn M (130 + 645 * q + 125 + (f + tp s + y)) = Nn m (130 + 645 * q + 125 + (f2 + y)) := by unfold Nn; rw [a2]
        obtain ⟨u1, hu1, eu1⟩ := o1
        obtain ⟨u2, hu2, eu2⟩ := o2
        refine ⟨⟨u1, hu1, by rw [a1]; exact eu1⟩, ⟨u2, hu2, by rw [a2]; exact eu2⟩, by rw [e]; exact o3, fun l hl => ?_⟩
        rw [e] at hl
        obtain ⟨d, d1, d2⟩ := o4 l hl
        exact ⟨d, d1, by rw [a3 l (by omega)]; exact d2⟩
  · have := wd 0 (by omega)
    rw [Nat.add_zero] at this
    rw [this]
    by_cases c1 : 0 < f
    · rw [if_pos c1]; exact wP_0 J
    · rw [if_neg c1, if_pos (by omega), ← ws 0 (by omega) (by omega)]; exact wP_0 J
  · rw [nn] at hx
    exact nxt x hx
  · rw [nn, wd _ (by omega), Nn.c k2, ← l1]
    by_cases c : f2 = Nn m (130 + 645 * q + 1)
    · rw [if_neg (by omega), if_pos (by omega), ws _ (by omega) (by omega)]
    · rw [if_neg (by omega), if_neg (by omega), show N - 1 - (f + tp s) + f2 = Nn m (130 + 645 * q + 1) - 1 by omega]
end
