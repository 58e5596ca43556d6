/-! a minute begins: what the memory keeps, the class's cells -/
/-- M is m but that a minute is begun: d rows stay, e of them shifted -/
def Hd (m M : Nat → Int32) (d e : Nat) : Prop := (∀ y, y ≠ 0 → y ≠ 7 → (y < 337180 ∨ 337220 ≤ y) → M y = m y) ∧ M 0 = nI (Nn m 0 + 1) ∧ M 7 = nI (d + 1) ∧ M (337180 + 5 * d) = nI (Nn m 0 + 1) ∧ (∀ k, k < 4 → M (337180 + 5 * d + 1 + k) = -nI 1) ∧ ∀ i, i < d → ∀ x, x < 5 → M (337180 + 5 * i + x) = m (337180 + 5 * (i + e) + x)
def hdT (x : Nat) (y : List Nat) : Prop := y = [x] ∨ y = [12, x] ∨ y = [13, x]
section
variable {tg : Nat → List Nat} {h h1 : Hp} {m M : Nat → Int32} {r x d e : Nat}
theorem vP.hd (H : ∀ x, x < 130 → x ≠ 0 → x ≠ 7 → M x = m x) {q : Nat} (hq : vP m q) : vP M q := hq.c (H 1 (by omega) (by omega) (by omega)) (fun _ => H _ (by have := hq.1; omega) (by omega) (by omega))
theorem MIs.hd {g s : Nat} (Hb : ∀ x, x < 130 → x ≠ 0 → x ≠ 7 → M x = m x) (h0 : Nn m 0 ≤ Nn M 0) (H : ∀ x, x < 852 → M (g + x) = m (g + x)) (Hp : m (g + 4) = nI 0 → M (130 + 645 * Nn m (g + 6) + 3) = m (130 + 645 * Nn m (g + 6) + 3) ∧ M (130 + 645 * Nn m (g + 6) + 4) = m (130 + 645 * Nn m (g + 6) + 4) ∧ M (130 + 645 * Nn m (g + 6) + 45 + Nn m (g + 5)) = m (130 + 645 * Nn m (g + 6) + 45 + Nn m (g + 5))) (I : MIs m g s) : MIs M g s := by
  obtain ⟨a0, a1, a2, a3, a4, a5, a6, a7, a8, a9, a10, a11, a12, a13, a14, a15, a16⟩ := I
  have e0 : M g = m g := H 0 (by omega)
  have e9 := (a11.eq (by omega)).2
  refine ⟨a0.c e0, by rw [Nn.c e0]; exact a1.hd Hb, a2.c (H _ (by omega)), by rw [Nn.c (H 1 (by omega)), Nn.c (Hb 3 (by omega) (by omega) (by omega))]; exact a3, a4.c (H _ (by omega)), by rw [Nn.c (H 2 (by omega))]; exact Nat.le_trans a5 h0, by rw [Nn.c (H 2 (by omega))]; exact a6, a7.c (H _ (by omega)), a8.c (H _ (by omega)), a9.c (H _ (by omega)), a10.c (H _ (by omega)), a11.c (H _ (by omega)), a12.c (H _ (by omega)), a13.c (H _ (by omega)), fun i hi => ?_, by rw [H 4 (by omega), H 5 (by omega), H 6 (by omega)]; exact a15, ?_⟩
  · rw [Nn.c (H 9 (by omega))] at hi
    have h1 := H (12 + i) (by omega)
    have h2 := H (432 + i) (by omega)
    rw [← Nat.add_assoc] at h1 h2
    exact ⟨(a14 i hi).1.c h1, (a14 i hi).2.c h2⟩
  · rw [H 4 (by omega)]
    intro hz
    obtain ⟨c1, c2, c3, c4, c5, c6⟩ := a16 hz
    obtain ⟨p1, p2, p3⟩ := Hp hz
    rw [Nn.c (H 5 (by omega)), Nn.c (H 6 (by omega)), p1, Nn.c p2, p3]
    exact ⟨c1.c (H _ (by omega)), c2.c (H _ (by omega)), c3.hd Hb, c4, c5, c6⟩
theorem MIm.hd {k : Nat} (hk : k < Nn m 3) (hk3 : Nn m 3 ≤ 4) (Hb : ∀ x, x < 130 → x ≠ 0 → x ≠ 7 → M x = m x) (H : ∀ x, 320230 ≤ x → x < 320962 → M x = m x) (Hp : ∀ j, j < Nn m (320230 + 183 * k + 29) → ∀ y, 2 ≤ y → y ≤ 4 → M (130 + 645 * Nn m (320230 + 183 * k + 33 + 5 * j) + y) = m (130 + 645 * Nn m (320230 + 183 * k + 33 + 5 * j) + y)) (hj : ∀ k', k' < Nn m 3 → Nn m (320230 + 183 * k' + 29) ≤ 30) (I : MIm m k) : MIm M k := by
  obtain ⟨a0, a1, a2, a3, a4⟩ := I
  have e : ∀ x, x < 183 → M (320230 + 183 * k + x) = m (320230 + 183 * k + x) := fun x hx => H _ (by omega) (by omega)
  have hn := hj k hk
  refine ⟨fun i hi => (a0 i hi).c (e i (by omega)), a1.c (e _ (by omega)), a2.c (e _ (by omega)), a3.c (e _ (by omega)), fun j hj2 => ?_⟩
  rw [Nn.c (e 29 (by omega))] at hj2
  have e1 : ∀ x, x < 5 → M (320230 + 183 * k + 33 + 5 * j + x) = m (320230 + 183 * k + 33 + 5 * j + x) := fun x hx => H _ (by omega) (by omega)
  have e2 : M (320230 + 183 * k + 33 + 5 * j) = m (320230 + 183 * k + 33 + 5 * j) := e1 0 (by omega)
  have hp := Hp j hj2
  obtain ⟨b1, b2, b3, b4, b5, b6, b7, b8⟩ := a4 j hj2
  rw [Nn.c e2, Nn.c (e1 1 (by omega)), Nn.c (e1 2 (by omega)), e1 4 (by omega), e1 1 (by omega), hp 2 (by omega) (by omega), hp 3 (by omega) (by omega), Nn.c (hp 4 (by omega) (by omega)), Nn.c (Hb 3 (by omega) (by omega) (by omega)), e2]
  refine ⟨b1.c e2, b2.hd Hb, b3.c (e1 1 (by omega)), b4.c (e1 2 (by omega)), b5.c (e1 3 (by omega)), b6.c (e1 4 (by omega)), b7, fun hf => ?_⟩
  obtain ⟨c1, c2, c3, c4⟩ := b8 hf
  refine ⟨c1, c2, c3, fun k' hk' j' hj' => ?_⟩
  have h30 := hj k' hk'
  rw [Nn.c (H (320230 + 183 * k' + 29) (by omega) (by omega))] at hj'
  rw [H (320230 + 183 * k' + 33 + 5 * j' + 4) (by omega) (by omega), H (320230 + 183 * k' + 33 + 5 * j') (by omega) (by omega)]
  exact c4 k' hk' j' hj'
theorem lastS_n {k t : Int32} : ∀ n, (∀ s, s < n → m (64630 + 852 * s + 2) ≠ t) → lastS m k t n = -1
  | 0, _ => rfl
  | n + 1, H => by
    unfold lastS
    rw [if_neg (fun z => H n (by omega) z.2)]
    exact lastS_n n (fun s hs => H s (by omega))
theorem hd_mi (I : MI m) (n600 : Nn m 0 < 600) (hde : (d = Nn m 7 ∧ e = 0 ∧ Nn m 7 < 8) ∨ (d = 7 ∧ e = 1 ∧ Nn m 7 = 8)) (H : Hd m M d e) : MI M := by
  obtain ⟨H0, h0, h7, hr, hk, hs⟩ := H
  obtain ⟨B, Ip, Is, Im, Ih, Iy, Iz, Iq, Il⟩ := I
  obtain ⟨⟨g0, f0⟩, ⟨g1, f1⟩, ⟨g2, f2⟩, ⟨g3, f3⟩, ⟨g4, f4⟩, ⟨g5, f5⟩, ⟨g6, f6⟩, ⟨g7, f7⟩⟩ := B.f
  have Hb : ∀ x, x < 130 → x ≠ 0 → x ≠ 7 → M x = m x := fun x hx a b => H0 x a b (by omega)
  have Ho : ∀ x, 8 ≤ x → x < 337180 → M x = m x := fun x h1 h2 => H0 x (by omega) (by omega) (by omega)
  have n0 : Nn M 0 = Nn m 0 + 1 := by unfold Nn; rw [h0, nCl (by unfold Nn at n600; omega)]; rfl
  have n7 : Nn M 7 = d + 1 := by unfold Nn; rw [h7, nCl (by omega)]
  refine ⟨?_, fun q hq => ?_, fun s hs' => ?_, fun k hk' => ?_, ?_, fun y hy => ?_, ?_, Iq.mc (fun x hx => by rcases hx with rfl | hx; exact Hb 1 (by omega) (by omega) (by omega); exact Ho x (by omega) (by omega)) Ip, Il.mc (Hb 4 (by omega) (by omega) (by omega)) Is (fun s hs x hx => Ho _ (by omega) (by omega))⟩
  · obtain ⟨b0, b1, b2, b3, b4, b5, b6, b7, bw, bs⟩ := B
    refine ⟨⟨_, by omega, h0⟩, b1.c (Hb 1 (by omega) (by omega) (by omega)), b2.c (Hb 2 (by omega) (by omega) (by omega)), b3.c (Hb 3 (by omega) (by omega) (by omega)), b4.c (Hb 4 (by omega) (by omega) (by omega)), b5.c (Hb 5 (by omega) (by omega) (by omega)), b6.c (Hb 6 (by omega) (by omega) (by omega)), by rw [h7, n0]; exact congrArg nI (by omega), fun j hj => ?_, fun j hj => ?_⟩
    · rw [Nn.c (Hb (16 + j) (by omega) (by omega) (by omega))]
      exact ⟨(bw j hj).1.c (Hb (16 + j) (by omega) (by omega) (by omega)), (bw j hj).2⟩
    · rw [Nn.c (Hb 1 (by omega) (by omega) (by omega))] at hj
      rw [Nn.c (Hb (110 + j) (by omega) (by omega) (by omega))]
      obtain ⟨d1, d2, d3, d4⟩ := bs j hj
      exact ⟨d1.c (Hb (70 + j) (by omega) (by omega) (by omega)), d2.c (Hb (90 + j) (by omega) (by omega) (by omega)), d3.c (Hb (110 + j) (by omega) (by omega) (by omega)), d4⟩
  · have hq' : vP m q := hq.hd (fun x a b c => (Hb x a b c).symm)
    have hb := hq.1
    refine (Ip q hq').mc (fun x hx => ?_)
    rcases hx with rfl | ⟨h1, h2⟩ | ⟨l, hl, hz, h1, h2⟩
    · exact Hb 4 (by omega) (by omega) (by omega)
    · exact Ho _ (by omega) (by omega)
    · by_cases es : m (130 + 645 * q + 3) = nI 1
      · obtain ⟨y1, y2, y3, y4⟩ := (((Ip q hq').2.2.2.2.2.2.2.2.2.2.2 es).2.2.2 l hl)
        have := (y2.eq (by omega)).2
        exact Ho _ (by omega) (by omega)
      · have e3 : m (130 + 645 * q + 3) = nI 0 := by
          obtain ⟨y, hy, ey⟩ := (Ip q hq').2.2.2.2.1
          rcases (show y = 0 ∨ y = 1 by omega) with w | w
          · rw [ey, w]
          · exact absurd (by rw [ey, w]) es
        have := (Ip q hq').2.2.2.2.2.2.2.2.2.2.1 e3
        have n4 : Nn m (130 + 645 * q + 4) = 0 := by unfold Nn; rw [this, nCl (by omega)]
        omega
  · rw [Nn.c (Hb 4 (by omega) (by omega) (by omega))] at hs'
    refine (Is s hs').hd Hb (by omega) (fun x hx => Ho _ (by omega) (by omega)) (fun hz => ?_)
    obtain ⟨y1, y2, y3, y4, y5, y6⟩ := (Is s hs').2.2.2.2.2.2.2.2.2.2.2.2.2.2.2.2 hz
    have l39 := (y1.eq (by omega)).2
    have := y3.1
    exact ⟨Ho _ (by omega) (by omega), Ho _ (by omega) (by omega), Ho _ (by omega) (by omega)⟩
  · rw [Nn.c (Hb 3 (by omega) (by omega) (by omega))] at hk'
    refine (Im k hk').hd hk' f3 Hb (fun x h1 h2 => Ho x (by omega) (by omega)) (fun j hj y h1 h2 => ?_) (fun k2 hk2 => ((Im k2 hk2).2.2.2.1.eq (by omega)).2)
    have := ((Im k hk').2.2.2.2 j hj).2.1.1
    exact Ho _ (by omega) (by omega)
  · obtain ⟨a0, a1, a2, a3⟩ := Ih
    refine ⟨fun p hp => ?_, fun e he p hp => ?_, fun i hi => ?_, fun t ht => ?_⟩
    · obtain ⟨b1, b2, b3, b4, b5⟩ := a0 p hp
      exact ⟨b1.c (Ho _ (by omega) (by omega)), by rw [Nn.c (Ho (327382 + 185 * p) (by omega) (by omega))]; exact b2, b3.c (Ho _ (by omega) (by omega)), by rw [Nn.c (Ho (327382 + 185 * p + 1) (by omega) (by omega))]; exact b4, b5.c (Ho _ (by omega) (by omega))⟩
    · rw [Nn.c (Hb 6 (by omega) (by omega) (by omega))] at he
      exact (a1 e he p hp).c (Ho _ (by omega) (by omega))
    · rw [n7] at hi
      rw [n0, n7]
      by_cases z : i = d
      · rw [z, hr]
        exact congrArg nI (by omega)
      · have := hs i (by omega) 0 (by omega)
        rw [Nat.add_zero, Nat.add_zero] at this
        rw [this, a2 (i + e) (by omega)]
        exact congrArg nI (by omega)
    · rw [Nn.c (Hb 5 (by omega) (by omega) (by omega))] at ht
      obtain ⟨b1, b2, b3, b4⟩ := a3 t ht
      exact ⟨b1.c (Ho _ (by omega) (by omega)), b2.c (Ho _ (by omega) (by omega)), b3.c (Ho _ (by omega) (by omega)), b4.c (Ho _ (by omega) (by omega))⟩
  · rw [Nn.c (Hb 2 (by omega) (by omega) (by omega))] at hy
    exact (Iy y hy).mc fun x hx => Ho _ (by omega) (by omega)
  · refine ⟨fun q' h1 h2 => ?_, fun k' h1 h2 j h3 h4 => ?_⟩
    · rw [Nn.c (Hb 1 (by omega) (by omega) (by omega))] at h2
      rw [Ho _ (by omega) (by omega), Ho _ (by omega) (by omega), Ho _ (by omega) (by omega)]
      exact Iz.1 q' h1 h2
    · rw [Nn.c (Hb 3 (by omega) (by omega) (by omega))] at h1
      rw [Ho _ (by omega) (by omega)]
      exact Iz.2 k' h1 h2 j h3 h4
end
