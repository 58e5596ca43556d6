/-! what the memory keeps is kept where it is the same -/
section
variable {h : Hp} {m m' : Nat → Int32}
theorem MIb.mc (H : ∀ x, x < 130 → m' x = m x) (B : MIb m) : MIb m' := by
  obtain ⟨b0, b1, b2, b3, b4, b5, b6, b7, b8, b9⟩ := B
  refine ⟨b0.c (H _ (by omega)), b1.c (H _ (by omega)), b2.c (H _ (by omega)), b3.c (H _ (by omega)), b4.c (H _ (by omega)), b5.c (H _ (by omega)), b6.c (H _ (by omega)), by rw [H _ (by omega), Nn.c (H 0 (by omega))]; exact b7, fun i hi => ⟨(b8 i hi).1.c (H _ (by omega)), by rw [Nn.c (H _ (by omega))]; exact (b8 i hi).2⟩, fun s hs => ?_⟩
  rw [Nn.c (H 1 (by omega))] at hs
  obtain ⟨c1, c2, c3, c4⟩ := b9 s hs
  have := (b1.eq (by omega)).2
  exact ⟨c1.c (H _ (by omega)), c2.c (H _ (by omega)), c3.c (H _ (by omega)), by rw [Nn.c (H _ (by omega))]; exact c4⟩
theorem vP.b (H : ∀ x, x < 130 → m' x = m x) {q : Nat} (hq : vP m q) : vP m' q := hq.c (H _ (by omega)) (fun _ => H _ (by have := hq.1; omega))
theorem vP.b' (H : ∀ x, x < 130 → m' x = m x) {q : Nat} (hq : vP m' q) : vP m q := hq.b (fun x hx => (H x hx).symm)
/-- the part's own cells; where its slugs lie -/
def rgQ (m : Nat → Int32) (q x : Nat) : Prop := x = 4 ∨ (130 + 645 * q ≤ x ∧ x < 130 + 645 * q + 645) ∨ ∃ l, l < Nn m (130 + 645 * q + 4) ∧ m (130 + 645 * q + 45 + l) ≠ nI 0 ∧ 64630 + 852 * (Nn m (130 + 645 * q + 45 + l) - 1) + 4 ≤ x ∧ x ≤ 64630 + 852 * (Nn m (130 + 645 * q + 45 + l) - 1) + 6
theorem MIp.mc {q : Nat} (H : ∀ x, rgQ m q x → m' x = m x) (I : MIp m q) : MIp m' q := by
  obtain ⟨o0, o1, o1', o2, o3, o4, ob, ow, ow1, ow2, oz, os⟩ := I
  obtain ⟨-, o1b⟩ := o1.eq (by omega)
  obtain ⟨-, o4b⟩ := o4.eq (by omega)
  have e : ∀ x, x < 645 → m' (130 + 645 * q + x) = m (130 + 645 * q + x) := fun x hx => H _ (Or.inr (Or.inl ⟨by omega, by omega⟩))
  have e0 : m' (130 + 645 * q) = m (130 + 645 * q) := e 0 (by omega)
  have ew : ∀ b, b < 40 → m' (130 + 645 * q + 85 + b) = m (130 + 645 * q + 85 + b) := fun b hb => by
    have := e (85 + b) (by omega)
    rwa [← Nat.add_assoc] at this
  have el : ∀ b, b < 40 → m' (130 + 645 * q + 125 + b) = m (130 + 645 * q + 125 + b) := fun b hb => by
    have := e (125 + b) (by omega)
    rwa [← Nat.add_assoc] at this
  have ee : ∀ b, b < 40 → m' (130 + 645 * q + 5 + b) = m (130 + 645 * q + 5 + b) := fun b hb => by
    have := e (5 + b) (by omega)
    rwa [← Nat.add_assoc] at this
  have ep : ∀ b, b < 40 → m' (130 + 645 * q + 45 + b) = m (130 + 645 * q + 45 + b) := fun b hb => by
    have := e (45 + b) (by omega)
    rwa [← Nat.add_assoc] at this
  have n1 := Nn.c (e 1 (by omega))
  have n4 := Nn.c (e 4 (by omega))
  refine ⟨o0.c e0, o1.c (e 1 (by omega)), by rw [n1]; exact o1', o2.c (e 2 (by omega)), o3.c (e 3 (by omega)), o4.c (e 4 (by omega)), fun b hb => ?_, by rw [Nn.c (e 85 (by omega))]; exact ow, fun b hb => ?_, ?_, by rw [e 3 (by omega), e 4 (by omega)]; exact oz, ?_⟩
  · rw [n1] at hb
    obtain ⟨c1, c2, c3, c4⟩ := ob b hb
    have c2b := (c2.eq (by omega)).2
    refine ⟨c1.c (ew b (by omega)), c2.c (el b (by omega)), by rw [Nn.c (el b (by omega))]; exact c3, fun i hi => ?_⟩
    rw [Nn.c (el b (by omega))] at hi
    have := e (165 + 12 * b + i) (by omega)
    rw [← Nat.add_assoc, ← Nat.add_assoc] at this
    exact (c4 i hi).c this
  · rw [n1] at hb
    rw [Nn.c (ew b (by omega)), Nn.c (ew (b + 1) (by omega))]
    exact ow1 b hb
  · rw [n1, Nn.c (ew _ (by omega)), Nn.c e0]
    exact ow2
  · rw [e 3 (by omega), e 2 (by omega), n4, n1, Nn.c (ee _ (by omega))]
    intro hs
    obtain ⟨c0, c1, c2, c3⟩ := os hs
    refine ⟨c0, c1, c2, fun l hl => ?_⟩
    obtain ⟨d1, d2, d3, d4⟩ := c3 l hl
    rw [ep l (by omega), Nn.c (ep l (by omega)), Nn.c (ee l (by omega))]
    refine ⟨d1.c (ee l (by omega)), d2.c (ep l (by omega)), fun h2 => by rw [Nn.c (ee (l + 1) (by omega))]; exact d3 h2, fun hz => ?_⟩
    obtain ⟨f1, f2, f3, f4⟩ := d4 hz
    have g : ∀ y, 4 ≤ y → y ≤ 6 → m' (64630 + 852 * (Nn m (130 + 645 * q + 45 + l) - 1) + y) = m (64630 + 852 * (Nn m (130 + 645 * q + 45 + l) - 1) + y) := fun y h1 h2 => H _ (Or.inr (Or.inr ⟨l, hl, hz, by omega, by omega⟩))
    rw [Nn.c (H 4 (Or.inl rfl)), g 4 (by omega) (by omega), g 5 (by omega) (by omega), g 6 (by omega) (by omega)]
    exact ⟨f1, f2, f3, f4⟩
theorem MIs.mc {g s : Nat} (Hb : ∀ x, x < 130 → m' x = m x) (H : ∀ x, x < 852 → m' (g + x) = m (g + x)) (Hp : m (g + 4) = nI 0 → m' (130 + 645 * Nn m (g + 6) + 3) = m (130 + 645 * Nn m (g + 6) + 3) ∧ m' (130 + 645 * Nn m (g + 6) + 4) = m (130 + 645 * Nn m (g + 6) + 4) ∧ m' (130 + 645 * Nn m (g + 6) + 45 + Nn m (g + 5)) = m (130 + 645 * Nn m (g + 6) + 45 + Nn m (g + 5))) (I : MIs m g s) : MIs m' g s := by
  obtain ⟨a0, a1, a2, a3, a4, a5, a6, a7, a8, a9, a10, a11, a12, a13, a14, a15, a16⟩ := I
  have e0 : m' g = m g := H 0 (by omega)
  have e9 := (a11.eq (by omega)).2
  refine ⟨a0.c e0, by rw [Nn.c e0]; exact a1.b Hb, a2.c (H _ (by omega)), by rw [Nn.c (H 1 (by omega)), Nn.c (Hb 3 (by omega))]; exact a3, a4.c (H _ (by omega)), by rw [Nn.c (H 2 (by omega)), Nn.c (Hb 0 (by omega))]; exact a5, by rw [Nn.c (H 2 (by omega))]; exact a6, a7.c (H _ (by omega)), a8.c (H _ (by omega)), a9.c (H _ (by omega)), a10.c (H _ (by omega)), a11.c (H _ (by omega)), a12.c (H _ (by omega)), a13.c (H _ (by omega)), fun i hi => ?_, by rw [H 4 (by omega), H 5 (by omega), H 6 (by omega)]; exact a15, ?_⟩
  · rw [Nn.c (H 9 (by omega))] at hi
    have h1 := H (12 + i) (by omega)
    have h2 := H (432 + i) (by omega)
    rw [← Nat.add_assoc] at h1 h2
    exact ⟨(a14 i hi).1.c h1, (a14 i hi).2.c h2⟩
  · rw [H 4 (by omega)]
    intro hz
    obtain ⟨c1, c2, c3, c4, c5, c6⟩ := a16 hz
    obtain ⟨p1, p2, p3⟩ := Hp hz
    rw [Nn.c (H 5 (by omega)), Nn.c (H 6 (by omega)), p1, Nn.c p2, p3]
    exact ⟨c1.c (H _ (by omega)), c2.c (H _ (by omega)), c3.b Hb, c4, c5, c6⟩
theorem MIm.mc {k : Nat} (hk : k < Nn m 3) (hk3 : Nn m 3 ≤ 4) (Hb : ∀ x, x < 130 → m' x = m x) (H : ∀ x, 320230 ≤ x → x < 320962 → m' x = m x) (Hp : ∀ j, j < Nn m (320230 + 183 * k + 29) → ∀ y, 2 ≤ y → y ≤ 4 → m' (130 + 645 * Nn m (320230 + 183 * k + 33 + 5 * j) + y) = m (130 + 645 * Nn m (320230 + 183 * k + 33 + 5 * j) + y)) (hj : ∀ k', k' < Nn m 3 → Nn m (320230 + 183 * k' + 29) ≤ 30) (I : MIm m k) : MIm m' k := by
  obtain ⟨a0, a1, a2, a3, a4⟩ := I
  have e : ∀ x, x < 183 → m' (320230 + 183 * k + x) = m (320230 + 183 * k + x) := fun x hx => H _ (by omega) (by omega)
  have hn := hj k hk
  refine ⟨fun i hi => (a0 i hi).c (e i (by omega)), a1.c (e _ (by omega)), a2.c (e _ (by omega)), a3.c (e _ (by omega)), fun j hj2 => ?_⟩
  rw [Nn.c (e 29 (by omega))] at hj2
  have e1 : ∀ x, x < 5 → m' (320230 + 183 * k + 33 + 5 * j + x) = m (320230 + 183 * k + 33 + 5 * j + x) := fun x hx => H _ (by omega) (by omega)
  have e2 : m' (320230 + 183 * k + 33 + 5 * j) = m (320230 + 183 * k + 33 + 5 * j) := e1 0 (by omega)
  have hp := Hp j hj2
  obtain ⟨b1, b2, b3, b4, b5, b6, b7, b8⟩ := a4 j hj2
  rw [Nn.c e2, Nn.c (e1 1 (by omega)), Nn.c (e1 2 (by omega)), e1 4 (by omega), e1 1 (by omega), hp 2 (by omega) (by omega), hp 3 (by omega) (by omega), Nn.c (hp 4 (by omega) (by omega)), Nn.c (Hb 3 (by omega)), e2]
  refine ⟨b1.c e2, b2.b Hb, b3.c (e1 1 (by omega)), b4.c (e1 2 (by omega)), b5.c (e1 3 (by omega)), b6.c (e1 4 (by omega)), b7, fun hf => ?_⟩
  obtain ⟨c1, c2, c3, c4⟩ := b8 hf
  refine ⟨c1, c2, c3, fun k' hk' j' hj' => ?_⟩
  have h30 := hj k' hk'
  rw [Nn.c (H (320230 + 183 * k' + 29) (by omega) (by omega))] at hj'
  rw [H (320230 + 183 * k' + 33 + 5 * j' + 4) (by omega) (by omega), H (320230 + 183 * k' + 33 + 5 * j') (by omega) (by omega)]
  exact c4 k' hk' j' hj'
theorem MIy.mc {Y : Nat} (H : ∀ x, x < 562 → m' (Y + x) = m (Y + x)) (I : MIy m Y) : MIy m' Y := by
  obtain ⟨a0, a1, a2⟩ := I
  have e0 : m' Y = m Y := H 0 (by omega)
  have hb := (a1.eq (by omega)).2
  refine ⟨a0.c e0, a1.c (H 1 (by omega)), fun r hr => ?_⟩
  rw [Nn.c (H 1 (by omega))] at hr
  have e1 : ∀ x, x < 5 → m' (Y + 2 + 5 * r + x) = m (Y + 2 + 5 * r + x) := fun x hx => by
    have := H (2 + 5 * r + x) (by omega)
    rwa [← Nat.add_assoc, ← Nat.add_assoc] at this
  have e2 : m' (Y + 2 + 5 * r) = m (Y + 2 + 5 * r) := e1 0 (by omega)
  obtain ⟨b1, b2, b3, b4, b5, b6⟩ := a2 r hr
  rw [e2, Nn.c (e1 1 (by omega)), Nn.c (e1 2 (by omega))]
  exact ⟨b1.c e2, b2.c (e1 1 (by omega)), b3.c (e1 2 (by omega)), b4, b5, b6⟩
theorem MIh.mc (B : MIb m) (Hb : ∀ x, x < 8 → m' x = m x) (H : ∀ x, 326582 ≤ x → x < 337220 → m' x = m x) (I : MIh m) : MIh m' := by
  obtain ⟨⟨-, -⟩, -, -, -, -, ⟨-, f5⟩, ⟨-, f6⟩, ⟨-, f7⟩⟩ := B.f
  obtain ⟨a0, a1, a2, a3⟩ := I
  refine ⟨fun p hp => ?_, fun e he p hp => ?_, fun i hi => ?_, fun t ht => ?_⟩
  · obtain ⟨b1, b2, b3, b4, b5⟩ := a0 p hp
    exact ⟨b1.c (H _ (by omega) (by omega)), by rw [Nn.c (H _ (by omega) (by omega))]; exact b2, b3.c (H _ (by omega) (by omega)), by rw [Nn.c (H _ (by omega) (by omega))]; exact b4, b5.c (H _ (by omega) (by omega))⟩
  · rw [Nn.c (Hb 6 (by omega))] at he
    exact (a1 e he p hp).c (H _ (by omega) (by omega))
  · rw [Nn.c (Hb 7 (by omega))] at hi
    rw [H _ (by omega) (by omega), Nn.c (Hb 0 (by omega)), Nn.c (Hb 7 (by omega))]
    exact a2 i hi
  · rw [Nn.c (Hb 5 (by omega))] at ht
    obtain ⟨b1, b2, b3, b4⟩ := a3 t ht
    exact ⟨b1.c (H _ (by omega) (by omega)), b2.c (H _ (by omega) (by omega)), b3.c (H _ (by omega) (by omega)), b4.c (H _ (by omega) (by omega))⟩
theorem MIz.mc (Hb : ∀ x, x < 8 → m' x = m x) (H1 : ∀ q, q < 100 → Nn m 1 ≤ q / 5 → ∀ y, 2 ≤ y → y ≤ 4 → m' (130 + 645 * q + y) = m (130 + 645 * q + y)) (H2 : ∀ k, Nn m 3 ≤ k → k < 4 → ∀ i, 28 ≤ i → i < 33 → m' (320230 + 183 * k + i) = m (320230 + 183 * k + i)) (I : MIz m) : MIz m' := by
  refine ⟨fun q h1 h2 => ?_, fun k h1 h2 i h3 h4 => ?_⟩
  · rw [Nn.c (Hb 1 (by omega))] at h2
    rw [H1 q h1 h2 2 (by omega) (by omega), H1 q h1 h2 3 (by omega) (by omega), H1 q h1 h2 4 (by omega) (by omega)]
    exact I.1 q h1 h2
  · rw [Nn.c (Hb 3 (by omega))] at h1
    rw [H2 k h1 h2 i h3 h4]
    exact I.2 k h1 h2 i h3 h4
theorem lsN.mc {q : Nat} : ∀ k, (∀ x, x < k → m' (130 + 645 * q + 125 + x) = m (130 + 645 * q + 125 + x)) → lsN m' q k = lsN m q k
  | 0, _ => rfl
  | k + 1, H => by
    unfold lsN
    rw [lsN.mc k (fun x hx => H x (by omega)), Nn.c (H k (by omega))]
theorem MIq.mc (H : ∀ x, (x = 1 ∨ (110 ≤ x ∧ x < 64630)) → m' x = m x) (Ip : ∀ q, vP m q → MIp m q) (I : MIq m) : MIq m' := by
  intro q hq hs l hl
  have hq' : vP m q := hq.c (H 1 (by omega)).symm (fun _ => (H _ (by have := hq.1; omega)).symm)
  have hb := hq.1
  have e : ∀ x, x < 645 → m' (130 + 645 * q + x) = m (130 + 645 * q + x) := fun x hx => H _ (by omega)
  rw [e 3 (by omega)] at hs
  rw [Nn.c (e 4 (by omega))] at hl
  have J := I q hq' hs l hl
  obtain ⟨-, -, -, -, -, o4, -, -, -, -, -, os⟩ := Ip q hq'
  obtain ⟨-, o4b⟩ := o4.eq (by omega)
  obtain ⟨-, -, -, c3⟩ := os hs
  have ee : ∀ l, l < Nn m (130 + 645 * q + 4) → Nn m' (130 + 645 * q + 5 + l) = Nn m (130 + 645 * q + 5 + l) ∧ Nn m (130 + 645 * q + 5 + l) ≤ 39 := fun l hl => by
    have := e (5 + l) (by omega)
    rw [← Nat.add_assoc] at this
    exact ⟨Nn.c this, ((c3 l hl).1.eq (by omega)).2⟩
  have ew : ∀ b, b < 41 → Nn m' (130 + 645 * q + 85 + b) = Nn m (130 + 645 * q + 85 + b) := fun b hb => by
    have := e (85 + b) (by omega)
    rw [← Nat.add_assoc] at this
    exact Nn.c this
  have el : ∀ k, k < 41 → lsN m' q k = lsN m q k := fun k hk => lsN.mc k (fun x hx => by
    have := e (125 + x) (by omega)
    rwa [← Nat.add_assoc] at this)
  have eg : bgN m' q l = bgN m q l ∧ bgN m q l < 41 := by
    unfold bgN
    by_cases z : l = 0
    · rw [if_pos z, if_pos z]; exact ⟨rfl, by omega⟩
    · obtain ⟨c1, c2⟩ := ee (l - 1) (by omega)
      rw [if_neg z, if_neg z, c1]; exact ⟨rfl, by omega⟩
  obtain ⟨d1, d2⟩ := ee l hl
  rw [d1, eg.1, el _ (by omega), el _ eg.2, ew _ (by omega), ew _ eg.2]
  exact J
theorem ltC.c {w v : Nat → Int32} : ∀ n, (∀ l, l < n → w l = v l) → ltC w n = ltC v n
  | 0, _ => rfl
  | n + 1, H => by
    show ltC w n + (if w n = nI 32 then 0 else 1) = ltC v n + (if v n = nI 32 then 0 else 1)
    rw [ltC.c n (fun l hl => H l (by omega)), H n (by omega)]
theorem MIl.mc (H4 : m' 4 = m 4) (Is : ∀ s, s < Nn m 4 → MIs m (64630 + 852 * s) s) (Hs : ∀ s, s < Nn m 4 → ∀ x, x = 3 ∨ x = 9 ∨ (12 ≤ x ∧ x < 432) → m' (64630 + 852 * s + x) = m (64630 + 852 * s + x)) (I : MIl m) : MIl m' := fun s hs => by
  rw [Nn.c H4] at hs
  have b := ((Is s hs).2.2.2.2.2.2.2.2.2.2.2.1.eq (by omega)).2
  rw [Hs s hs 3 (by omega), Nn.c (Hs s hs 9 (by omega)), I s hs]
  exact congrArg nI (ltC.c _ (fun l hl => by
    have := Hs s hs (12 + l) (by omega)
    rw [← Nat.add_assoc] at this
    exact this.symm))
theorem MIql.mc (H : ∀ x, (x = 1 ∨ (110 ≤ x ∧ x < 64630)) → m' x = m x) (Ip : ∀ q, vP m q → MIp m q) (H4 : m' 4 = m 4) (Is : ∀ s, s < Nn m 4 → MIs m (64630 + 852 * s) s) (Hs : ∀ s, s < Nn m 4 → ∀ x, x = 3 ∨ x = 9 ∨ (12 ≤ x ∧ x < 432) → m' (64630 + 852 * s + x) = m (64630 + 852 * s + x)) (I : MIql m) : MIql m' := ⟨I.1.mc H Ip, I.2.mc H4 Is Hs⟩
end
