/-! a line is cast: what the memory keeps -/
section
variable {m M : Nat → Int32} {k q l s o i n : Nat} {fr : Int32} {w : List Nat}
theorem cs_of (hs : s < 300) (hk : k < 4) (hq : q < 100) (hl : l < 40) (hi : i < 8) (hw : w.length ≤ 401) (ho : o ≤ s) (hp : o ≠ 0 → plA m (o - 1) = 130 + 645 * q + 45 + l) (hM : M = caM m s k q l i fr w o) : Cs (if o = 0 then m else tkM m (o - 1) (nI 2)) M s k q l i fr w := by
  obtain ⟨B, hB⟩ : ∃ B, B = caB (caX (caH m s q k) s w w.length) s l fr (ltL w w.length) w.length := ⟨_, rfl⟩
  have B0 : ∀ y, (y < 64630 + 852 * s ∨ 64630 + 852 * s + 852 ≤ y) → B y = m y := fun y hy => by rw [hB, caB_o hy, if_pos (by omega)]
  have Bx : ∀ y, y ≠ 64630 + 852 * s + 3 → y ≠ 64630 + 852 * s + 9 → y ≠ 64630 + 852 * s + 4 → y ≠ 64630 + 852 * s + 7 → y ≠ 64630 + 852 * s + 8 → y ≠ 64630 + 852 * s + 10 → y ≠ 64630 + 852 * s + 11 → B y = caX (caH m s q k) s w w.length y := fun y h1 h2 h3 h4 h5 h6 h7 => by
    rw [hB]
    unfold caB
    simp only [up_at]
    rw [if_neg (by omega), if_neg (by omega), if_neg (by omega), if_neg (by omega), if_neg (by omega), if_neg (by omega), if_neg (by omega)]
  have BH : ∀ y, y < 64630 + 852 * s + 3 → B y = caH m s q k y := fun y hy => by
    rw [Bx y (by omega) (by omega) (by omega) (by omega) (by omega) (by omega) (by omega)]
    unfold caX
    rw [if_neg (by omega), if_neg (by omega)]
  obtain ⟨D, hD⟩ : ∃ D, D = if o = 0 then B else caP B (o - 1) := ⟨_, rfl⟩
  have eM : M = caE (lyM D s q l) s k i := by rw [hM, hD, hB]; rfl
  have D0 : ∀ y, (o ≠ 0 → y < 64630 + 852 * (o - 1) + 4 ∨ 64630 + 852 * (o - 1) + 6 < y) → D y = B y := fun y hy => by
    rw [hD]
    by_cases z : o = 0
    · rw [if_pos z]
    · rw [if_neg z]
      have := hy z
      unfold caP
      rw [up_at, if_neg (by omega), up_at, if_neg (by omega), up_at, if_neg (by omega)]
  have L0 : ∀ y, y ≠ 130 + 645 * q + 45 + l → y ≠ 64630 + 852 * s + 5 → y ≠ 64630 + 852 * s + 6 → lyM D s q l y = D y := fun y h1 h2 h3 => by rw [ly_at, if_neg h1, if_neg h3, if_neg h2]
  have E0 : ∀ y, y ≠ 4 → y ≠ 320230 + 183 * k + 30 → y ≠ 337180 + 5 * i + 1 + k → M y = lyM D s q l y := fun y h1 h2 h3 => by
    rw [eM]
    unfold caE
    rw [up_at, if_neg h3, up_at, if_neg h2, up_at, if_neg h1]
  have sl : ∀ y, 64630 + 852 * s ≤ y → y < 64630 + 852 * s + 852 → y ≠ 64630 + 852 * s + 5 → y ≠ 64630 + 852 * s + 6 → M y = B y := fun y h1 h2 h3 h4 => by
    rw [E0 y (by omega) (by omega) (by omega), L0 y (by omega) h3 h4, D0 y (fun z => by omega)]
  refine ⟨fun y h1 h2 h3 h4 h5 => ?_, ⟨?_, ?_, ?_, ?_, ?_, ?_, ?_, ?_, ?_, ?_, ?_, ?_⟩, fun j hj => ?_, ?_, ?_, ?_, ?_⟩
  · rw [E0 y h2 h3 h4, L0 y h5 (by omega) (by omega), hD]
    by_cases z : o = 0
    · rw [if_pos z, if_pos z, B0 y h1]
    · rw [if_neg z, if_neg z, tk_at, hp z]
      unfold caP
      rw [up_at, up_at, up_at, if_neg h5, B0 y h1]
  · rw [sl _ (by omega) (by omega) (by omega) (by omega), BH _ (by omega)]
    unfold caH
    rw [up_at, if_neg (by omega), up_at, if_neg (by omega), up_at, if_pos rfl]
  · rw [sl _ (by omega) (by omega) (by omega) (by omega), BH _ (by omega)]
    unfold caH
    rw [up_at, if_neg (by omega), up_at, if_pos rfl]
  · rw [sl _ (by omega) (by omega) (by omega) (by omega), BH _ (by omega)]
    unfold caH
    rw [up_at, if_pos rfl]
    by_cases z : o = 0
    · rw [if_pos z]
    · rw [if_neg z, tk_at, hp z, if_neg (by omega), if_neg (by omega), if_neg (by omega), if_neg (by omega)]
  · rw [sl _ (by omega) (by omega) (by omega) (by omega), hB]
    unfold caB
    simp only [up_at]
    rw [if_neg (by omega), if_neg (by omega), if_neg (by omega), if_neg (by omega), if_neg (by omega), if_neg (by omega), if_pos trivial]
  · rw [sl _ (by omega) (by omega) (by omega) (by omega), hB]
    unfold caB
    simp only [up_at]
    rw [if_neg (by omega), if_neg (by omega), if_neg (by omega), if_neg (by omega), if_pos trivial]
  · rw [E0 _ (by omega) (by omega) (by omega), ly_at, if_neg (by omega), if_neg (by omega), if_pos rfl]
  · rw [E0 _ (by omega) (by omega) (by omega), ly_at, if_neg (by omega), if_pos rfl]
  · rw [sl _ (by omega) (by omega) (by omega) (by omega), hB]
    unfold caB
    simp only [up_at]
    rw [if_neg (by omega), if_neg (by omega), if_neg (by omega), if_pos trivial]
  · rw [sl _ (by omega) (by omega) (by omega) (by omega), hB]
    unfold caB
    simp only [up_at]
    rw [if_neg (by omega), if_neg (by omega), if_pos trivial]
  · rw [sl _ (by omega) (by omega) (by omega) (by omega), hB]
    unfold caB
    simp only [up_at]
    rw [if_neg (by omega), if_neg (by omega), if_neg (by omega), if_neg (by omega), if_neg (by omega), if_pos trivial]
  · rw [sl _ (by omega) (by omega) (by omega) (by omega), hB]
    unfold caB
    simp only [up_at]
    rw [if_neg (by omega), if_pos trivial]
  · rw [sl _ (by omega) (by omega) (by omega) (by omega), hB]
    unfold caB
    simp only [up_at]
    rw [if_pos trivial]
  · rw [sl _ (by omega) (by omega) (by omega) (by omega), sl _ (by omega) (by omega) (by omega) (by omega), Bx _ (by omega) (by omega) (by omega) (by omega) (by omega) (by omega) (by omega), Bx _ (by omega) (by omega) (by omega) (by omega) (by omega) (by omega) (by omega)]
    unfold caX
    rw [if_pos (by omega), if_neg (by omega), if_pos (by omega), Nat.add_sub_cancel_left, Nat.add_sub_cancel_left]
    exact ⟨rfl, rfl⟩
  · rw [eM]
    unfold caE
    rw [up_at, if_neg (by omega), up_at, if_neg (by omega), up_at, if_pos rfl]
  · rw [eM]
    unfold caE
    rw [up_at, if_neg (by omega), up_at, if_pos rfl, L0 _ (by omega) (by omega) (by omega), D0 _ (fun z => by omega), B0 _ (by omega)]
    by_cases z : o = 0
    · rw [if_pos z]
    · rw [if_neg z, tk_at, hp z, if_neg (by omega), if_neg (by omega), if_neg (by omega), if_neg (by omega)]
  · rw [eM]
    unfold caE
    rw [up_at, if_pos rfl]
  · rw [E0 _ (by omega) (by omega) (by omega), ly_at, if_pos rfl]
/-- MIq only asks what the lines say -/
theorem MIq.pl (H : ∀ y, y = 1 ∨ (110 ≤ y ∧ y < 64630 ∧ ¬ plX y) → M y = m y) (Ip : ∀ q, vP m q → MIp m q) (I : MIq m) : MIq M := by
  intro q hq hs l hl
  have hq' : vP m q := hq.c (H 1 (by omega)).symm (fun _ => (H _ (by have := hq.1; unfold plX; omega)).symm)
  have hb := hq.1
  have e : ∀ x, x < 645 → ¬ (45 ≤ x ∧ x < 85) → M (130 + 645 * q + x) = m (130 + 645 * q + x) := fun x hx hn => H _ (by unfold plX; omega)
  rw [e 3 (by omega) (by omega)] at hs
  rw [Nn.c (e 4 (by omega) (by omega))] at hl
  have J := I q hq' hs l hl
  obtain ⟨-, -, -, -, -, o4, -, -, -, -, -, os⟩ := Ip q hq'
  obtain ⟨-, o4b⟩ := o4.eq (by omega)
  obtain ⟨-, -, -, c3⟩ := os hs
  have ee : ∀ l, l < Nn m (130 + 645 * q + 4) → Nn M (130 + 645 * q + 5 + l) = Nn m (130 + 645 * q + 5 + l) ∧ Nn m (130 + 645 * q + 5 + l) ≤ 39 := fun l hl => by
    have := e (5 + l) (by omega) (by omega)
    rw [← Nat.add_assoc] at this
    exact ⟨Nn.c this, ((c3 l hl).1.eq (by omega)).2⟩
  have ew : ∀ b, b < 41 → Nn M (130 + 645 * q + 85 + b) = Nn m (130 + 645 * q + 85 + b) := fun b hb => by
    have := e (85 + b) (by omega) (by omega)
    rw [← Nat.add_assoc] at this
    exact Nn.c this
  have el : ∀ k, k < 41 → lsN M q k = lsN m q k := fun k hk => lsN.mc k (fun x hx => by
    have := e (125 + x) (by omega) (by omega)
    rwa [← Nat.add_assoc] at this)
  have eg : bgN M q l = bgN m q l ∧ bgN m q l < 41 := by
    unfold bgN
    by_cases z : l = 0
    · rw [if_pos z, if_pos z]; exact ⟨Eq.refl _, by omega⟩
    · obtain ⟨c1, c2⟩ := ee (l - 1) (by omega)
      rw [if_neg z, if_neg z, c1]; exact ⟨Eq.refl _, by omega⟩
  obtain ⟨d1, d2⟩ := ee l hl
  rw [d1, eg.1, el _ (by omega), el _ eg.2, ew _ (by omega), ew _ eg.2]
  exact J
theorem ltL_le : ∀ n, ltL w n ≤ n
  | 0 => Nat.le_refl _
  | n + 1 => by
    have := ltL_le n
    show ltL w n + (if nI (w.getD n 0) = nI 32 then 0 else 1) ≤ n + 1
    split <;> omega
theorem vP.c4 (H : ∀ x, x < 130 → x ≠ 4 → M x = m x) {q : Nat} (hq : vP m q) : vP M q := hq.c (H 1 (by omega) (by omega)) (fun _ => H _ (by have := hq.1; omega) (by omega))
theorem MIs.m4 {g s : Nat} (Hb : ∀ x, x < 130 → x ≠ 4 → M x = m x) (H : ∀ x, x < 852 → M (g + x) = m (g + x)) (Hp : m (g + 4) = nI 0 → M (130 + 645 * Nn m (g + 6) + 3) = m (130 + 645 * Nn m (g + 6) + 3) ∧ M (130 + 645 * Nn m (g + 6) + 4) = m (130 + 645 * Nn m (g + 6) + 4) ∧ M (130 + 645 * Nn m (g + 6) + 45 + Nn m (g + 5)) = m (130 + 645 * Nn m (g + 6) + 45 + Nn m (g + 5))) (I : MIs m g s) : MIs M g s := by
  obtain ⟨a0, a1, a2, a3, a4, a5, a6, a7, a8, a9, a10, a11, a12, a13, a14, a15, a16⟩ := I
  have e0 : M g = m g := H 0 (by omega)
  have e9 := (a11.eq (by omega)).2
  refine ⟨a0.c e0, by rw [Nn.c e0]; exact a1.c4 Hb, a2.c (H _ (by omega)), by rw [Nn.c (H 1 (by omega)), Nn.c (Hb 3 (by omega) (by omega))]; exact a3, a4.c (H _ (by omega)), by rw [Nn.c (H 2 (by omega)), Nn.c (Hb 0 (by omega) (by omega))]; exact a5, by rw [Nn.c (H 2 (by omega))]; exact a6, a7.c (H _ (by omega)), a8.c (H _ (by omega)), a9.c (H _ (by omega)), a10.c (H _ (by omega)), a11.c (H _ (by omega)), a12.c (H _ (by omega)), a13.c (H _ (by omega)), fun i hi => ?_, by rw [H 4 (by omega), H 5 (by omega), H 6 (by omega)]; exact a15, ?_⟩
  · rw [Nn.c (H 9 (by omega))] at hi
    have h1 := H (12 + i) (by omega)
    have h2 := H (432 + i) (by omega)
    rw [← Nat.add_assoc] at h1 h2
    exact ⟨(a14 i hi).1.c h1, (a14 i hi).2.c h2⟩
  · rw [H 4 (by omega)]
    intro hz
    obtain ⟨c1, c2, c3, c4, c5, c6⟩ := a16 hz
    obtain ⟨p1, p2, p3⟩ := Hp hz
    rw [Nn.c (H 5 (by omega)), Nn.c (H 6 (by omega)), p1, Nn.c p2, p3]
    exact ⟨c1.c (H _ (by omega)), c2.c (H _ (by omega)), c3.c4 Hb, c4, c5, c6⟩
theorem MIm.m4 {k : Nat} (hk : k < Nn m 3) (hk3 : Nn m 3 ≤ 4) (Hb : ∀ x, x < 130 → x ≠ 4 → M x = m x) (H : ∀ x, 320230 ≤ x → x < 320962 → (∀ k', k' < 4 → x ≠ 320230 + 183 * k' + 30) → M x = m x) (Hp : ∀ j, j < Nn m (320230 + 183 * k + 29) → ∀ y, 2 ≤ y → y ≤ 4 → M (130 + 645 * Nn m (320230 + 183 * k + 33 + 5 * j) + y) = m (130 + 645 * Nn m (320230 + 183 * k + 33 + 5 * j) + y)) (hj : ∀ k', k' < Nn m 3 → Nn m (320230 + 183 * k' + 29) ≤ 30) (I : MIm m k) : MIm M k := by
  obtain ⟨a0, a1, a2, a3, a4⟩ := I
  have e : ∀ x, x < 183 → x ≠ 30 → M (320230 + 183 * k + x) = m (320230 + 183 * k + x) := fun x hx h0 => H _ (by omega) (by omega) (fun k' h4 => by omega)
  have hn := hj k hk
  refine ⟨fun i hi => (a0 i hi).c (e i (by omega) (by omega)), a1.c (e _ (by omega) (by omega)), a2.c (e _ (by omega) (by omega)), a3.c (e _ (by omega) (by omega)), fun j hj2 => ?_⟩
  rw [Nn.c (e 29 (by omega) (by omega))] at hj2
  have e1 : ∀ x, x < 5 → M (320230 + 183 * k + 33 + 5 * j + x) = m (320230 + 183 * k + 33 + 5 * j + x) := fun x hx => H _ (by omega) (by omega) (fun k' h4 => by rcases Nat.lt_or_ge k k' with z | z <;> omega)
  have e2 : M (320230 + 183 * k + 33 + 5 * j) = m (320230 + 183 * k + 33 + 5 * j) := e1 0 (by omega)
  have hp := Hp j hj2
  obtain ⟨b1, b2, b3, b4, b5, b6, b7, b8⟩ := a4 j hj2
  rw [Nn.c e2, Nn.c (e1 1 (by omega)), Nn.c (e1 2 (by omega)), e1 4 (by omega), e1 1 (by omega), hp 2 (by omega) (by omega), hp 3 (by omega) (by omega), Nn.c (hp 4 (by omega) (by omega)), Nn.c (Hb 3 (by omega) (by omega)), e2]
  refine ⟨b1.c e2, b2.c4 Hb, b3.c (e1 1 (by omega)), b4.c (e1 2 (by omega)), b5.c (e1 3 (by omega)), b6.c (e1 4 (by omega)), b7, fun hf => ?_⟩
  obtain ⟨c1, c2, c3, c4⟩ := b8 hf
  refine ⟨c1, c2, c3, fun k' hk' j' hj' => ?_⟩
  have h30 := hj k' hk'
  rw [Nn.c (H (320230 + 183 * k' + 29) (by omega) (by omega) (fun k' h4 => by omega))] at hj'
  rw [H (320230 + 183 * k' + 33 + 5 * j' + 4) (by omega) (by omega) (fun k' h4 => by omega), H (320230 + 183 * k' + 33 + 5 * j') (by omega) (by omega) (fun k' h4 => by omega)]
  exact c4 k' hk' j' hj'
/-- a slug more -/
theorem cs_mi (I : MI m) (es0 : s = Nn m 4) (hs : s < 300) (hk : k < Nn m 3) (vq : vP m q) (es : m (130 + 645 * q + 3) = nI 1) (hl : l < Nn m (130 + 645 * q + 4)) (z0 : m (130 + 645 * q + 45 + l) = nI 0) (n0 : 1 ≤ Nn m 0) (hi : i < 8) (hfr : oN M (64630 + 852 * s + 7) 1) (hw : w.length ≤ 401) (hw2 : ∀ j, j < w.length → w.getD j 0 ≤ 122) (H : Cs m M s k q l i fr w) : MI M := by
  obtain ⟨H0, ⟨c0, c1, c2, c3, c4, c5, c6, c7, c8, c9, c10, c11⟩, ct, e4, e30, er, ep⟩ := H
  obtain ⟨B, Ip, Is, Im, Ih, Iy, Iz, Iq, Il⟩ := I
  obtain ⟨⟨g0, f0⟩, ⟨g1, f1⟩, ⟨g2, f2⟩, ⟨g3, f3⟩, ⟨g4, f4⟩, ⟨g5, f5⟩, ⟨g6, f6⟩, ⟨g7, f7⟩⟩ := B.f
  have vb := vq.1
  obtain ⟨-, l4⟩ := (Ip q vq).2.2.2.2.2.1.eq (by omega)
  have Hb : ∀ x, x < 130 → x ≠ 4 → M x = m x := fun x hx h4 => H0 x (by omega) h4 (by omega) (by omega) (by omega)
  have n4 : Nn M 4 = s + 1 := by unfold Nn; rw [e4, nCl (by omega)]
  have Hm : ∀ x, 320230 ≤ x → x < 320962 → (∀ k', k' < 4 → x ≠ 320230 + 183 * k' + 30) → M x = m x := fun x h1 h2 h3 => H0 x (by omega) (by omega) (h3 k (by omega)) (by omega) (by omega)
  have Hp : ∀ x, 130 ≤ x → x < 64630 → x ≠ 130 + 645 * q + 45 + l → M x = m x := fun x h1 h2 h3 => H0 x (by omega) (by omega) (by omega) (by omega) h3
  have He : ∀ x, 320962 ≤ x → x < 337180 → M x = m x := fun x h1 h2 => H0 x (by omega) (by omega) (by omega) (by omega) (by omega)
  have Hs : ∀ s', s' < s → ∀ x, x < 852 → M (64630 + 852 * s' + x) = m (64630 + 852 * s' + x) := fun s' h1 x hx => H0 _ (by omega) (by omega) (by omega) (by omega) (by omega)
  refine ⟨?_, fun q' hq' => ?_, fun s' hs' => ?_, fun k' hk' => ?_, ?_, fun y hy => ?_, ?_, ?_, fun s' hs' => ?_⟩
  · obtain ⟨b0, b1, b2, b3, b4, b5, b6, b7, bw, bs⟩ := B
    refine ⟨b0.c (Hb 0 (by omega) (by omega)), b1.c (Hb 1 (by omega) (by omega)), b2.c (Hb 2 (by omega) (by omega)), b3.c (Hb 3 (by omega) (by omega)), ⟨s + 1, by omega, e4⟩, b5.c (Hb 5 (by omega) (by omega)), b6.c (Hb 6 (by omega) (by omega)), by rw [Hb 7 (by omega) (by omega), Nn.c (Hb 0 (by omega) (by omega))]; exact b7, fun j hj => ?_, fun j hj => ?_⟩
    · rw [Nn.c (Hb (16 + j) (by omega) (by omega))]
      exact ⟨(bw j hj).1.c (Hb (16 + j) (by omega) (by omega)), (bw j hj).2⟩
    · rw [Nn.c (Hb 1 (by omega) (by omega))] at hj
      rw [Nn.c (Hb (110 + j) (by omega) (by omega))]
      obtain ⟨d1, d2, d3, d4⟩ := bs j hj
      exact ⟨d1.c (Hb (70 + j) (by omega) (by omega)), d2.c (Hb (90 + j) (by omega) (by omega)), d3.c (Hb (110 + j) (by omega) (by omega)), d4⟩
  · have hq : vP m q' := hq'.c (Hb 1 (by omega) (by omega)).symm (fun _ => (Hb _ (by have := hq'.1; omega) (by omega)).symm)
    have hb := hq.1
    obtain ⟨o0, o1, o1', o2, o3, o4, ob, ow, ow1, ow2, oz, os⟩ := Ip q' hq
    obtain ⟨-, o1b⟩ := o1.eq (by omega)
    obtain ⟨-, o4b⟩ := o4.eq (by omega)
    have e : ∀ x, x < 645 → ¬ (45 ≤ x ∧ x < 85) → M (130 + 645 * q' + x) = m (130 + 645 * q' + x) := fun x hx hn => Hp _ (by omega) (by omega) (by omega)
    have e0 : M (130 + 645 * q') = m (130 + 645 * q') := e 0 (by omega) (by omega)
    have ew : ∀ b, b < 40 → M (130 + 645 * q' + 85 + b) = m (130 + 645 * q' + 85 + b) := fun b hb => by
      have := e (85 + b) (by omega) (by omega)
      rwa [← Nat.add_assoc] at this
    have el : ∀ b, b < 40 → M (130 + 645 * q' + 125 + b) = m (130 + 645 * q' + 125 + b) := fun b hb => by
      have := e (125 + b) (by omega) (by omega)
      rwa [← Nat.add_assoc] at this
    have ee : ∀ b, b < 40 → M (130 + 645 * q' + 5 + b) = m (130 + 645 * q' + 5 + b) := fun b hb => by
      have := e (5 + b) (by omega) (by omega)
      rwa [← Nat.add_assoc] at this
    have n1 := Nn.c (e 1 (by omega) (by omega))
    have n4' := Nn.c (e 4 (by omega) (by omega))
    refine ⟨o0.c e0, o1.c (e 1 (by omega) (by omega)), by rw [n1]; exact o1', o2.c (e 2 (by omega) (by omega)), o3.c (e 3 (by omega) (by omega)), o4.c (e 4 (by omega) (by omega)), fun b hb => ?_, by rw [Nn.c (e 85 (by omega) (by omega))]; exact ow, fun b hb => ?_, ?_, by rw [e 3 (by omega) (by omega), e 4 (by omega) (by omega)]; exact oz, ?_⟩
    · rw [n1] at hb
      obtain ⟨c1, c2, c3, c4⟩ := ob b hb
      have c2b := (c2.eq (by omega)).2
      refine ⟨c1.c (ew b (by omega)), c2.c (el b (by omega)), by rw [Nn.c (el b (by omega))]; exact c3, fun j hj => ?_⟩
      rw [Nn.c (el b (by omega))] at hj
      have := e (165 + 12 * b + j) (by omega) (by omega)
      rw [← Nat.add_assoc, ← Nat.add_assoc] at this
      exact (c4 j hj).c this
    · rw [n1] at hb
      rw [Nn.c (ew b (by omega)), Nn.c (ew (b + 1) (by omega))]
      exact ow1 b hb
    · rw [n1, Nn.c (ew _ (by omega)), Nn.c e0]
      exact ow2
    · rw [e 3 (by omega) (by omega), e 2 (by omega) (by omega), n4', n1, Nn.c (ee _ (by omega))]
      intro hs3
      obtain ⟨c0, c1, c2, c3⟩ := os hs3
      refine ⟨c0, c1, c2, fun l' hl' => ?_⟩
      obtain ⟨d1, d2, d3, d4⟩ := c3 l' hl'
      rw [Nn.c (ee l' (by omega)), n4]
      by_cases z : 130 + 645 * q' + 45 + l' = 130 + 645 * q + 45 + l
      · have e1 : q' = q := by omega
        have e2 : l' = l := by omega
        subst e1 e2
        have np : Nn M (130 + 645 * q' + 45 + l') = s + 1 := by unfold Nn; rw [ep, nCl (by omega)]
        rw [np, Nat.add_sub_cancel]
        exact ⟨d1.c (ee l' (by omega)), ⟨s + 1, by omega, ep⟩, fun h2 => by rw [Nn.c (ee (l' + 1) (by omega))]; exact d3 h2, fun _ => ⟨Nat.le_refl _, c4, c5, c6⟩⟩
      · have e45 := Hp (130 + 645 * q' + 45 + l') (by omega) (by omega) z
        rw [e45, Nn.c e45]
        refine ⟨d1.c (ee l' (by omega)), d2.c e45, fun h2 => by rw [Nn.c (ee (l' + 1) (by omega))]; exact d3 h2, fun hn => ?_⟩
        obtain ⟨g1, g2, g3, g4⟩ := d4 hn
        have hx : 1 ≤ Nn m (130 + 645 * q' + 45 + l') := by
          obtain ⟨d20, -⟩ := d2.eq (by omega)
          rcases Nat.eq_zero_or_pos (Nn m (130 + 645 * q' + 45 + l')) with y | y
          · exact absurd (by rw [d20, y]) hn
          · exact y
        rw [Hs _ (by omega) 4 (by omega), Hs _ (by omega) 5 (by omega), Hs _ (by omega) 6 (by omega)]
        exact ⟨by omega, g2, g3, g4⟩
  · rw [n4] at hs'
    by_cases z : s' = s
    · subst z
      have nq : Nn M (64630 + 852 * s') = q := by unfold Nn; rw [c0, nCl (by omega)]
      have nk : Nn M (64630 + 852 * s' + 1) = k := by unfold Nn; rw [c1, nCl (by omega)]
      have nt : Nn M (64630 + 852 * s' + 2) = Nn m 0 := by unfold Nn; rw [c2]
      have n9 : Nn M (64630 + 852 * s' + 9) = w.length := by unfold Nn; rw [c9, nCl (by omega)]
      have nl : Nn M (64630 + 852 * s' + 5) = l := by unfold Nn; rw [c5, nCl (by omega)]
      have nq6 : Nn M (64630 + 852 * s' + 6) = q := by unfold Nn; rw [c6, nCl (by omega)]
      have lt := ltL_le (w := w) w.length
      refine ⟨⟨q, by omega, c0⟩, by rw [nq]; exact vq.c4 Hb, ⟨k, by omega, c1⟩, by rw [nk, Nn.c (Hb 3 (by omega) (by omega))]; exact hk, ⟨Nn m 0, by omega, by rw [c2]; exact g0⟩, by rw [nt, Nn.c (Hb 0 (by omega) (by omega))]; exact Nat.le_refl _, by rw [nt]; exact n0, ⟨_, by omega, c3⟩, ⟨0, by omega, c4⟩, hfr, ⟨l, by omega, c8⟩, ⟨w.length, by omega, c9⟩, ⟨0, by omega, c10⟩, ⟨0, by omega, c11⟩, fun j hj => ?_, fun hn => absurd c4 hn, fun _ => ⟨⟨l, by omega, c5⟩, ⟨q, by omega, c6⟩, by rw [nq6]; exact vq.c4 Hb, ?_, ?_, ?_⟩⟩
      · rw [n9] at hj
        exact ⟨⟨_, hw2 j hj, (ct j hj).1⟩, ⟨_, hw2 j hj, (ct j hj).2⟩⟩
      · rw [nq6, Hp _ (by omega) (by omega) (by omega)]; exact es
      · rw [nq6, nl, Nn.c (Hp (130 + 645 * q + 4) (by omega) (by omega) (by omega))]; exact hl
      · rw [nq6, nl]; exact ep
    · have hs2 : s' < s := by omega
      have J := Is s' (by omega)
      refine J.m4 Hb (Hs s' hs2) (fun hz => ?_)
      obtain ⟨d1, d2, d3, d4, d5, d6⟩ := J.2.2.2.2.2.2.2.2.2.2.2.2.2.2.2.2 hz
      have db := d3.1
      obtain ⟨-, dl⟩ := (Ip _ d3).2.2.2.2.2.1.eq (by omega)
      refine ⟨Hp _ (by omega) (by omega) (by omega), Hp _ (by omega) (by omega) (by omega), Hp _ (by omega) (by omega) (fun e => ?_)⟩
      rw [e, z0, nEq (by omega) (by omega)] at d6
      omega
  · rw [Nn.c (Hb 3 (by omega) (by omega))] at hk'
    refine (Im k' hk').m4 hk' f3 Hb Hm (fun j hj y h1 h2 => ?_) (fun k2 hk2 => ((Im k2 hk2).2.2.2.1.eq (by omega)).2)
    have := ((Im k' hk').2.2.2.2 j hj).2.1.1
    exact Hp _ (by omega) (by omega) (by omega)
  · obtain ⟨a0, a1, a2, a3⟩ := Ih
    refine ⟨fun p hp => ?_, fun e he p hp => ?_, fun j hj => ?_, fun t ht => ?_⟩
    · obtain ⟨b1, b2, b3, b4, b5⟩ := a0 p hp
      exact ⟨b1.c (He _ (by omega) (by omega)), by rw [Nn.c (He _ (by omega) (by omega))]; exact b2, b3.c (He _ (by omega) (by omega)), by rw [Nn.c (He _ (by omega) (by omega))]; exact b4, b5.c (He _ (by omega) (by omega))⟩
    · rw [Nn.c (Hb 6 (by omega) (by omega))] at he
      exact (a1 e he p hp).c (He _ (by omega) (by omega))
    · rw [Nn.c (Hb 7 (by omega) (by omega))] at hj ⊢
      rw [H0 _ (by omega) (by omega) (by omega) (by omega) (by omega), Nn.c (Hb 0 (by omega) (by omega))]
      exact a2 j hj
    · rw [Nn.c (Hb 5 (by omega) (by omega))] at ht
      obtain ⟨b1, b2, b3, b4⟩ := a3 t ht
      exact ⟨b1.c (He _ (by omega) (by omega)), b2.c (He _ (by omega) (by omega)), b3.c (He _ (by omega) (by omega)), b4.c (He _ (by omega) (by omega))⟩
  · rw [Nn.c (Hb 2 (by omega) (by omega))] at hy
    exact (Iy y hy).mc fun x hx => He _ (by omega) (by omega)
  · refine ⟨fun q' h1 h2 => ?_, fun k' h1 h2 j h3 h4 => ?_⟩
    · rw [Nn.c (Hb 1 (by omega) (by omega))] at h2
      rw [Hp _ (by omega) (by omega) (by omega), Hp _ (by omega) (by omega) (by omega), Hp _ (by omega) (by omega) (by omega)]
      exact Iz.1 q' h1 h2
    · rw [Nn.c (Hb 3 (by omega) (by omega))] at h1
      rw [H0 _ (by omega) (by omega) (by omega) (by omega) (by omega)]
      exact Iz.2 k' h1 h2 j h3 h4
  · refine MIq.pl (fun y hy => ?_) Ip Iq
    rcases hy with rfl | ⟨h1, h2, h3⟩
    · exact Hb 1 (by omega) (by omega)
    · unfold plX at h3
      exact H0 _ (by omega) (by omega) (by omega) (by omega) (by omega)
  · rw [n4] at hs'
    by_cases z : s' = s
    · subst z
      have n9 : Nn M (64630 + 852 * s' + 9) = w.length := by unfold Nn; rw [c9, nCl (by omega)]
      rw [c3, n9]
      unfold ltL
      exact congrArg nI (ltC.c _ (fun j hj => (ct j hj).1.symm))
    · have hs2 : s' < s := by omega
      have J := Is s' (by omega)
      have l9 := (J.2.2.2.2.2.2.2.2.2.2.2.1.eq (by omega)).2
      rw [Hs s' hs2 3 (by omega), Nn.c (Hs s' hs2 9 (by omega)), Il s' (by omega)]
      refine congrArg nI (ltC.c _ (fun j hj => ?_))
      have := Hs s' hs2 (12 + j) (by omega)
      rw [← Nat.add_assoc] at this
      exact this.symm
end
