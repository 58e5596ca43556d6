/-! give: a part is given to a machine -/
section
variable {tg : Nat → List Nat} {h h1 h' : Hp} {m M k t : Nat → Int32} {i n f : Int32} {q : Nat}
theorem MIq.acc (mo : ∀ y, y ≠ 130 + 645 * q + 2 → M y = m y) (Ip : ∀ q, vP m q → MIp m q) (I : MIq m) : MIq M := by
  intro q' hq hs l hl
  have hq' : vP m q' := hq.c (mo 1 (by omega)).symm (fun _ => (mo _ (by have := hq.1; omega)).symm)
  have hb := hq.1
  have e : ∀ x, 3 ≤ x → x < 645 → M (130 + 645 * q' + x) = m (130 + 645 * q' + x) := fun x h3 hx => mo _ (by omega)
  rw [e 3 (by omega) (by omega)] at hs
  rw [Nn.c (e 4 (by omega) (by omega))] at hl
  have J := I q' hq' hs l hl
  obtain ⟨-, -, -, -, -, o4, -, -, -, -, -, os⟩ := Ip q' hq'
  obtain ⟨-, o4b⟩ := o4.eq (by omega)
  obtain ⟨-, -, -, c3⟩ := os hs
  have ee : ∀ l, l < Nn m (130 + 645 * q' + 4) → Nn M (130 + 645 * q' + 5 + l) = Nn m (130 + 645 * q' + 5 + l) ∧ Nn m (130 + 645 * q' + 5 + l) ≤ 39 := fun l hl => by
    have := e (5 + l) (by omega) (by omega)
    rw [← Nat.add_assoc] at this
    exact ⟨Nn.c this, ((c3 l hl).1.eq (by omega)).2⟩
  have ew : ∀ b, b < 41 → Nn M (130 + 645 * q' + 85 + b) = Nn m (130 + 645 * q' + 85 + b) := fun b hb => by
    have := e (85 + b) (by omega) (by omega)
    rw [← Nat.add_assoc] at this
    exact Nn.c this
  have el : ∀ k, k < 41 → lsN M q' k = lsN m q' k := fun k hk => lsN.mc k (fun x hx => by
    have := e (125 + x) (by omega) (by omega)
    rwa [← Nat.add_assoc] at this)
  have eg : bgN M q' l = bgN m q' l ∧ bgN m q' l < 41 := by
    unfold bgN
    by_cases z : l = 0
    · rw [if_pos z, if_pos z]; exact ⟨Eq.refl _, by omega⟩
    · obtain ⟨c1, c2⟩ := ee (l - 1) (by omega)
      rw [if_neg z, if_neg z, c1]; exact ⟨Eq.refl _, by omega⟩
  obtain ⟨d1, d2⟩ := ee l hl
  rw [d1, eg.1, el _ (by omega), el _ eg.2, ew _ (by omega), ew _ eg.2]
  exact J
theorem MIql.acc (hq : q < 100) (mo : ∀ y, y ≠ 130 + 645 * q + 2 → M y = m y) (Ip : ∀ q, vP m q → MIp m q) (Is : ∀ s, s < Nn m 4 → MIs m (64630 + 852 * s) s) (I : MIql m) : MIql M := ⟨I.1.acc mo Ip, I.2.mc (mo 4 (by omega)) Is (fun s hs x hx => mo _ (by omega))⟩
/-- no job speaks of a part that wasn't given -/
theorem jb_ne (I : MI m) (e2 : m (130 + 645 * q + 2) = nI 0) {c j : Nat} (hc : c < Nn m 3) (hj : j < Nn m (320230 + 183 * c + 29)) : Nn m (320230 + 183 * c + 33 + 5 * j) ≠ q := fun e => by
  obtain ⟨c1, c2, c3, c4, c5, c6, c7, c8⟩ := (I.2.2.2.1 c hc).2.2.2.2 j hj
  obtain ⟨y, hy, ey⟩ := c6
  have a1 : m (130 + 645 * Nn m (320230 + 183 * c + 33 + 5 * j) + 2) = nI 1 := by
    rcases (show y = 0 ∨ y = 1 by omega) with rfl | rfl
    · exact ((I.2.1 _ c2).2.2.2.2.2.2.2.2.2.2.2 (c7 ey).1).1
    · exact (c8 ey).1
  rw [e, e2] at a1
  exact absurd a1 (by decide)
theorem ac_mi (I : MI m) (vq : vP m q) (e2 : m (130 + 645 * q + 2) = nI 0) (mo : ∀ y, y ≠ 130 + 645 * q + 2 → M y = m y) (e1 : M (130 + 645 * q + 2) = nI 1) : MI M := by
  have JN := fun c j hc hj => jb_ne I e2 (c := c) (j := j) hc hj
  obtain ⟨B, Ip, Is, Im, Ih, Iy, Iz, Iq⟩ := I
  obtain ⟨⟨-, f0⟩, ⟨-, f1⟩, ⟨-, f2⟩, ⟨-, f3⟩, ⟨-, f4⟩, -⟩ := B.f
  have vb := vq.1
  have Hb : ∀ x, x < 130 → M x = m x := fun x hx => mo x (by omega)
  refine ⟨B.mc Hb, fun q' hq => ?_, fun s hs => ?_, fun k hk => ?_, Ih.mc B (fun x hx => mo x (by omega)) (fun x h1 h2 => mo x (by omega)), fun y hy => ?_, Iz.mc (fun x hx => mo x (by omega)) (fun q' h1 h2 y h3 h4 => mo _ (fun e => by
    have z : q' = q := by omega
    subst z
    exact absurd vq.2.1 (by omega))) (fun k h1 h2 y h3 h4 => mo _ (by omega)), Iq.acc vb mo Ip Is⟩
  · have hq' := hq.b' Hb
    have hb := hq.1
    by_cases z : q' = q
    · subst z
      obtain ⟨o0, o1, o1', o2, o3, o4, ob, ow, ow1, ow2, oz, os⟩ := Ip q' hq'
      obtain ⟨-, o1b⟩ := o1.eq (by omega)
      have n3 : m (130 + 645 * q' + 3) ≠ nI 1 := fun e => by
        have := (os e).1
        rw [e2] at this
        exact absurd this (by decide)
      have e : ∀ x, x ≠ 2 → x < 645 → M (130 + 645 * q' + x) = m (130 + 645 * q' + x) := fun x hx h1 => mo _ (by omega)
      have e0 : M (130 + 645 * q') = m (130 + 645 * q') := e 0 (by omega) (by omega)
      have ew : ∀ b, b < 40 → M (130 + 645 * q' + 85 + b) = m (130 + 645 * q' + 85 + b) := fun b hb => mo _ (by omega)
      have el : ∀ b, b < 40 → M (130 + 645 * q' + 125 + b) = m (130 + 645 * q' + 125 + b) := fun b hb => mo _ (by omega)
      have n1 := Nn.c (e 1 (by omega) (by omega))
      refine ⟨o0.c e0, o1.c (e 1 (by omega) (by omega)), by rw [n1]; exact o1', ⟨1, by omega, e1⟩, o3.c (e 3 (by omega) (by omega)), o4.c (e 4 (by omega) (by omega)), fun b hb => ?_, by rw [Nn.c (e 85 (by omega) (by omega))]; exact ow, fun b hb => ?_, ?_, by rw [e 3 (by omega) (by omega), e 4 (by omega) (by omega)]; exact oz, fun y => absurd ((e 3 (by omega) (by omega)).symm.trans y) n3⟩
      · rw [n1] at hb
        obtain ⟨c1, c2, c3, c4⟩ := ob b hb
        refine ⟨c1.c (ew b (by omega)), c2.c (el b (by omega)), by rw [Nn.c (el b (by omega))]; exact c3, fun i hi => ?_⟩
        rw [Nn.c (el b (by omega))] at hi
        exact (c4 i hi).c (mo _ (by omega))
      · rw [n1] at hb
        rw [Nn.c (ew b (by omega)), Nn.c (ew (b + 1) (by omega))]
        exact ow1 b hb
      · rw [n1, Nn.c (ew _ (by omega)), Nn.c e0]
        exact ow2
    · refine (Ip q' hq').mc fun x hx => ?_
      rcases hx with rfl | ⟨h1, h2⟩ | ⟨l, hl, hz, h1, h2⟩
      · exact mo _ (by omega)
      · exact mo _ (by omega)
      · exact mo _ (by omega)
  · rw [Nn.c (Hb 4 (by omega))] at hs
    refine (Is s hs).mc Hb (fun x hx => mo _ (by omega)) fun hz => ?_
    obtain ⟨-, -, -, -, -, -, -, -, -, -, -, -, -, -, -, -, a16⟩ := Is s hs
    have := (a16 hz).2.2.1.1
    have := ((a16 hz).1.eq (by omega)).2
    exact ⟨mo _ (by omega), mo _ (by omega), mo _ (by omega)⟩
  · rw [Nn.c (Hb 3 (by omega))] at hk
    refine (Im k hk).mc hk f3 Hb (fun x h1 h2 => mo _ (by omega)) (fun j hj y h1 h2 => ?_) (fun k' hk' => ((Im k' hk').2.2.2.1.eq (by omega)).2)
    have a1 := JN k j hk hj
    exact mo _ (by omega)
  · rw [Nn.c (Hb 2 (by omega))] at hy
    exact (Iy y hy).mc fun x hx => mo _ (by omega)
theorem ac_rm {p : Nat} (O : Own tg h) (X : XS h) (S : RmS h 19) (V : RmV h 19 m) (I : MI m) (vq : vP m q) (hp : p = gP h (gP h 19 5) q) (p0 : p ≠ 0) (mo : ∀ y, y ≠ 130 + 645 * q + 2 → M y = m y) (e1 : M (130 + 645 * q + 2) = nI 1) : Fr (fun y => y ≠ 0 ∧ [q, 5, 5] <:+ tg y) h (sI h p 10 (nI 1)) ∧ RmS (sI h p 10 (nI 1)) 19 ∧ RmV (sI h p 10 (nI 1)) 19 M := by
  have K : Rt tg h 19 5 := by
    obtain ⟨-, -, t3, -, -, -, t19, -⟩ := tgs O X
    exact ⟨O, t3, t19, by omega, by omega⟩
  have vb := vq.1
  have tp := K.o (k := 5) (j := q) (by rw [← hp]; exact p0)
  rw [← hp] at tp
  have F : Fr (fun y => y ≠ 0 ∧ [q, 5, 5] <:+ tg y) h (sI h p 10 (nI 1)) := Fr.sI (S := fun y => y ≠ 0 ∧ [q, 5, 5] <:+ tg y) ⟨p0, by rw [tp]; exact List.suffix_refl _⟩
  have sf := obj_sm (s0 := q) (F := 5) O K.2.1 K.2.2.1 (by omega) (show 19 ≠ 0 by omega) F (fun y hy => by rw [K.2.2.1]; exact hy)
  obtain ⟨s0, s1, s2⟩ := sf
  have nk : ∀ j, gP h p j ≠ p := fun j e => by
    have e2 : gP h (gP h (gP h 19 5) q) j = p := by rw [← hp]; exact e
    have := K.q (k := 5) (j := q) (i := j) (by rw [e2]; exact p0)
    rw [e2, tp] at this
    have := congrArg List.length this
    simp at this
  refine ⟨F, S.of F ?_, ?_⟩
  · obtain ⟨n1, n2, n3, n4, n5⟩ := S.n
    unfold RmN
    simp only [gP_sI]
    refine ⟨?_, ?_, fun q' hq => ?_, fun c hk => ?_, fun s hs => ?_⟩
    · rw [(s1 4).2.2.1]; exact n1
    · rw [(s2 14 8 (by omega)).1.2.2.1, (s2 14 9 (by omega)).1.2.2.1]; exact n2
    · have b := n3 q' hq
      by_cases z : q' = q
      · subst z
        rw [← hp] at b ⊢
        rw [gI_sI, if_neg (nk 1), gI_sI, if_pos (Eq.refl p), up_at, if_pos (Eq.refl 10), up_at, if_neg (show ¬ 11 = 10 by omega), gI_sI, if_neg (nk 2)]
        exact ⟨b.1, Or.inr (Eq.refl _), b.2.2.1, b.2.2.2⟩
      · rw [((s2 5 q' (by omega)).2 1).2.2.1, (s2 5 q' (by omega)).1.2.2.1, ((s2 5 q' (by omega)).2 2).2.2.1]
        exact b
    · rw [(s2 8 c (by omega)).1.2.2.1, ((s2 8 c (by omega)).2 10).2.2.1]; exact n4 c hk
    · rw [(s2 10 s (by omega)).1.2.2.1]; exact n5 s hs
  · obtain ⟨B, Ip, Is, Im, Ih, Iy, Iz⟩ := id I
    obtain ⟨⟨-, f0⟩, ⟨-, f1⟩, ⟨-, f2⟩, ⟨-, f3⟩, ⟨-, f4⟩, -⟩ := B.f
    obtain ⟨a1, a2, a3, a4, a5, a6, a7, c1, c2, c3, c4, d⟩ := V
    have Hb : ∀ x, x < 130 → M x = m x := fun x hx => mo x (by omega)
    have n1 : Nn M 1 = Nn m 1 := Nn.c (Hb 1 (by omega))
    have n2 : Nn M 2 = Nn m 2 := Nn.c (Hb 2 (by omega))
    have n3 : Nn M 3 = Nn m 3 := Nn.c (Hb 3 (by omega))
    have n4 : Nn M 4 = Nn m 4 := Nn.c (Hb 4 (by omega))
    unfold RmV
    simp only [gP_sI]
    rw [s0.2.2.1, (s1 1).2.2.1, (s1 6).2.2.1, (s1 12).2.2.1, (s1 13).2.2.1, n1, n2, n3, n4, Hb 0 (by omega), Hb 1 (by omega), Hb 2 (by omega), Hb 3 (by omega), Hb 4 (by omega)]
    refine ⟨a1, a2, a3, a4, a5, fun i hi => by rw [Hb _ (by omega)]; exact a6 i hi, fun s hs => by rw [Hb _ (by omega)]; exact a7 s hs, fun q' hq => ?_, fun c hk => ?_, fun s hs1 => ?_, fun y hy => ?_, ?_⟩
    · have hq' : vP m q' := hq.b' Hb
      have hb := hq.1
      refine ⟨(c1 q' hq').1, ?_⟩
      by_cases z : q' = q
      · subst z
        have b := (c1 q' hq').2
        rw [← hp] at b ⊢
        obtain ⟨b1, b2, b3, b4, b5, b6, b7, b8, b9⟩ := b
        obtain ⟨o0, o1, o1', o2, o3, o4, ob, -⟩ := Ip q' hq'
        obtain ⟨-, o1b⟩ := o1.eq (by omega)
        obtain ⟨-, o4b⟩ := o4.eq (by omega)
        have e : ∀ x, x ≠ 2 → M (130 + 645 * q' + x) = m (130 + 645 * q' + x) := fun x hx => mo _ (by omega)
        have e0 : M (130 + 645 * q') = m (130 + 645 * q') := mo _ (by omega)
        have g : ∀ j, j ≠ 10 → gI (sI h p 10 (nI 1)) p j = gI h p j := fun j hj => by rw [gI2, if_neg (fun e => hj e.2)]
        have ga : ∀ j, gI (sI h p 10 (nI 1)) (gP h p j) = gI h (gP h p j) := fun j => by rw [gI_sI, if_neg (nk j)]
        unfold PtV
        simp only [gP_sI]
        rw [g 5 (by omega), g 6 (by omega), g 7 (by omega), g 8 (by omega), g 9 (by omega), g 11 (by omega), ga, ga, ga, ga, ga, e0, e 1 (by omega), e 3 (by omega), e 4 (by omega), Hb (70 + q' / 5) (by omega), Hb (90 + q' / 5) (by omega), Nn.c (e 1 (by omega)), Nn.c (e 4 (by omega)), e1]
        refine ⟨b1, b2, b3, b4, by rw [gI2, if_pos ⟨Eq.refl _, Eq.refl _⟩], b6, fun b hb => ?_, b8, fun hz l hl => ?_⟩
        · obtain ⟨d1, d2, d3⟩ := b7 b hb
          have ol := ((ob b hb).2.1.eq (by omega)).2
          rw [mo (130 + 645 * q' + 85 + b) (by omega), mo (130 + 645 * q' + 85 + (b + 1)) (by omega), mo (130 + 645 * q' + 125 + b) (by omega), Nn.c (mo (130 + 645 * q' + 125 + b) (by omega))]
          exact ⟨d1, d2, fun i hi => by rw [mo _ (by omega)]; exact d3 i hi⟩
        · rw [mo (130 + 645 * q' + 5 + l) (by omega), mo (130 + 645 * q' + 45 + l) (by omega)]
          exact b9 hz l hl
      · refine ((c1 q' hq').2.congr (s2 5 q' (by omega)).1 (s2 5 q' (by omega)).2).mc (fun x hx => ?_) (Ip q' hq')
        rcases hx with rfl | rfl | ⟨h1, h2⟩ <;> exact mo _ (by omega)
    · obtain ⟨-, -, -, i3, ij⟩ := Im c hk
      refine ⟨(c2 c hk).1, ((c2 c hk).2.congr (s2 8 c (by omega)).1 (s2 8 c (by omega)).2).mc (fun x hx => ?_) i3⟩
      rcases hx with ⟨h1, h2⟩ | ⟨j, hj, hx⟩
      · exact mo _ (by omega)
      · have hb := (ij j hj).2.1.1
        rcases hx with rfl | rfl <;> exact mo _ (by omega)
    · have hi := Is s hs1
      have hb := hi.2.1.1
      refine ⟨(c3 s hs1).1, ((c3 s hs1).2.congr (s2 10 s (by omega)).1 (s2 10 s (by omega)).2).mc (fun x hx => ?_) hi.2.2.2.2.2.2.2.2.2.2.2.1⟩
      rcases hx with ⟨h1, h2⟩ | rfl <;> exact mo _ (by omega)
    · exact ⟨(c4 y hy).1, ((c4 y hy).2.congr (s2 2 y (by omega)).1 (s2 2 y (by omega)).2).mc (fun x hx => mo _ (by omega)) (Iy y hy).2.1⟩
    · have := rows.mc (h := h) (r := 19) (m' := M) B ⟨Hb 0 (by omega), Hb 4 (by omega), Hb 7 (by omega)⟩ (fun x h1 h2 => mo x (by omega)) (fun s hs => ⟨mo _ (by omega), mo _ (by omega)⟩) d
      rw [n4] at this
      exact this
end
