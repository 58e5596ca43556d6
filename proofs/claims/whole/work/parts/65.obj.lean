/-! one object of the room is written -/
section
variable {tg : Nat → List Nat} {h h1 : Hp} {m m' : Nat → Int32} {D : Nat → Prop} {r F s0 : Nat}
theorem nsuf2 {a b c d : Nat} {t : List Nat} (hn : ¬ (a = c ∧ b = d)) : ¬ (a :: b :: t) <:+ (c :: d :: t) := fun z => by
  rcases List.suffix_cons_iff.mp z with e | z
  · have e1 := List.cons.inj e
    exact hn ⟨e1.1, (List.cons.inj e1.2).1⟩
  · have := z.length_le
    simp at this
    omega
theorem nsuf3 {a b c d j : Nat} {t : List Nat} (hn : ¬ (a = c ∧ b = d)) : ¬ (a :: b :: t) <:+ (j :: c :: d :: t) := fun z => by
  rcases List.suffix_cons_iff.mp z with e | z
  · have := congrArg List.length e
    simp at this
  · exact nsuf2 hn z
theorem nsuf1 {a b d : Nat} {t : List Nat} : ¬ (a :: b :: t) <:+ (d :: t) := fun z => by
  have := z.length_le
  simp at this
  omega
theorem nsuf0 {a b : Nat} {t : List Nat} : ¬ (a :: b :: t) <:+ t := fun z => by
  have := z.length_le
  simp at this
  omega
/-- D lies under object s0 of the room's row F -/
def Ob (tg : Nat → List Nat) (r F s0 : Nat) (D : Nat → Prop) : Prop := ∀ b, D b → b ≠ 0 ∧ (s0 :: F :: tg r) <:+ tg b
theorem obj_sm (O : Own tg h) (h3 : tg 3 = [3]) {x : Nat} (hr : tg r = [x]) (hx : x ≠ 3) (r0 : r ≠ 0) (Fr1 : Fr D h h1) (hD : Ob tg r F s0 D) : sm h h1 r ∧ (∀ k, sm h h1 (gP h r k)) ∧ ∀ k j, ¬ (s0 = j ∧ F = k) → sm h h1 (gP h (gP h r k) j) ∧ ∀ i, sm h h1 (gP h (gP h (gP h r k) j) i) := by
  obtain ⟨-, -, -, o1, o2, -⟩ := id O
  have z0 : sm h h1 0 := Fr1.sm (fun z => (hD 0 z).1 rfl)
  have r3 : r ≠ 3 := fun e => by
    rw [e, h3] at hr
    exact hx (List.cons.inj hr).1.symm
  refine ⟨Fr1.sm (fun z => nsuf0 (hD r z).2), fun k => ?_, fun k j hn => ?_⟩
  · by_cases z : gP h r k = 0
    · rw [z]; exact z0
    · refine Fr1.sm (fun q => ?_)
      have := (hD _ q).2
      rw [tgc O z r3] at this
      exact nsuf1 this
  · by_cases z : gP h r k = 0
    · rw [z, o1 j]
      exact ⟨z0, fun i => by rw [o1 i]; exact z0⟩
    · have t1 := tgc O z r3
      have n3 : gP h r k ≠ 3 := fun e => by
        rw [e, h3] at t1
        have := congrArg List.length t1
        rw [hr] at this
        simp at this
      by_cases z2 : gP h (gP h r k) j = 0
      · rw [z2]
        exact ⟨z0, fun i => by rw [o1 i]; exact z0⟩
      · have t2 := tgc O z2 n3
        have n4 : gP h (gP h r k) j ≠ 3 := fun e => by
          rw [e, h3, t1, hr] at t2
          have := congrArg List.length t2
          simp at this
        refine ⟨Fr1.sm (fun q => ?_), fun i => ?_⟩
        · have := (hD _ q).2
          rw [t2, t1] at this
          exact nsuf2 hn this
        · by_cases z3 : gP h (gP h (gP h r k) j) i = 0
          · rw [z3]; exact z0
          · refine Fr1.sm (fun q => ?_)
            have := (hD _ q).2
            rw [tgc O z3 n4, t2, t1] at this
            exact nsuf3 hn this
theorem RmS.sl (S : RmS h r) (Fr1 : Fr D h h1) (sf : sm h h1 r ∧ (∀ k, sm h h1 (gP h r k)) ∧ ∀ k j, ¬ (s0 = j ∧ 10 = k) → sm h h1 (gP h (gP h r k) j) ∧ ∀ i, sm h h1 (gP h (gP h (gP h r k) j) i)) (hs : SlS h1 (gP h (gP h r 10) s0)) : RmS h1 r := by
  obtain ⟨a1, a2, a3, a4, a5, a6, a7, a8, a9, a10, a11, a12, a13, a14, ⟨b1, b2, b3, b3'⟩, ⟨b4, b5⟩, c1, c2, c3, c4⟩ := S
  obtain ⟨e0, e1, e2⟩ := sf
  have n4 := e2 4
  have q4 : ∀ j, ¬ (s0 = j ∧ 10 = 4) := fun j z => by omega
  have q14 : ∀ j, ¬ (s0 = j ∧ 10 = 14) := fun j z => by omega
  refine ⟨by rw [Fr1.1]; exact a1, a2.fr Fr1, a3.fr Fr1, a4.fr Fr1, a5.fr Fr1, a6.fr Fr1, a7.fr Fr1, a8.fr Fr1, a9.fr Fr1, a10.fr Fr1, a11.fr Fr1, a12.fr Fr1, a13.fr Fr1, a14.fr Fr1, ?_, ?_, ?_, ?_, ?_, ?_⟩
  · rw [Fr1.2.2.1, (e1 4).2.2.1]
    exact ⟨b1, b2.congr (e1 4) (fun j => (e2 4 j (q4 j)).1), b3, b3'⟩
  · rw [Fr1.2.2.1]
    exact ⟨b4, b5.congr (e1 14) (fun j => (e2 14 j (q14 j)).1)⟩
  · rw [Fr1.2.2.1]
    exact fun q hq => (c1 q hq).congr (e2 5 q (by omega)).1 (e2 5 q (by omega)).2
  · rw [Fr1.2.2.1]
    exact fun q hq => (c2 q hq).congr (e2 2 q (by omega)).1 (e2 2 q (by omega)).2
  · rw [Fr1.2.2.1]
    exact fun q hq => (c3 q hq).congr (e2 8 q (by omega)).1 (e2 8 q (by omega)).2
  · rw [Fr1.2.2.1]
    intro q hq
    by_cases z : q = s0
    · subst z; exact hs
    · exact (c4 q hq).congr (e2 10 q (by omega)).1 (e2 10 q (by omega)).2
theorem RmS.ma (S : RmS h r) (Fr1 : Fr D h h1) (sf : sm h h1 r ∧ (∀ k, sm h h1 (gP h r k)) ∧ ∀ k j, ¬ (s0 = j ∧ 8 = k) → sm h h1 (gP h (gP h r k) j) ∧ ∀ i, sm h h1 (gP h (gP h (gP h r k) j) i)) (hs : MaS h1 (gP h (gP h r 8) s0)) : RmS h1 r := by
  obtain ⟨a1, a2, a3, a4, a5, a6, a7, a8, a9, a10, a11, a12, a13, a14, ⟨b1, b2, b3, b3'⟩, ⟨b4, b5⟩, c1, c2, c3, c4⟩ := S
  obtain ⟨e0, e1, e2⟩ := sf
  refine ⟨by rw [Fr1.1]; exact a1, a2.fr Fr1, a3.fr Fr1, a4.fr Fr1, a5.fr Fr1, a6.fr Fr1, a7.fr Fr1, a8.fr Fr1, a9.fr Fr1, a10.fr Fr1, a11.fr Fr1, a12.fr Fr1, a13.fr Fr1, a14.fr Fr1, ?_, ?_, ?_, ?_, ?_, ?_⟩
  · rw [Fr1.2.2.1, (e1 4).2.2.1]
    exact ⟨b1, b2.congr (e1 4) (fun j => (e2 4 j (by omega)).1), b3, b3'⟩
  · rw [Fr1.2.2.1]
    exact ⟨b4, b5.congr (e1 14) (fun j => (e2 14 j (by omega)).1)⟩
  · rw [Fr1.2.2.1]
    exact fun q hq => (c1 q hq).congr (e2 5 q (by omega)).1 (e2 5 q (by omega)).2
  · rw [Fr1.2.2.1]
    exact fun q hq => (c2 q hq).congr (e2 2 q (by omega)).1 (e2 2 q (by omega)).2
  · rw [Fr1.2.2.1]
    intro q hq
    by_cases z : q = s0
    · subst z; exact hs
    · exact (c3 q hq).congr (e2 8 q (by omega)).1 (e2 8 q (by omega)).2
  · rw [Fr1.2.2.1]
    exact fun q hq => (c4 q hq).congr (e2 10 q (by omega)).1 (e2 10 q (by omega)).2
theorem RmV.sl (I : MI m) (V : RmV h r m) (Fr1 : Fr D h h1) (sf : sm h h1 r ∧ (∀ k, sm h h1 (gP h r k)) ∧ ∀ k j, ¬ (s0 = j ∧ 10 = k) → sm h h1 (gP h (gP h r k) j) ∧ ∀ i, sm h h1 (gP h (gP h (gP h r k) j) i)) (hs0 : s0 < 300) (H : ∀ x, (x < 64630 + 852 * s0 ∨ 64630 + 852 * s0 + 852 ≤ x) → m' x = m x) (H1 : m' (64630 + 852 * s0 + 1) = m (64630 + 852 * s0 + 1) ∧ m' (64630 + 852 * s0 + 2) = m (64630 + 852 * s0 + 2)) (hs : s0 < Nn m 4 → SlV h1 (gP h (gP h r 10) s0) m' (64630 + 852 * s0)) : RmV h1 r m' := by
  obtain ⟨B, Ip, Is, Im, Ih, Iy, Iz⟩ := I
  obtain ⟨⟨-, f0⟩, ⟨-, f1⟩, ⟨-, f2⟩, ⟨-, f3⟩, ⟨-, f4⟩, -⟩ := B.f
  obtain ⟨a1, a2, a3, a4, a5, a6, a7, c1, c2, c3, c4, d⟩ := V
  obtain ⟨e0, e1, e2⟩ := sf
  have n1 : Nn m' 1 = Nn m 1 := Nn.c (H 1 (by omega))
  have n2 : Nn m' 2 = Nn m 2 := Nn.c (H 2 (by omega))
  have n3 : Nn m' 3 = Nn m 3 := Nn.c (H 3 (by omega))
  have n4 : Nn m' 4 = Nn m 4 := Nn.c (H 4 (by omega))
  unfold RmV
  rw [Fr1.2.2.1, e0.2.2.1, n1, n2, n3, n4, (e1 1).2.2.1, (e1 6).2.2.1, (e1 12).2.2.1, (e1 13).2.2.1, H 0 (by omega), H 1 (by omega), H 2 (by omega), H 3 (by omega), H 4 (by omega)]
  refine ⟨a1, a2, a3, a4, a5, fun i hi => by rw [H _ (by omega)]; exact a6 i hi, fun s hs => by rw [H _ (by omega)]; exact a7 s hs, fun q hq => ?_, fun k hk => ?_, fun s hs1 => ?_, fun y hy => ?_, ?_⟩
  · have hq' : vP m q := hq.c (H 1 (by omega)).symm (fun z => (H _ (by have := hq.1; omega)).symm)
    have hb := hq.1
    refine ⟨(c1 q hq').1, ((c1 q hq').2.congr (e2 5 q (by omega)).1 (e2 5 q (by omega)).2).mc (fun x hx => ?_) (Ip q hq')⟩
    rcases hx with rfl | rfl | ⟨h1, h2⟩ <;> exact H _ (by omega)
  · obtain ⟨-, -, -, i3, ij⟩ := Im k hk
    refine ⟨(c2 k hk).1, ((c2 k hk).2.congr (e2 8 k (by omega)).1 (e2 8 k (by omega)).2).mc (fun x hx => ?_) i3⟩
    rcases hx with ⟨h1, h2⟩ | ⟨j, hj, hx⟩
    · exact H _ (by omega)
    · have hb := (ij j hj).2.1.1
      rcases hx with rfl | rfl <;> exact H _ (by omega)
  · by_cases z : s = s0
    · subst z
      exact ⟨(c3 s hs1).1, hs hs1⟩
    · have hi := Is s hs1
      have hb := hi.2.1.1
      refine ⟨(c3 s hs1).1, ((c3 s hs1).2.congr (e2 10 s (by omega)).1 (e2 10 s (by omega)).2).mc (fun x hx => ?_) hi.2.2.2.2.2.2.2.2.2.2.2.1⟩
      rcases hx with ⟨h1, h2⟩ | rfl <;> exact H _ (by omega)
  · exact ⟨(c4 y hy).1, ((c4 y hy).2.congr (e2 2 y (by omega)).1 (e2 2 y (by omega)).2).mc (fun x hx => H _ (by omega)) (Iy y hy).2.1⟩
  · have := rows.mc (h := h) (r := r) (m' := m') B ⟨H 0 (by omega), H 4 (by omega), H 7 (by omega)⟩ (fun x h1 h2 => H x (by omega)) (fun s hs => by
      by_cases z : s = s0
      · subst z; exact H1
      · exact ⟨H _ (by omega), H _ (by omega)⟩) d
    rw [n4] at this
    exact this
theorem RmV.ma (I : MI m) (V : RmV h r m) (Fr1 : Fr D h h1) (sf : sm h h1 r ∧ (∀ k, sm h h1 (gP h r k)) ∧ ∀ k j, ¬ (s0 = j ∧ 8 = k) → sm h h1 (gP h (gP h r k) j) ∧ ∀ i, sm h h1 (gP h (gP h (gP h r k) j) i)) (hs0 : s0 < 4) (H : ∀ x, (x < 320230 + 183 * s0 ∨ 320230 + 183 * s0 + 183 ≤ x) → m' x = m x) (hs : s0 < Nn m 3 → MaV h1 (gP h (gP h r 8) s0) m' s0) : RmV h1 r m' := by
  obtain ⟨B, Ip, Is, Im, Ih, Iy, Iz⟩ := I
  obtain ⟨⟨-, f0⟩, ⟨-, f1⟩, ⟨-, f2⟩, ⟨-, f3⟩, ⟨-, f4⟩, -⟩ := B.f
  obtain ⟨a1, a2, a3, a4, a5, a6, a7, c1, c2, c3, c4, d⟩ := V
  obtain ⟨e0, e1, e2⟩ := sf
  have n1 : Nn m' 1 = Nn m 1 := Nn.c (H 1 (by omega))
  have n2 : Nn m' 2 = Nn m 2 := Nn.c (H 2 (by omega))
  have n3 : Nn m' 3 = Nn m 3 := Nn.c (H 3 (by omega))
  have n4 : Nn m' 4 = Nn m 4 := Nn.c (H 4 (by omega))
  unfold RmV
  rw [Fr1.2.2.1, e0.2.2.1, n1, n2, n3, n4, (e1 1).2.2.1, (e1 6).2.2.1, (e1 12).2.2.1, (e1 13).2.2.1, H 0 (by omega), H 1 (by omega), H 2 (by omega), H 3 (by omega), H 4 (by omega)]
  refine ⟨a1, a2, a3, a4, a5, fun i hi => by rw [H _ (by omega)]; exact a6 i hi, fun s hs => by rw [H _ (by omega)]; exact a7 s hs, fun q hq => ?_, fun k hk => ?_, fun s hs1 => ?_, fun y hy => ?_, ?_⟩
  · have hq' : vP m q := hq.c (H 1 (by omega)).symm (fun z => (H _ (by have := hq.1; omega)).symm)
    have hb := hq.1
    refine ⟨(c1 q hq').1, ((c1 q hq').2.congr (e2 5 q (by omega)).1 (e2 5 q (by omega)).2).mc (fun x hx => ?_) (Ip q hq')⟩
    rcases hx with rfl | rfl | ⟨h1, h2⟩ <;> exact H _ (by omega)
  · by_cases z : k = s0
    · subst z
      exact ⟨(c2 k hk).1, hs hk⟩
    · obtain ⟨-, -, -, i3, ij⟩ := Im k hk
      refine ⟨(c2 k hk).1, ((c2 k hk).2.congr (e2 8 k (by omega)).1 (e2 8 k (by omega)).2).mc (fun x hx => ?_) i3⟩
      rcases hx with ⟨h1, h2⟩ | ⟨j, hj, hx⟩
      · exact H _ (by omega)
      · have hb := (ij j hj).2.1.1
        rcases hx with rfl | rfl <;> exact H _ (by omega)
  · have hi := Is s hs1
    have hb := hi.2.1.1
    refine ⟨(c3 s hs1).1, ((c3 s hs1).2.congr (e2 10 s (by omega)).1 (e2 10 s (by omega)).2).mc (fun x hx => ?_) hi.2.2.2.2.2.2.2.2.2.2.2.1⟩
    rcases hx with ⟨h1, h2⟩ | rfl <;> exact H _ (by omega)
  · exact ⟨(c4 y hy).1, ((c4 y hy).2.congr (e2 2 y (by omega)).1 (e2 2 y (by omega)).2).mc (fun x hx => H _ (by omega)) (Iy y hy).2.1⟩
  · have := rows.mc (h := h) (r := r) (m' := m') B ⟨H 0 (by omega), H 4 (by omega), H 7 (by omega)⟩ (fun x h1 h2 => H x (by omega)) (fun s hs => ⟨H _ (by omega), H _ (by omega)⟩) d
    rw [n4] at this
    exact this
end
