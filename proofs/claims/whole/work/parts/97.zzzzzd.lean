/-! correct: a part that isn't set, the class -/
/-- M as the spare part says it: not given, not set -/
def m0P (M : Nat → Int32) (q : Nat) : Nat → Int32 := va_up (va_up (va_up M (130 + 645 * q + 2) (nI 0)) (130 + 645 * q + 3) (nI 0)) (130 + 645 * q + 4) (nI 0)
section
variable {tg : Nat → List Nat} {h h' h1 g : Hp} {m M k t : Nat → Int32} {i n fl w : Int32} {p q f f2 pc y wn l : Nat} {Ln Lt : Nat → Int32} {s s0 : TX} {b : Nat → Nat}
theorem chd_chM (h40 : f + pc + (Nn m (130 + 645 * q + 1) - f2) ≤ 40) (ff : f ≤ f2) (fn : f2 ≤ Nn m (130 + 645 * q + 1)) : Chd m (chM m (130 + 645 * q) f f2 pc (Nn m (130 + 645 * q + 1)) w Ln Lt) q f f2 pc w Ln Lt := by
  refine ⟨?_, chM_o h40 (by omega) (by omega), fun x hx => chM_a h40 hx, fun x hx => chM_b h40 hx, fun x hx => chM_c h40 hx⟩
  rw [chM_1]
  exact congrArg nI (by omega)
theorem m0_o (h : y ≠ 130 + 645 * q + 2 ∧ y ≠ 130 + 645 * q + 3 ∧ y ≠ 130 + 645 * q + 4) : m0P M q y = M y := by
  unfold m0P
  rw [up_at, if_neg h.2.2, up_at, if_neg h.2.1, up_at, if_neg h.1]
theorem m0_z (h : y = 130 + 645 * q + 2 ∨ y = 130 + 645 * q + 3 ∨ y = 130 + 645 * q + 4) : m0P M q y = nI 0 := by
  unfold m0P
  rcases h with rfl | rfl | rfl
  · rw [up_at, if_neg (by omega), up_at, if_neg (by omega), up_at, if_pos rfl]
  · rw [up_at, if_neg (by omega), up_at, if_pos rfl]
  · rw [up_at, if_pos rfl]
theorem Chd.m0 (H : Chd m M q f f2 pc w Ln Lt) : Chd m (m0P M q) q f f2 pc w Ln Lt := by
  obtain ⟨a, b, c, d, e⟩ := H
  refine ⟨by rw [m0_o (by omega)]; exact a, by rw [m0_o (by omega)]; exact b, fun x hx => ?_, fun x hx => ?_, fun x hx => ?_⟩
  · rw [m0_o (by omega), m0_o (by omega)]
    exact ⟨(c x hx).1, (c x hx).2.1, fun l hl => by rw [m0_o (by omega)]; exact (c x hx).2.2 l hl⟩
  · rw [m0_o (by omega), m0_o (by omega)]
    exact ⟨(d x hx).1, (d x hx).2.1, fun l hl => by rw [m0_o (by omega)]; exact (d x hx).2.2 l hl⟩
  · rw [m0_o (by omega), m0_o (by omega)]
    exact ⟨(e x hx).1, (e x hx).2.1, fun l hl => by rw [m0_o (by omega)]; exact (e x hx).2.2 l hl⟩
/-- the pieces and no lines -/
theorem MIc.mip (H : MIc M q) (o2 : oN M (130 + 645 * q + 2) 1) (e3 : M (130 + 645 * q + 3) = nI 0) (e4 : M (130 + 645 * q + 4) = nI 0) : MIp M q := by
  obtain ⟨a1, a2, a3, a4, a5, a6, a7⟩ := H
  exact ⟨a1, a2, a3, o2, ⟨0, by omega, e3⟩, ⟨0, by omega, e4⟩, a4, a5, a6, a7, fun _ => e4, fun z => by rw [e3] at z; exact absurd z (by decide)⟩
theorem MIc.c (H : MIc M q) (h1 : ∀ y, 130 + 645 * q ≤ y → y < 130 + 645 * q + 645 → (y < 130 + 645 * q + 2 ∨ 130 + 645 * q + 85 ≤ y) → m y = M y) : MIc m q := by
  obtain ⟨a1, a2, a3, a4, a5, a6, a7⟩ := H
  have b40 := (a2.eq (by omega)).2
  have n1 := Nn.c (h1 (130 + 645 * q + 1) (by omega) (by omega) (by omega))
  unfold MIc
  rw [n1]
  refine ⟨a1.c (h1 _ (by omega) (by omega) (by omega)), a2.c (h1 _ (by omega) (by omega) (by omega)), a3, fun b hb => ?_, by rw [Nn.c (h1 (130 + 645 * q + 85) (by omega) (by omega) (by omega))]; exact a5, fun b hb => ?_, by rw [Nn.c (h1 (130 + 645 * q + 85 + (Nn M (130 + 645 * q + 1) - 1)) (by omega) (by omega) (by omega)), Nn.c (h1 (130 + 645 * q) (by omega) (by omega) (by omega))]; exact a7⟩
  · obtain ⟨c1, c2, c3, c4⟩ := a4 b hb
    have c12 := (c2.eq (by omega)).2
    have e := h1 (130 + 645 * q + 125 + b) (by omega) (by omega) (by omega)
    refine ⟨c1.c (h1 _ (by omega) (by omega) (by omega)), c2.c e, by rw [Nn.c e]; exact c3, fun i hi => ?_⟩
    rw [Nn.c e] at hi
    exact (c4 i hi).c (h1 _ (by omega) (by omega) (by omega))
  · rw [Nn.c (h1 (130 + 645 * q + 85 + (b + 1)) (by omega) (by omega) (by omega)), Nn.c (h1 (130 + 645 * q + 85 + b) (by omega) (by omega) (by omega))]
    exact a6 b hb
theorem MIc.m0 (H : MIc M q) : MIp (m0P M q) q := (H.c (m := m0P M q) (fun y h1 h2 h3 => m0_o (by omega))).mip ⟨0, by omega, m0_z (Or.inl rfl)⟩ (m0_z (Or.inr (Or.inl rfl))) (m0_z (Or.inr (Or.inr rfl)))
/-- part and spare part -/
theorem sp_nm (O : Own tg h) (X : XS h) (X2 : XS2 h) (S : RmS h 19) (hp : p = gP h (gP h 19 5) q) (p0 : p ≠ 0) : tg p = [q, 5, 5] ∧ p ≠ 3 ∧ tg 13 = [4] ∧ PtN h 13 ∧ (∀ y, PD h 13 y → y ≠ 0 ∧ (tg y = [4] ∨ ∃ j, tg y = [j, 4])) ∧ ¬ PD h 13 p ∧ (∀ j, ¬ PD h 13 (gP h p j)) ∧ ¬ PD h 13 2 ∧ (∀ j, gP h p j ≠ 0 → tg (gP h p j) = [j, q, 5, 5]) ∧ AP h p 13 ∧ AP h 13 p := by
  obtain ⟨-, t2, t3, -, -, t13, t19, -⟩ := tgs O X
  have K : Rt tg h 19 5 := ⟨O, t3, t19, by omega, by omega⟩
  have tp := K.o (k := 5) (j := q) (by rw [← hp]; exact p0)
  have p3 : p ≠ 3 := by rw [hp]; exact K.o3
  rw [← hp] at tp
  have P13 : PtS h 13 := X2.2.2.2.2.2.2.2.2.2.2.2.2.2
  obtain ⟨s1, s2, s3, s4, s5, s6, -⟩ := id P13
  have ta : ∀ j, gP h 13 j ≠ 0 → tg (gP h 13 j) = [j, 4] := fun j hj => by rw [tgc O hj (by omega), t13]
  have tq : ∀ j, gP h p j ≠ 0 → tg (gP h p j) = [j, q, 5, 5] := fun j hj => by rw [tgc O hj p3, tp]
  have pd : ∀ y, PD h 13 y → y ≠ 0 ∧ (tg y = [4] ∨ ∃ j, tg y = [j, 4]) := fun y hy => by
    rcases hy with rfl | rfl | rfl | rfl
    · exact ⟨by omega, Or.inl t13⟩
    · exact ⟨s2.1, Or.inr ⟨0, ta 0 s2.1⟩⟩
    · exact ⟨s3.1, Or.inr ⟨1, ta 1 s3.1⟩⟩
    · exact ⟨s4.1, Or.inr ⟨2, ta 2 s4.1⟩⟩
  have np : ¬ PD h 13 p := fun z => by
    rcases (pd p z).2 with u | ⟨j, u⟩
    · rw [tp] at u; simp at u
    · rw [tp] at u; simp at u
  have nq : ∀ j, ¬ PD h 13 (gP h p j) := fun j z => by
    obtain ⟨z0, z⟩ := pd _ z
    rw [tq j z0] at z
    rcases z with u | ⟨j, u⟩
    · simp at u
    · simp at u
  have n2 : ¬ PD h 13 2 := fun z => by
    rcases (pd 2 z).2 with u | ⟨j, u⟩
    · rw [t2] at u; simp at u
    · rw [t2] at u; simp at u
  refine ⟨tp, p3, t13, ⟨ne_o O (by omega) s2.1, ne_o O (by omega) s3.1, ne_o O (by omega) s4.1, ne_f O (by omega) s2.1 s3.1 (by omega), ne_f O (by omega) s2.1 s4.1 (by omega), ne_f O (by omega) s3.1 s4.1 (by omega)⟩, pd, np, nq, n2, tq, ⟨p0, fun e => np (Or.inl e), fun j e => ?_, fun j hj => ⟨fun e => ne_o O p3 hj e.symm, fun e => nq j (Or.inl e), fun l e => ?_, fun l hl e => ?_⟩⟩, ⟨by omega, fun e => np (Or.inl e.symm), fun j e => nq j (Or.inl e.symm), fun j hj => ⟨fun e => ne_o O (by omega) hj e.symm, fun e => ?_, fun l e => ?_, fun l hl e => ?_⟩⟩⟩
  · have := ta j (by rw [← e]; exact p0)
    rw [← e, tp] at this
    simp at this
  · have := ta l (by rw [← e]; exact hj)
    rw [← e, tq j hj] at this
    simp at this
  · have := tq l (by rw [← e]; exact hj)
    rw [← e, tq j hj] at this
    simp at this
    exact hl this.symm
  · have := ta j hj
    rw [e, tp] at this
    simp at this
  · have := tq l (by rw [← e]; exact hj)
    rw [← e, ta j hj] at this
    simp at this
  · have := ta l (by rw [← e]; exact hj)
    rw [← e, ta j hj] at this
    simp at this
    exact hl this.symm
end
