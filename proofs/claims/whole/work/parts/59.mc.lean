/-! the same memory where it is read, the same state -/
section
variable {h : Hp} {m m' : Nat → Int32}
def rgP (q x : Nat) : Prop := x = 70 + q / 5 ∨ x = 90 + q / 5 ∨ (130 + 645 * q ≤ x ∧ x < 130 + 645 * q + 645)
theorem Nn.c {x : Nat} (e : m' x = m x) : Nn m' x = Nn m x := by unfold Nn; rw [e]
theorem oN.c {x B : Nat} (e : m' x = m x) (o : oN m x B) : oN m' x B := by
  obtain ⟨n, h1, h2⟩ := o
  exact ⟨n, h1, by rw [e]; exact h2⟩
theorem vP.c {q : Nat} (e1 : m' 1 = m 1) (e2 : q / 5 < Nn m 1 → m' (110 + q / 5) = m (110 + q / 5)) (hq : vP m q) : vP m' q := by
  obtain ⟨a, b, c⟩ := hq
  exact ⟨a, by rw [Nn.c e1]; exact b, by rw [Nn.c (e2 b)]; exact c⟩
theorem PtV.mc {p q : Nat} (H : ∀ x, rgP q x → m' x = m x) (I : MIp m q) (S : PtV h p m q) : PtV h p m' q := by
  obtain ⟨o0, o1, o1', o2, o3, o4, ob, -⟩ := I
  obtain ⟨-, o1b⟩ := o1.eq (by omega)
  obtain ⟨-, o4b⟩ := o4.eq (by omega)
  obtain ⟨a1, a2, a3, a4, a5, a6, a7, a8, a9⟩ := S
  have e : ∀ x, x < 645 → m' (130 + 645 * q + x) = m (130 + 645 * q + x) := fun x hx => H _ (Or.inr (Or.inr ⟨by omega, by omega⟩))
  have e0 : m' (130 + 645 * q) = m (130 + 645 * q) := e 0 (by omega)
  refine ⟨by rw [e 1 (by omega)]; exact a1, by rw [e0]; exact a2, by rw [H _ (Or.inl rfl)]; exact a3, by rw [H _ (Or.inr (Or.inl rfl))]; exact a4, by rw [e 2 (by omega)]; exact a5, by rw [e 3 (by omega)]; exact a6, ?_, by rw [e 3 (by omega), e 4 (by omega)]; exact a8, ?_⟩
  · intro b hb
    rw [Nn.c (e 1 (by omega))] at hb
    obtain ⟨c1, c2, c3⟩ := a7 b hb
    have ol := ((ob b hb).2.1.eq (by omega)).2
    have e1 : m' (130 + 645 * q + 125 + b) = m (130 + 645 * q + 125 + b) := by
      have := e (125 + b) (by omega)
      rwa [← Nat.add_assoc] at this
    have e2 : ∀ y, y ≤ b + 1 → m' (130 + 645 * q + 85 + y) = m (130 + 645 * q + 85 + y) := fun y hy => by
      have := e (85 + y) (by omega)
      rwa [← Nat.add_assoc] at this
    refine ⟨by rw [e1]; exact c1, by rw [Nn.c (e 1 (by omega)), e2 b (by omega), e2 (b + 1) (by omega)]; exact c2, fun i hi => ?_⟩
    rw [Nn.c e1] at hi
    rw [c3 i hi]
    have := e (165 + 12 * b + i) (by omega)
    rw [← Nat.add_assoc, ← Nat.add_assoc] at this
    exact this.symm
  · intro hs l hl
    rw [e 3 (by omega)] at hs
    rw [Nn.c (e 4 (by omega))] at hl
    obtain ⟨c1, c2⟩ := a9 hs l hl
    have e1 := e (5 + l) (by omega)
    have e2 := e (45 + l) (by omega)
    rw [← Nat.add_assoc] at e1 e2
    exact ⟨by rw [e1]; exact c1, by rw [e2]; exact c2⟩
def rgM (m : Nat → Int32) (k x : Nat) : Prop := (320230 + 183 * k ≤ x ∧ x < 320230 + 183 * k + 183) ∨ ∃ j, j < Nn m (320230 + 183 * k + 29) ∧ (x = 130 + 645 * Nn m (320230 + 183 * k + 33 + 5 * j) + 3 ∨ x = 130 + 645 * Nn m (320230 + 183 * k + 33 + 5 * j) + 4)
theorem MaV.mc {p q : Nat} (H : ∀ x, rgM m q x → m' x = m x) (I : oN m (320230 + 183 * q + 29) 30) (S : MaV h p m q) : MaV h p m' q := by
  obtain ⟨-, o1b⟩ := I.eq (by omega)
  obtain ⟨a0, a1, a2, a3, a4, a5, a6, a7⟩ := S
  have e : ∀ x, x < 183 → m' (320230 + 183 * q + x) = m (320230 + 183 * q + x) := fun x hx => H _ (Or.inl ⟨by omega, by omega⟩)
  refine ⟨fun i hi => by rw [e i (by omega)]; exact a0 i hi, by rw [e 27 (by omega)]; exact a1, by rw [e 28 (by omega)]; exact a2, by rw [e 29 (by omega)]; exact a3, by rw [e 30 (by omega)]; exact a4, by rw [e 31 (by omega)]; exact a5, by rw [e 32 (by omega)]; exact a6, fun j hj => ?_⟩
  rw [Nn.c (e 29 (by omega))] at hj
  obtain ⟨c1, c2, c3, c4⟩ := a7 j hj
  have e1 : ∀ x, x < 5 → m' (320230 + 183 * q + 33 + 5 * j + x) = m (320230 + 183 * q + 33 + 5 * j + x) := fun x hx => by
    have := e (33 + 5 * j + x) (by omega)
    rwa [← Nat.add_assoc, ← Nat.add_assoc] at this
  have e2 : m' (320230 + 183 * q + 33 + 5 * j) = m (320230 + 183 * q + 33 + 5 * j) := e1 0 (by omega)
  have e3 := H _ (Or.inr ⟨j, hj, Or.inl rfl⟩)
  have e4 := H _ (Or.inr ⟨j, hj, Or.inr rfl⟩)
  refine ⟨by rw [e2]; exact c1, by rw [e1 1 (by omega)]; exact c2, by rw [e1 3 (by omega)]; exact c3, ?_⟩
  rw [e1 4 (by omega), e1 2 (by omega), Nn.c e2, e3, e4]
  exact c4
theorem wrN.mc {g : Nat} : ∀ n, (∀ x, x < n → m' (g + 12 + x) = m (g + 12 + x) ∧ m' (g + 432 + x) = m (g + 432 + x)) → wrN m' g n = wrN m g n
  | 0, _ => rfl
  | n + 1, H => by
    unfold wrN
    rw [wrN.mc n (fun x hx => H x (by omega)), (H n (by omega)).1, (H n (by omega)).2]
def rgS (m : Nat → Int32) (g x : Nat) : Prop := (g ≤ x ∧ x < g + 852) ∨ x = 70 + Nn m g / 5
theorem SlV.mc {p g : Nat} (H : ∀ x, rgS m g x → m' x = m x) (I : oN m (g + 9) 401) (S : SlV h p m g) : SlV h p m' g := by
  obtain ⟨-, o1b⟩ := I.eq (by omega)
  obtain ⟨a5, a8, a9, a3, a10, a11, a12, a14, a7, a2, a13, a6, al, ab, a4⟩ := S
  have e : ∀ x, x < 852 → m' (g + x) = m (g + x) := fun x hx => H _ (Or.inl ⟨by omega, by omega⟩)
  have e0 : m' g = m g := e 0 (by omega)
  have eb : ∀ x, x < Nn m (g + 9) → m' (g + 12 + x) = m (g + 12 + x) ∧ m' (g + 432 + x) = m (g + 432 + x) := fun x hx => by
    have h1 := e (12 + x) (by omega)
    have h2 := e (432 + x) (by omega)
    rw [← Nat.add_assoc] at h1 h2
    exact ⟨h1, h2⟩
  have e9 := Nn.c (e 9 (by omega))
  refine ⟨by rw [e0]; exact a5, by rw [e 1 (by omega)]; exact a8, by rw [e 2 (by omega)]; exact a9, by rw [e 3 (by omega)]; exact a3, by rw [e 4 (by omega)]; exact a10, by rw [e 5 (by omega)]; exact a11, by rw [e 6 (by omega)]; exact a12, by rw [e 7 (by omega)]; exact a14, by rw [e 8 (by omega)]; exact a7, by rw [e 9 (by omega)]; exact a2, by rw [e 10 (by omega), e 11 (by omega)]; exact a13, by rw [Nn.c e0, H _ (Or.inr rfl)]; exact a6, by rw [e9]; exact al, fun i hi => ?_, by rw [e9, wrN.mc _ eb]; exact a4⟩
  rw [e9] at hi
  rw [(eb i hi).1, (eb i hi).2]
  exact ab i hi
theorem StyV.mc {p Y : Nat} (H : ∀ x, x < 562 → m' (Y + x) = m (Y + x)) (I : oN m (Y + 1) 12) (S : StyV h p m Y) : StyV h p m' Y := by
  obtain ⟨-, o1b⟩ := I.eq (by omega)
  obtain ⟨a0, a1, cd, ce, c0, c1⟩ := S
  have e0 : m' Y = m Y := H 0 (by omega)
  refine ⟨by rw [e0]; exact a0, by rw [H 1 (by omega)]; exact a1, cd, ce, c0, fun r hr => ?_⟩
  rw [Nn.c (H 1 (by omega))] at hr
  obtain ⟨b1, b2, b3, b4, b5, b6, b7, b8, b9, fr, f1, f2, f3, f4⟩ := c1 r hr
  have e1 : ∀ x, x < 5 → m' (Y + 2 + 5 * r + x) = m (Y + 2 + 5 * r + x) := fun x hx => by
    have := H (2 + 5 * r + x) (by omega)
    rwa [← Nat.add_assoc, ← Nat.add_assoc] at this
  have e2 : m' (Y + 2 + 5 * r) = m (Y + 2 + 5 * r) := e1 0 (by omega)
  refine ⟨by rw [e2]; exact b1, by rw [e1 1 (by omega)]; exact b2, by rw [e1 2 (by omega)]; exact b3, b4, b5, b6, b7, b8, b9, fr, f1, by rw [e1 3 (by omega)]; exact f2, by rw [e1 4 (by omega)]; exact f3, fun j hj => ?_⟩
  have := H (fr + j) (by omega)
  rw [← Nat.add_assoc] at this
  rw [this]
  exact f4 j hj
theorem lastS.mc {k t : Int32} : ∀ n, (∀ s, s < n → m' (64630 + 852 * s + 1) = m (64630 + 852 * s + 1) ∧ m' (64630 + 852 * s + 2) = m (64630 + 852 * s + 2)) → lastS m' k t n = lastS m k t n
  | 0, _ => rfl
  | n + 1, H => by
    unfold lastS
    rw [lastS.mc n (fun x hx => H x (by omega)), (H n (by omega)).1, (H n (by omega)).2]
end
