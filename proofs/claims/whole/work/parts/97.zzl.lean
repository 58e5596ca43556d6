/-! a machine's minute: both sides -/
noncomputable def prM (m : Nat → Int32) (k q : Nat) : Option (Nat → Int32) := if m (130 + 645 * q + 3) = nI 0 then (match wyT m q (m 0) 0 with | none => none | some v => some (seF m q v.2.1 k)) else some (if m (320230 + 183 * k + 37) = nI 1 then va_up m (320230 + 183 * k + 35) (m (130 + 645 * q + 4)) else m)
section
variable {tg : Nat → List Nat} {h h1 : Hp} {m M kk t : Nat → Int32} {ii f u : Int32} {r x k q l en fr n T i o c : Nat}
theorem ja_f (I : MI m) (hk : k < Nn m 3) (hj : 1 ≤ Nn m (320230 + 183 * k + 29)) : vP m (Nn m (320230 + 183 * k + 33)) ∧ m (320230 + 183 * k + 33) = nI (Nn m (320230 + 183 * k + 33)) ∧ m (320230 + 183 * k + 34) = nI (Nn m (320230 + 183 * k + 34)) ∧ m (320230 + 183 * k + 35) = nI (Nn m (320230 + 183 * k + 35)) ∧ m (320230 + 183 * k + 36) = nI (Nn m (320230 + 183 * k + 36)) ∧ Nn m (320230 + 183 * k + 35) ≤ 40 ∧ Nn m (320230 + 183 * k + 36) ≤ 1 ∧ ((m (320230 + 183 * k + 37) = nI 0 ∧ m (130 + 645 * Nn m (320230 + 183 * k + 33) + 3) = nI 1 ∧ Nn m (320230 + 183 * k + 34) < Nn m (320230 + 183 * k + 35) ∧ Nn m (320230 + 183 * k + 35) ≤ Nn m (130 + 645 * Nn m (320230 + 183 * k + 33) + 4)) ∨ (m (320230 + 183 * k + 37) = nI 1 ∧ (m (130 + 645 * Nn m (320230 + 183 * k + 33) + 3) = nI 1 → Nn m (320230 + 183 * k + 34) < Nn m (130 + 645 * Nn m (320230 + 183 * k + 33) + 4)))) := by
  obtain ⟨b1, b2, b3, b4, b5, b6, b7, b8⟩ := (I.2.2.2.1 k hk).2.2.2.2 0 hj
  rw [show 320230 + 183 * k + 33 + 5 * 0 = 320230 + 183 * k + 33 by omega] at b1 b2 b3 b4 b5 b6 b7 b8
  have w3 := b3.eq (by omega)
  have w4 := b4.eq (by omega)
  have w5 := b5.eq (by omega)
  refine ⟨b2, (b1.eq (by omega)).1, w3.1, w4.1, w5.1, w4.2, w5.2, ?_⟩
  obtain ⟨y, hy, ey⟩ := b6
  rcases (show y = 0 ∨ y = 1 by omega) with z | z
  · rw [z] at ey
    exact Or.inl ⟨ey, b7 ey⟩
  · rw [z] at ey
    exact Or.inr ⟨ey, (b8 ey).2.2.1⟩
/-- the end of a flagged job is not looked at -/
theorem f2_mi {v : Int32} (I : MI m) (hk : k < Nn m 3) (hj : 1 ≤ Nn m (320230 + 183 * k + 29)) (fk : m (320230 + 183 * k + 37) = nI 1) (hv : ∃ y, y ≤ 40 ∧ v = nI y) : MI (va_up m (320230 + 183 * k + 35) v) := by
  have f3 := I.1.f.2.2.2.1.2
  have W : ∀ y, y ≠ 320230 + 183 * k + 35 → va_up m (320230 + 183 * k + 35) v y = m y := fun y hy => by rw [up_at, if_neg hy]
  refine MI.mch I hk (fun x hx => W x (by omega)) (fun k' hk' => ?_)
  obtain ⟨a0, a1, a2, a3, a4⟩ := I.2.2.2.1 k' hk'
  have h30 := (a3.eq (by omega)).2
  have e : ∀ x, x < 183 → x ≠ 35 → va_up m (320230 + 183 * k + 35) v (320230 + 183 * k' + x) = m (320230 + 183 * k' + x) := fun x hx hn => W _ (by omega)
  refine ⟨fun i hi => (a0 i hi).c (e i (by omega) (by omega)), a1.c (e _ (by omega) (by omega)), a2.c (e _ (by omega) (by omega)), a3.c (e _ (by omega) (by omega)), fun j' hj' => ?_⟩
  rw [Nn.c (e 29 (by omega) (by omega))] at hj'
  obtain ⟨y1, y2, y3, y4, y5, y6, y7, y8⟩ := a4 j' hj'
  have hb := y2.1
  have e1 : ∀ x, x < 5 → x ≠ 2 → va_up m (320230 + 183 * k + 35) v (320230 + 183 * k' + 33 + 5 * j' + x) = m (320230 + 183 * k' + 33 + 5 * j' + x) := fun x hx hn => W _ (by rcases Nat.lt_trichotomy k' k with z | z | z <;> omega)
  have e10 : va_up m (320230 + 183 * k + 35) v (320230 + 183 * k' + 33 + 5 * j') = m (320230 + 183 * k' + 33 + 5 * j') := e1 0 (by omega) (by omega)
  have eP : ∀ x, x < 645 → va_up m (320230 + 183 * k + 35) v (130 + 645 * Nn m (320230 + 183 * k' + 33 + 5 * j') + x) = m (130 + 645 * Nn m (320230 + 183 * k' + 33 + 5 * j') + x) := fun x hx => W _ (by omega)
  have vv : vP (va_up m (320230 + 183 * k + 35) v) (Nn m (320230 + 183 * k' + 33 + 5 * j')) := y2.b (fun x hx => W x (by omega))
  have n3 : Nn (va_up m (320230 + 183 * k + 35) v) 3 = Nn m 3 := Nn.c (W 3 (by omega))
  have uni : ∀ k2, k2 < Nn m 3 → ∀ j2, j2 < Nn (va_up m (320230 + 183 * k + 35) v) (320230 + 183 * k2 + 29) → j2 < Nn m (320230 + 183 * k2 + 29) ∧ va_up m (320230 + 183 * k + 35) v (320230 + 183 * k2 + 33 + 5 * j2 + 4) = m (320230 + 183 * k2 + 33 + 5 * j2 + 4) ∧ va_up m (320230 + 183 * k + 35) v (320230 + 183 * k2 + 33 + 5 * j2) = m (320230 + 183 * k2 + 33 + 5 * j2) := fun k2 h1 j2 h2 => by
    have h30' := ((I.2.2.2.1 k2 h1).2.2.2.1.eq (by omega)).2
    rw [Nn.c (W (320230 + 183 * k2 + 29) (by omega))] at h2
    exact ⟨h2, W _ (by rcases Nat.lt_trichotomy k2 k with z | z | z <;> omega), W _ (by rcases Nat.lt_trichotomy k2 k with z | z | z <;> omega)⟩
  rw [Nn.c e10, n3, e10, Nn.c (e1 1 (by omega) (by omega)), e1 4 (by omega) (by omega), e1 1 (by omega) (by omega), eP 2 (by omega), eP 3 (by omega), Nn.c (eP 4 (by omega))]
  have h8 : m (320230 + 183 * k' + 33 + 5 * j' + 4) = nI 1 → _ := fun z => y8 z
  by_cases z : 320230 + 183 * k' + 33 + 5 * j' + 2 = 320230 + 183 * k + 35
  · have z0 : 320230 + 183 * k' + 33 + 5 * j' + 4 = 320230 + 183 * k + 37 := by omega
    obtain ⟨y, hy, ey⟩ := hv
    refine ⟨y1.c e10, vv, y3.c (e1 1 (by omega) (by omega)), ⟨y, hy, by rw [z, up_at, if_pos rfl]; exact ey⟩, y5.c (e1 3 (by omega) (by omega)), y6.c (e1 4 (by omega) (by omega)), fun w => ?_, fun w => ?_⟩
    · rw [z0, fk] at w
      exact absurd w (by decide)
    · obtain ⟨x1, x2, x3, x4⟩ := y8 w
      refine ⟨x1, x2, x3, fun k2 h1 j2 h2 h3 h4 => ?_⟩
      obtain ⟨w1, w2, w3⟩ := uni k2 h1 j2 h2
      rw [w2] at h3
      rw [w3] at h4
      exact x4 k2 h1 j2 w1 h3 h4
  · have e12 := W _ z
    rw [Nn.c e12]
    refine ⟨y1.c e10, vv, y3.c (e1 1 (by omega) (by omega)), y4.c e12, y5.c (e1 3 (by omega) (by omega)), y6.c (e1 4 (by omega) (by omega)), y7, fun w => ?_⟩
    obtain ⟨x1, x2, x3, x4⟩ := y8 w
    refine ⟨x1, x2, x3, fun k2 h1 j2 h2 h3 h4 => ?_⟩
    obtain ⟨w1, w2, w3⟩ := uni k2 h1 j2 h2
    rw [w2] at h3
    rw [w3] at h4
    exact x4 k2 h1 j2 w1 h3 h4
theorem f2_rm {v : Int32} (V : RmV h r m) (I : MI m) (hk : k < Nn m 3) (fk : m (320230 + 183 * k + 37) = nI 1) : RmV h r (va_up m (320230 + 183 * k + 35) v) := by
  have f3 := I.1.f.2.2.2.1.2
  have W : ∀ y, y ≠ 320230 + 183 * k + 35 → va_up m (320230 + 183 * k + 35) v y = m y := fun y hy => by rw [up_at, if_neg hy]
  have sr : ∀ b, sm h h b := fun b => ⟨rfl, rfl, rfl, rfl⟩
  refine RmV.ma (D := fun _ => False) (s0 := k) I V Fr.rfl ⟨sr _, fun _ => sr _, fun _ _ _ => ⟨sr _, fun _ => sr _⟩⟩ (by omega) (fun x hx => W x (by omega)) (fun _ => ?_)
  obtain ⟨q0, q1, q2, q3, q4, q5, q6, qj⟩ := (V.2.2.2.2.2.2.2.2.1 k hk).2
  obtain ⟨-, -, -, i3, ij⟩ := I.2.2.2.1 k hk
  have h30 := (i3.eq (by omega)).2
  unfold MaV
  rw [W _ (by omega), W _ (by omega), W _ (by omega), W _ (by omega), W _ (by omega), W _ (by omega), Nn.c (W (320230 + 183 * k + 29) (by omega))]
  refine ⟨fun j hj => by rw [W _ (by omega)]; exact q0 j hj, q1, q2, q3, q4, q5, q6, fun j hj => ?_⟩
  obtain ⟨w1, w2, w3, w4⟩ := qj j hj
  have hb := (ij j hj).2.1.1
  have e33 : va_up m (320230 + 183 * k + 35) v (320230 + 183 * k + 33 + 5 * j) = m (320230 + 183 * k + 33 + 5 * j) := W _ (by omega)
  rw [e33, Nn.c e33, W (320230 + 183 * k + 33 + 5 * j + 1) (by omega), W (320230 + 183 * k + 33 + 5 * j + 3) (by omega), W (320230 + 183 * k + 33 + 5 * j + 4) (by omega), W (130 + 645 * Nn m (320230 + 183 * k + 33 + 5 * j) + 3) (by omega), W (130 + 645 * Nn m (320230 + 183 * k + 33 + 5 * j) + 4) (by omega)]
  refine ⟨w1, w2, w3, ?_⟩
  by_cases z : j = 0
  · subst z
    rw [show 320230 + 183 * k + 33 + 5 * 0 + 4 = 320230 + 183 * k + 37 by omega, if_pos fk] at w4 ⊢
    exact w4
  · rw [W (320230 + 183 * k + 33 + 5 * j + 2) (by omega)]
    exact w4
end
