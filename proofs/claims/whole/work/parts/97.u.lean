/-! a job is added -/
def jbM (m : Nat → Int32) (k n q a b fr e : Nat) : Nat → Int32 := va_up (va_up (va_up (va_up (va_up (va_up m (320230 + 183 * k + 33 + 5 * n) (nI q)) (320230 + 183 * k + 33 + 5 * n + 1) (nI a)) (320230 + 183 * k + 33 + 5 * n + 2) (nI b)) (320230 + 183 * k + 33 + 5 * n + 3) (nI fr)) (320230 + 183 * k + 33 + 5 * n + 4) (nI e)) (320230 + 183 * k + 29) (nI (n + 1))
def jbH (h : Hp) (c n q a : Nat) (bv : Int32) (fr : Nat) : Hp := sI (sI (sI (sI (sI h (gP h c 7) n (nI q)) (gP h c 8) n (nI a)) (gP h c 9) n bv) (gP h c 10) n (nI fr)) c 3 (nI (n + 1))
section
variable {tg : Nat → List Nat} {h h1 h' : Hp} {m M t : Nat → Int32} {i f w bv : Int32} {r x s c k n q a b fr e : Nat}
theorem jb_at {y : Nat} : jbM m k n q a b fr e y = if y = 320230 + 183 * k + 29 then nI (n + 1) else if y = 320230 + 183 * k + 33 + 5 * n + 4 then nI e else if y = 320230 + 183 * k + 33 + 5 * n + 3 then nI fr else if y = 320230 + 183 * k + 33 + 5 * n + 2 then nI b else if y = 320230 + 183 * k + 33 + 5 * n + 1 then nI a else if y = 320230 + 183 * k + 33 + 5 * n then nI q else m y := by
  unfold jbM
  simp only [up_at]
theorem jb_out {y : Nat} (h1 : y ≠ 320230 + 183 * k + 29) (h2 : y < 320230 + 183 * k + 33 + 5 * n ∨ 320230 + 183 * k + 33 + 5 * n + 5 ≤ y) : jbM m k n q a b fr e y = m y := by
  rw [jb_at, if_neg h1, if_neg (by omega), if_neg (by omega), if_neg (by omega), if_neg (by omega), if_neg (by omega)]
theorem jb_k {k2 y : Nat} (hn : n < 30) (hk : k2 ≠ k) (h1 : 320230 + 183 * k2 ≤ y) (h2 : y < 320230 + 183 * k2 + 183) : jbM m k n q a b fr e y = m y := by
  rcases Nat.lt_or_gt_of_ne hk with z | z
  · exact jb_out (by omega) (by omega)
  · exact jb_out (by omega) (by omega)
theorem jb_f (hn : n < 30) : jbM m k n q a b fr e (320230 + 183 * k + 29) = nI (n + 1) ∧ jbM m k n q a b fr e (320230 + 183 * k + 33 + 5 * n) = nI q ∧ jbM m k n q a b fr e (320230 + 183 * k + 33 + 5 * n + 1) = nI a ∧ jbM m k n q a b fr e (320230 + 183 * k + 33 + 5 * n + 2) = nI b ∧ jbM m k n q a b fr e (320230 + 183 * k + 33 + 5 * n + 3) = nI fr ∧ jbM m k n q a b fr e (320230 + 183 * k + 33 + 5 * n + 4) = nI e := by
  refine ⟨?_, ?_, ?_, ?_, ?_, ?_⟩ <;> simp (disch := omega) only [jb_at, i0, if_true]
theorem jb_mi (I : MI m) (hk : k < Nn m 3) (hn : n = Nn m (320230 + 183 * k + 29)) (n30 : n < 30) (vq : vP m q) (ha : a ≤ 39) (hb : b ≤ 40) (hfr : fr ≤ 1) (he : e ≤ 1) (E0 : e = 0 → m (130 + 645 * q + 3) = nI 1 ∧ a < b ∧ b ≤ Nn m (130 + 645 * q + 4)) (E1 : e = 1 → m (130 + 645 * q + 2) = nI 1 ∧ (m (130 + 645 * q + 3) = nI 0 → a = 0) ∧ (m (130 + 645 * q + 3) = nI 1 → a < Nn m (130 + 645 * q + 4)) ∧ ∀ k', k' < Nn m 3 → ∀ j', j' < Nn m (320230 + 183 * k' + 29) → m (320230 + 183 * k' + 33 + 5 * j' + 4) = nI 1 → m (320230 + 183 * k' + 33 + 5 * j') ≠ nI q) (hM : M = jbM m k n q a b fr e) : MI M := by
  obtain ⟨-, -, -, ⟨-, f3⟩, -⟩ := I.1.f
  have vb := vq.1
  have Out : ∀ y, y ≠ 320230 + 183 * k + 29 → (y < 320230 + 183 * k + 33 + 5 * n ∨ 320230 + 183 * k + 33 + 5 * n + 5 ≤ y) → M y = m y := fun y h1 h2 => by rw [hM]; exact jb_out h1 h2
  have OutK : ∀ k2 y, k2 ≠ k → 320230 + 183 * k2 ≤ y → y < 320230 + 183 * k2 + 183 → M y = m y := fun k2 y h0 h1 h2 => by rw [hM]; exact jb_k n30 h0 h1 h2
  obtain ⟨F29, F0, F1, F2, F3, F4⟩ := jb_f (m := m) (k := k) (q := q) (a := a) (b := b) (fr := fr) (e := e) n30
  rw [← hM] at F29 F0 F1 F2 F3 F4
  have H : ∀ y, (y < 320230 + 183 * k ∨ 320230 + 183 * k + 183 ≤ y) → M y = m y := fun y hy => Out y (by omega) (by omega)
  -- an old job's cells
  have old : ∀ k2 j x, k2 < Nn m 3 → j < Nn m (320230 + 183 * k2 + 29) → x < 5 → M (320230 + 183 * k2 + 33 + 5 * j + x) = m (320230 + 183 * k2 + 33 + 5 * j + x) := fun k2 j x h0 h1 h2 => by
    have h30 := ((I.2.2.2.1 k2 h0).2.2.2.1.eq (by omega)).2
    by_cases z : k2 = k
    · subst z
      exact Out _ (by omega) (by omega)
    · exact OutK k2 _ z (by omega) (by omega)
  have new29 : ∀ k2, k2 < Nn m 3 → Nn M (320230 + 183 * k2 + 29) = if k2 = k then n + 1 else Nn m (320230 + 183 * k2 + 29) := fun k2 h0 => by
    by_cases z : k2 = k
    · subst z
      rw [if_pos (Eq.refl _)]
      unfold Nn
      rw [F29, nCl (by omega)]
    · rw [if_neg z]
      exact Nn.c (OutK k2 _ z (by omega) (by omega))
  -- with 4 = 1
  have uni : ∀ k', k' < Nn m 3 → ∀ j', j' < Nn M (320230 + 183 * k' + 29) → M (320230 + 183 * k' + 33 + 5 * j' + 4) = nI 1 → (j' < Nn m (320230 + 183 * k' + 29) ∧ m (320230 + 183 * k' + 33 + 5 * j' + 4) = nI 1 ∧ M (320230 + 183 * k' + 33 + 5 * j') = m (320230 + 183 * k' + 33 + 5 * j')) ∨ (k' = k ∧ j' = n ∧ e = 1) := fun k' hk' j' hj' h4 => by
    rw [new29 k' hk'] at hj'
    by_cases z : j' < Nn m (320230 + 183 * k' + 29)
    · rw [old k' j' 4 hk' z (by omega)] at h4
      exact Or.inl ⟨z, h4, old k' j' 0 hk' z (by omega)⟩
    · by_cases zk : k' = k
      · subst zk
        rw [if_pos (Eq.refl _)] at hj'
        have zj : j' = n := by omega
        subst zj
        rw [F4, nEq (by omega) (by omega)] at h4
        exact Or.inr ⟨Eq.refl _, Eq.refl _, h4⟩
      · rw [if_neg zk] at hj'
        exact absurd hj' z
  refine MI.mch I hk H fun k2 hk2 => ?_
  obtain ⟨a0, a1, a2, a3, a4⟩ := I.2.2.2.1 k2 hk2
  have h30 := (a3.eq (by omega)).2
  have lo : ∀ y, y < 33 → y ≠ 29 → M (320230 + 183 * k2 + y) = m (320230 + 183 * k2 + y) := fun y h1 h2 => by
    by_cases z : k2 = k
    · subst z
      exact Out _ (by omega) (by omega)
    · exact OutK k2 _ z (by omega) (by omega)
  refine ⟨fun j hj => (a0 j hj).c (lo j (by omega) (by omega)), a1.c (lo 27 (by omega) (by omega)), a2.c (lo 28 (by omega) (by omega)), ?_, fun j hj => ?_⟩
  · by_cases z : k2 = k
    · subst z
      exact ⟨n + 1, by omega, F29⟩
    · exact a3.c (OutK k2 _ z (by omega) (by omega))
  · rw [new29 k2 hk2] at hj
    have n3 := Nn.c (H 3 (by omega))
    by_cases zj : j < Nn m (320230 + 183 * k2 + 29)
    · obtain ⟨c1, c2, c3', c4, c5, c6, c7, c8⟩ := a4 j zj
      have jb := c2.1
      have o := fun y => old k2 j y hk2 zj
      have e0 : M (320230 + 183 * k2 + 33 + 5 * j) = m (320230 + 183 * k2 + 33 + 5 * j) := o 0 (by omega)
      rw [Nn.c e0, Nn.c (o 1 (by omega)), Nn.c (o 2 (by omega)), o 1 (by omega), o 4 (by omega), H (130 + 645 * Nn m (320230 + 183 * k2 + 33 + 5 * j) + 2) (by omega), H (130 + 645 * Nn m (320230 + 183 * k2 + 33 + 5 * j) + 3) (by omega), Nn.c (H (130 + 645 * Nn m (320230 + 183 * k2 + 33 + 5 * j) + 4) (by omega)), n3, e0]
      refine ⟨c1.c e0, c2.c (H _ (by omega)) (fun _ => H _ (by omega)), c3'.c (o 1 (by omega)), c4.c (o 2 (by omega)), c5.c (o 3 (by omega)), c6.c (o 4 (by omega)), c7, fun hf => ?_⟩
      obtain ⟨d1, d2, d3, d4⟩ := c8 hf
      refine ⟨d1, d2, d3, fun k' hk' j' hj' h4 h0 => ?_⟩
      rcases uni k' hk' j' hj' h4 with ⟨u1, u2, u3⟩ | ⟨u1, u2, u3⟩
      · rw [u3] at h0
        exact d4 k' hk' j' u1 u2 h0
      · subst u1 u2
        rw [F0] at h0
        exact absurd h0.symm ((E1 u3).2.2.2 k2 hk2 j zj hf)
    · by_cases zk : k2 = k
      · subst zk
        rw [if_pos (Eq.refl _)] at hj
        have zj : j = n := by omega
        subst zj
        have N0 : Nn M (320230 + 183 * k2 + 33 + 5 * j) = q := by unfold Nn; rw [F0, nCl (by omega)]
        have N1 : Nn M (320230 + 183 * k2 + 33 + 5 * j + 1) = a := by unfold Nn; rw [F1, nCl (by omega)]
        have N2 : Nn M (320230 + 183 * k2 + 33 + 5 * j + 2) = b := by unfold Nn; rw [F2, nCl (by omega)]
        rw [N0, N1, N2, F4, F1, F0, H (130 + 645 * q + 2) (by omega), H (130 + 645 * q + 3) (by omega), Nn.c (H (130 + 645 * q + 4) (by omega)), n3]
        refine ⟨⟨q, by omega, F0⟩, vq.c (H _ (by omega)) (fun _ => H _ (by omega)), ⟨a, ha, F1⟩, ⟨b, hb, F2⟩, ⟨fr, hfr, F3⟩, ⟨e, he, F4⟩, fun z => ?_, fun z => ?_⟩
        · rw [nEq (by omega) (by omega)] at z
          exact E0 z
        · rw [nEq (by omega) (by omega)] at z
          obtain ⟨d1, d2, d3, d4⟩ := E1 z
          refine ⟨d1, fun y => by rw [d2 y], d3, fun k' hk' j' hj' h4 h0 => ?_⟩
          rcases uni k' hk' j' hj' h4 with ⟨u1, u2, u3⟩ | ⟨u1, u2, u3⟩
          · rw [u3] at h0
            exact absurd h0 (d4 k' hk' j' u1 u2)
          · exact ⟨u1, u2⟩
      · rw [if_neg zk] at hj
        exact absurd hj zj
end
