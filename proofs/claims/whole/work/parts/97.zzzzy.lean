/-! correct: putWord -/
section
variable {h h1 : Hp} {m M : Nat → Int32} {p o q w f f2 n wd X l pc : Nat} {L C : Nat → Nat} {T : Nat → Nat → Nat} {b : Nat → Nat} {s0 s : TX}
theorem sro_fr (O : SrO h p o m q) (F : Fr (PD h p) h h1) (n3 : ¬ PD h p (gP h o 3)) (n4 : ¬ PD h p (gP h o 4)) : SrO h1 p o m q := by
  obtain ⟨o1, o2, o3, o4, o5, o6, o7⟩ := O
  have e : gP h1 = gP h := F.2.2.1
  have e0 : sm h h1 o := F.sm o4
  have ek : ∀ k, k ≤ 4 → sm h h1 (gP h o k) := fun k hk => F.sm (by
    rcases (show k = 0 ∨ k = 1 ∨ k = 2 ∨ k = 3 ∨ k = 4 by omega) with rfl | rfl | rfl | rfl | rfl
    · exact o5
    · exact o6
    · exact o7
    · exact n3
    · exact n4)
  have pd : ∀ y, ¬ PD h p y → ¬ PD h1 p y := fun y hy => by unfold PD at hy ⊢; rw [e]; exact hy
  refine ⟨o1.cg e0 ek, o2.cg e0 ek, o3, pd _ o4, ?_, ?_, ?_⟩
  · rw [e]; exact pd _ o5
  · rw [e]; exact pd _ o6
  · rw [e]; exact pd _ o7
/-- the pieces behind putWord, told as numbers -/
theorem ch_pc (J : MIp m q) (hw : w < Nn m (130 + 645 * q)) (F : FW m q w f) (F2 : FW m q (w + 1) f2) (Ts : TI 1 1 (Nn m (130 + 645 * q + 1) - (f2 - f)) s) (s1 : s.1 = 0) (etw : 0 < tw s) (H : Chd m M q f f2 (tp s) (nI w) s.2.2.2.2.2.2.1 s.2.2.2.2.2.2.2) : 1 ≤ tp s ∧ tw s = 1 ∧ tp s + (Nn m (130 + 645 * q + 1) - (f2 - f)) ≤ 40 ∧ ∀ x, x < f + tp s + (Nn m (130 + 645 * q + 1) - f2) → M (130 + 645 * q + 125 + x) = nI (apF (apF (apF (fun _ => 0) 0 (fun i => Nn m (130 + 645 * q + 125 + (0 + i))) f) f (fun i => Nn s.2.2.2.2.2.2.1 (0 + i)) (tp s)) (f + tp s) (fun i => Nn m (130 + 645 * q + 125 + (f2 + i))) (Nn m (130 + 645 * q + 1) - f2) x) ∧ apF (apF (apF (fun _ => 0) 0 (fun i => Nn m (130 + 645 * q + 125 + (0 + i))) f) f (fun i => Nn s.2.2.2.2.2.2.1 (0 + i)) (tp s)) (f + tp s) (fun i => Nn m (130 + 645 * q + 125 + (f2 + i))) (Nn m (130 + 645 * q + 1) - f2) x ≤ 12 ∧ nI (apF (apF (apF (fun _ => 0) 0 (fun i => ctN m q (0 + i)) f) f (fun i => if i + 1 = tp s then 1 else 0) (tp s)) (f + tp s) (fun i => ctN m q (f2 + i)) (Nn m (130 + 645 * q + 1) - f2) x) = (if x + 1 = f + tp s + (Nn m (130 + 645 * q + 1) - f2) ∨ M (130 + 645 * q + 85 + x) ≠ M (130 + 645 * q + 85 + (x + 1)) then nI 1 else nI 0) ∧ ∀ l, l < apF (apF (apF (fun _ => 0) 0 (fun i => Nn m (130 + 645 * q + 125 + (0 + i))) f) f (fun i => Nn s.2.2.2.2.2.2.1 (0 + i)) (tp s)) (f + tp s) (fun i => Nn m (130 + 645 * q + 125 + (f2 + i))) (Nn m (130 + 645 * q + 1) - f2) x → M (130 + 645 * q + 165 + 12 * x + l) = nI (apF (apF (apF (fun _ _ => 0) 0 (fun i l => Nn m (130 + 645 * q + 165 + 12 * (0 + i) + l)) f) f (fun i l => Nn s.2.2.2.2.2.2.2 (12 * (0 + i) + l)) (tp s)) (f + tp s) (fun i l => Nn m (130 + 645 * q + 165 + 12 * (f2 + i) + l)) (Nn m (130 + 645 * q + 1) - f2) x l) := by
  obtain ⟨n1, n2, n3, n4, n5⟩ := ti_nm Ts (by omega)
  obtain ⟨d1, d2⟩ := FW_2 J F F2 hw
  have f2n := F2.1
  obtain ⟨-, b40⟩ := J.2.1.eq (by omega)
  obtain ⟨k1, k2, k3, k4, k5⟩ := H
  obtain ⟨z1, z2⟩ := Ts.2.2.2.2.2.2.2 0 (by omega)
  have e0 : Nn s.2.2.2.2.1 0 = tp s := by unfold tp; rw [s1]
  have e1 : Nn s.2.2.2.1 0 = tw s := by unfold tw; rw [s1]
  rw [e0] at z1 z2
  rw [e1] at z1
  have p1 : 1 ≤ tp s := by
    by_cases z : tp s = 0
    · have := z1.mp z
      omega
    · omega
  refine ⟨p1, by omega, n3, fun x hx => ?_⟩
  by_cases c1 : x < f
  · obtain ⟨a1, a2, a3⟩ := k3 x c1
    obtain ⟨o1, o2, o3, o4⟩ := J.2.2.2.2.2.2.1 x (by omega)
    have eL : ∀ (α : Type) (g0 g1 g2 g3 : Nat → α), apF (apF (apF g0 0 g1 f) f g2 (tp s)) (f + tp s) g3 (Nn m (130 + 645 * q + 1) - f2) x = g1 x := fun α g0 g1 g2 g3 => by
      unfold apF
      rw [if_neg (by omega), if_neg (by omega), if_pos (by omega), Nat.sub_zero]
    rw [eL, eL, eL, a2, Nat.zero_add]
    obtain ⟨v1, v2⟩ := o2.eq (by omega)
    refine ⟨v1, v2, ?_, fun l hl => ?_⟩
    · have nx : ∀ (P : Prop) [Decidable P] (Q : Prop) [Decidable Q], (P ↔ Q) → (nI (if P then 1 else 0) : Int32) = if Q then nI 1 else nI 0 := fun P _ Q _ e => by
        by_cases z : P
        · rw [if_pos z, if_pos (e.mp z)]
        · rw [if_neg z, if_neg (fun u => z (e.mpr u))]
      unfold ctN
      refine nx _ _ ?_
      rw [a1]
      have nb : M (130 + 645 * q + 85 + (x + 1)) = m (130 + 645 * q + 85 + (x + 1)) := by
        by_cases z : x + 1 < f
        · exact (k3 (x + 1) z).1
        · have := (k4 0 (by omega)).1
          rw [show x + 1 = f + 0 by omega, this]
          obtain ⟨u1, u2⟩ := (J.2.2.2.2.2.2.1 f (by omega)).1.eq (by omega)
          have := (d2 f (by omega)).mpr ⟨Nat.le_refl _, d1⟩
          unfold wP at this
          show nI w = m (130 + 645 * q + 85 + f)
          rw [u1, this]
      rw [nb]
      constructor
      · rintro (u | u)
        · omega
        · exact Or.inr u
      · rintro (u | u)
        · omega
        · exact Or.inr u
    · have l12 : l < 12 := by omega
      rw [a3 l l12]
      exact ((o4 l hl).eq (by omega)).1
  · by_cases c2 : x < f + tp s
    · obtain ⟨y, rfl⟩ : ∃ y, x = f + y := ⟨x - f, by omega⟩
      have hy : y < tp s := by omega
      obtain ⟨a1, a2, a3⟩ := k4 y hy
      have eL : ∀ (α : Type) (g0 g1 g2 g3 : Nat → α), apF (apF (apF g0 0 g1 f) f g2 (tp s)) (f + tp s) g3 (Nn m (130 + 645 * q + 1) - f2) (f + y) = g2 y := fun α g0 g1 g2 g3 => by
        unfold apF
        rw [if_neg (by omega), if_pos (by omega), Nat.add_sub_cancel_left]
      obtain ⟨-, ⟨y1, y2⟩, y3⟩ := z2 y hy
      rw [show 40 * 0 + y = y by omega] at y1 y2 y3
      obtain ⟨v1, v2⟩ := y1.eq (by omega)
      rw [eL, eL, eL, a2, Nat.zero_add]
      refine ⟨v1, v2, ?_, fun l hl => ?_⟩
      · rw [a1]
        by_cases z : y + 1 = tp s
        · rw [if_pos z]
          by_cases u : f2 = Nn m (130 + 645 * q + 1)
          · rw [if_pos (Or.inl (by omega))]
          · have := (k5 0 (by omega)).1
            rw [if_pos (Or.inr ?_)]
            rw [show f + y + 1 = f + tp s + 0 by omega, this]
            obtain ⟨u1, u2⟩ := (J.2.2.2.2.2.2.1 f2 (by omega)).1.eq (by omega)
            have t1 := F2.2.2 f2 (Nat.le_refl _) (by omega)
            unfold wP at t1
            show nI w ≠ m (130 + 645 * q + 85 + f2)
            rw [u1]
            intro u3
            have w24 : Nn m (130 + 645 * q) ≤ 24 := (J.1.eq (by omega)).2
            rw [nEq (by omega) (by omega)] at u3
            omega
        · rw [if_neg z]
          have := (k4 (y + 1) (by omega)).1
          rw [if_neg ?_]
          rintro (u | u)
          · omega
          · exact u this.symm
      · have l12 : l < 12 := by omega
        rw [a3 l l12]
        have := y3 l hl
        exact (this.eq (by omega)).1
    · obtain ⟨y, rfl⟩ : ∃ y, x = f + tp s + y := ⟨x - (f + tp s), by omega⟩
      have hy : y < Nn m (130 + 645 * q + 1) - f2 := by omega
      obtain ⟨a1, a2, a3⟩ := k5 y hy
      have eL : ∀ (α : Type) (g0 g1 g2 g3 : Nat → α), apF (apF (apF g0 0 g1 f) f g2 (tp s)) (f + tp s) g3 (Nn m (130 + 645 * q + 1) - f2) (f + tp s + y) = g3 y := fun α g0 g1 g2 g3 => by
        unfold apF
        rw [if_pos (by omega), Nat.add_sub_cancel_left]
      obtain ⟨o1, o2, o3, o4⟩ := J.2.2.2.2.2.2.1 (f2 + y) (by omega)
      obtain ⟨v1, v2⟩ := o2.eq (by omega)
      rw [eL, eL, eL, a2]
      refine ⟨v1, v2, ?_, fun l hl => ?_⟩
      · unfold ctN
        rw [a1]
        by_cases z : f2 + y + 1 = Nn m (130 + 645 * q + 1)
        · rw [if_pos (Or.inl z), if_pos (Or.inl (by omega))]
        · have e9 : M (130 + 645 * q + 85 + (f + tp s + y + 1)) = m (130 + 645 * q + 85 + (f2 + y + 1)) := (k5 (y + 1) (by omega)).1
          rw [e9]
          by_cases u : m (130 + 645 * q + 85 + (f2 + y)) = m (130 + 645 * q + 85 + (f2 + y + 1))
          · rw [if_neg (fun o => o.elim z (fun o => o u)), if_neg (fun o => o.elim (fun o => by omega) (fun o => o u))]
          · rw [if_pos (Or.inr u), if_pos (Or.inr u)]
      · have l12 : l < 12 := by omega
        rw [a3 l l12]
        exact ((o4 l hl).eq (by omega)).1
end
