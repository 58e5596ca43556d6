/-! correct: the reference moves the pieces back -/
theorem nBy {a p o : Nat} (h : o ≤ a) : nI a + (nI p - nI o) = nI (a + p - o) := by
  rw [Int32.sub_eq_add_neg, ← Int32.add_assoc, nAdd, ← Int32.sub_eq_add_neg, nSub (by omega)]
section
variable {g : Hp} {m : Nat → Int32} {B f f2 pc n : Nat} {v2 v3 : Int32}
theorem r_chB (R : RS g) (em : gI g 74 = m) (hB : B + 645 ≤ 64630) (ff : f ≤ f2) (fn : f2 ≤ n) (n40 : n ≤ 40) (h40 : f + pc + (n - f2) ≤ 40) (A0 : AsD m B f2 n g) : ∃ g', MX12_changes_126 g 73 (nI B) v2 (nI f) (nI (f2 - f)) (nI n) (nI pc - nI (f2 - f)) = MX12_changes_240 g' 73 (nI B) v2 (nI f) (nI n) (nI pc - nI (f2 - f)) ∧ Fr (fun y => y = 74) g g' ∧ gI g' 74 = mvW m B (f + pc) (fun i => m (B + 85 + f2 + i)) (fun i => m (B + 125 + f2 + i)) (fun i => m (B + 165 + 12 * f2 + i)) (n - f2) (n - f2) (12 * (n - f2)) := by
  have K : ∀ d i e, i + d = n - f2 → Fr (fun y => y = 74) g e → gI e 74 = mvW m B (f + pc) (fun i => m (B + 85 + f2 + i)) (fun i => m (B + 125 + f2 + i)) (fun i => m (B + 165 + 12 * f2 + i)) i i (12 * i) → ∃ g', it (fun q : Int32 × Hp => BX12_changes_132 q.2 73 (nI B) v2 (nI f) (nI n) (nI pc - nI (f2 - f)) q.1) (nI (f2 + i), e) = MX12_changes_240 g' 73 (nI B) v2 (nI f) (nI n) (nI pc - nI (f2 - f)) ∧ Fr (fun y => y = 74) g g' ∧ gI g' 74 = mvW m B (f + pc) (fun i => m (B + 85 + f2 + i)) (fun i => m (B + 125 + f2 + i)) (fun i => m (B + 165 + 12 * f2 + i)) (n - f2) (n - f2) (12 * (n - f2)) := fun d => by
    induction d with
    | zero =>
      intro i e hx F A
      have hx : i = n - f2 := hx
      subst hx
      refine ⟨e, it_u1 ?_, F, A⟩
      show BX12_changes_132 e 73 (nI B) v2 (nI f) (nI n) (nI pc - nI (f2 - f)) (nI (f2 + (n - f2))) = _
      unfold BX12_changes_132
      rw [if_pos (nI_le (by omega) (by omega))]
    | succ d ih =>
      intro i e hx F A
      have xn : f2 + i < n := by omega
      have Re : RS e := R.fr F
      have fe : ∀ y, y ≠ 74 → gI e y = gI g y := fun y hy => F.2.2.2.2.2.2 y hy
      obtain ⟨z1, z2, z3⟩ := A0 (f2 + i) (by omega) xn
      obtain ⟨e2, he2⟩ : ∃ e2, e2 = sI (sI e 74 (B + 85 + (f + pc) + i) (m (B + 85 + f2 + i))) 74 (B + 125 + (f + pc) + i) (m (B + 125 + f2 + i)) := ⟨_, rfl⟩
      have G2 : Fr (fun y => y = 74) e e2 := by rw [he2]; exact fz74.trans fz74
      have w2 : gI e2 74 = mvW m B (f + pc) (fun i => m (B + 85 + f2 + i)) (fun i => m (B + 125 + f2 + i)) (fun i => m (B + 165 + 12 * f2 + i)) (i + 1) (i + 1) (12 * i + 0) := by
        have q1 := mvW_W (m := m) (B := B) (t := f + pc) (W := fun i => m (B + 85 + f2 + i)) (Ln := fun i => m (B + 125 + f2 + i)) (Lt := fun i => m (B + 165 + 12 * f2 + i)) (a := i) (c := i) (d := 12 * i) (by omega)
        have q2 := mvW_L (m := m) (B := B) (t := f + pc) (W := fun i => m (B + 85 + f2 + i)) (Ln := fun i => m (B + 125 + f2 + i)) (Lt := fun i => m (B + 165 + 12 * f2 + i)) (a := i + 1) (c := i) (d := 12 * i) (by omega) (by omega)
        rw [he2, gI_sI, if_pos rfl, gI_sI, if_pos rfl, A]
        rw [← q1] at q2
        exact q2
      have K2 : ∃ z, it (fun q : Int32 × Hp => BX12_changes_186 q.2 73 (nI B) v2 (nI f) (nI n) (nI pc - nI (f2 - f)) (nI (f2 + i)) q.1) (nI 0, e2) = some z ∧ ∃ e3, z = .inl (nI (f2 + (i + 1)), e3) ∧ Fr (fun y => y = 74) e e3 ∧ gI e3 74 = mvW m B (f + pc) (fun i => m (B + 85 + f2 + i)) (fun i => m (B + 125 + f2 + i)) (fun i => m (B + 165 + 12 * f2 + i)) (i + 1) (i + 1) (12 * (i + 1)) := by
        refine it_cnt (fun l y => y.1 = nI l ∧ Fr (fun y => y = 74) e y.2 ∧ gI y.2 74 = mvW m B (f + pc) (fun i => m (B + 85 + f2 + i)) (fun i => m (B + 125 + f2 + i)) (fun i => m (B + 165 + 12 * f2 + i)) (i + 1) (i + 1) (12 * i + l)) 12 (fun l y hl pp => ?_) (fun y pp => ?_) ⟨rfl, G2, w2⟩
        · obtain ⟨c1, d1⟩ := y
          obtain ⟨p1, p2, p3⟩ := pp
          replace p1 : c1 = nI l := p1
          replace p2 : Fr (fun y => y = 74) e d1 := p2
          replace p3 : gI d1 74 = mvW m B (f + pc) (fun i => m (B + 85 + f2 + i)) (fun i => m (B + 125 + f2 + i)) (fun i => m (B + 165 + 12 * f2 + i)) (i + 1) (i + 1) (12 * i + l) := p3
          subst p1
          have Rd : RS d1 := Re.fr p2
          have v99 : gI d1 99 (12 * (f2 + i) + l) = m (B + 165 + 12 * f2 + (12 * i + l)) := by
            rw [p2.2.2.2.2.2.2 99 (by decide), fe 99 (by decide), z3 l hl]
            exact congrArg m (by omega)
          refine ⟨(nI (l + 1), sI d1 74 (B + 165 + 12 * (f + pc) + (12 * i + l)) (m (B + 165 + 12 * f2 + (12 * i + l)))), ?_, rfl, p2.trans fz74, ?_⟩
          · show BX12_changes_186 d1 73 (nI B) v2 (nI f) (nI n) (nI pc - nI (f2 - f)) (nI (f2 + i)) (nI l) = _
            unfold BX12_changes_186
            simp only [ZL, RS.f Rd]
            rw [if_neg (nI_ge hl (by omega)), gg_T, gg_T, nMul, nAdd, gg_in (by omega) (by omega), gg_T, nBy (by omega), nAdd, nMul, nAdd, nAdd, gg_in (by omega) (by omega), nCl (by omega), nCl (by omega), v99, lt_eq, nAdd, show B + 165 + 12 * (f2 + i + pc - (f2 - f)) + l = B + 165 + 12 * (f + pc) + (12 * i + l) by omega]
          · show gI (sI d1 74 _ _) 74 = mvW m B (f + pc) (fun i => m (B + 85 + f2 + i)) (fun i => m (B + 125 + f2 + i)) (fun i => m (B + 165 + 12 * f2 + i)) (i + 1) (i + 1) (12 * i + l + 1)
            rw [gI_sI, if_pos rfl, p3]
            exact mvW_T (Lt := fun i => m (B + 165 + 12 * f2 + i)) (by omega) (by omega)
        · obtain ⟨c1, d1⟩ := y
          obtain ⟨p1, p2, p3⟩ := pp
          replace p1 : c1 = nI 12 := p1
          subst p1
          refine ⟨.inl (nI (f2 + (i + 1)), d1), ?_, d1, rfl, p2, p3⟩
          show BX12_changes_186 d1 73 (nI B) v2 (nI f) (nI n) (nI pc - nI (f2 - f)) (nI (f2 + i)) (nI 12) = _
          unfold BX12_changes_186
          simp only [ZL]
          rw [if_pos (nI_le (Nat.le_refl _) (by omega)), nAdd]
          rfl
      obtain ⟨z, k1, e3, rfl, k3, k4⟩ := K2
      have st : BX12_changes_132 e 73 (nI B) v2 (nI f) (nI n) (nI pc - nI (f2 - f)) (nI (f2 + i)) = some (.inl (nI (f2 + (i + 1)), e3)) := by
        have n1 : gI (sI e 74 (B + 85 + (f + pc) + i) (m (B + 85 + f2 + i))) 98 (f2 + i) = m (B + 125 + f2 + i) := by rw [gI_sI, if_neg (by decide), fe 98 (by decide), z2]; exact congrArg m (by omega)
        have n2 : gI e 97 (f2 + i) = m (B + 85 + f2 + i) := by rw [fe 97 (by decide), z1]; exact congrArg m (by omega)
        unfold BX12_changes_132 MX12_changes_186
        simp only [ZL, RS.f Re]
        rw [if_neg (nI_ge xn (by omega)), gg_T, gg_T, gg_in (by omega) (by omega), gg_T, nAdd, nAdd, nBy (by omega), gg_in (by omega) (by omega), nCl (by omega), nCl (by omega), n2, show B + 85 + (f2 + i) + pc - (f2 - f) = B + 85 + (f + pc) + i by omega, lt_eq, gg_T, gg_in (by omega) (by omega), nAdd, nAdd, nBy (by omega), gg_in (by omega) (by omega), nCl (by omega), n1, show B + 125 + (f2 + i) + pc - (f2 - f) = B + 125 + (f + pc) + i by omega, lt_eq, ← he2]
        exact k1
      rw [it_next (s' := (nI (f2 + (i + 1)), e3)) st]
      exact ih (i + 1) e3 (by omega) (F.trans k3) k4
  unfold MX12_changes_126 MX12_changes_132
  rw [nAdd, show f + (f2 - f) = f2 + 0 by omega]
  exact K (n - f2) 0 g (Nat.zero_add _) Fr.rfl (by rw [mvW_0]; exact em)
end
