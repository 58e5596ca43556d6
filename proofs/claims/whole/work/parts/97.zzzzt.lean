/-! correct: rows of pieces laid over a memory from piece t on -/
def mvW (m : Nat → Int32) (B t : Nat) (W Ln Lt : Nat → Int32) (a c d : Nat) : Nat → Int32 := fun y => if B + 85 + t ≤ y ∧ y < B + 85 + t + a then W (y - (B + 85 + t)) else if B + 125 + t ≤ y ∧ y < B + 125 + t + c then Ln (y - (B + 125 + t)) else if B + 165 + 12 * t ≤ y ∧ y < B + 165 + 12 * t + d then Lt (y - (B + 165 + 12 * t)) else m y
section
variable {m : Nat → Int32} {B t a c d y : Nat} {W Ln Lt : Nat → Int32}
theorem mvW_0 : mvW m B t W Ln Lt 0 0 0 = m := by
  funext y
  unfold mvW
  rw [if_neg (by omega), if_neg (by omega), if_neg (by omega)]
theorem mvW_W (ha : t + a < 40) : va_up (mvW m B t W Ln Lt a c d) (B + 85 + t + a) (W a) = mvW m B t W Ln Lt (a + 1) c d := by
  funext y
  rw [up_at]
  unfold mvW
  by_cases z : y = B + 85 + t + a
  · rw [if_pos z, if_pos (by omega), z, Nat.add_sub_cancel_left]
  · rw [if_neg z]
    by_cases z3 : B + 85 + t ≤ y ∧ y < B + 85 + t + a
    · rw [if_pos z3, if_pos (show B + 85 + t ≤ y ∧ y < B + 85 + t + (a + 1) by omega)]
    · rw [if_neg z3, if_neg (show ¬ (B + 85 + t ≤ y ∧ y < B + 85 + t + (a + 1)) by omega)]
theorem mvW_L (ha : t + a ≤ 40) (hc : t + c < 40) : va_up (mvW m B t W Ln Lt a c d) (B + 125 + t + c) (Ln c) = mvW m B t W Ln Lt a (c + 1) d := by
  funext y
  rw [up_at]
  unfold mvW
  by_cases z : y = B + 125 + t + c
  · rw [if_pos z, if_neg (by omega), if_pos (by omega), z, Nat.add_sub_cancel_left]
  · rw [if_neg z]
    by_cases z3 : B + 85 + t ≤ y ∧ y < B + 85 + t + a
    · rw [if_pos z3, if_pos z3]
    · rw [if_neg z3, if_neg z3]
      by_cases z4 : B + 125 + t ≤ y ∧ y < B + 125 + t + c
      · rw [if_pos z4, if_pos (show B + 125 + t ≤ y ∧ y < B + 125 + t + (c + 1) by omega)]
      · rw [if_neg z4, if_neg (show ¬ (B + 125 + t ≤ y ∧ y < B + 125 + t + (c + 1)) by omega)]
theorem mvW_T (ha : t + a ≤ 40) (hc : t + c ≤ 40) : va_up (mvW m B t W Ln Lt a c d) (B + 165 + 12 * t + d) (Lt d) = mvW m B t W Ln Lt a c (d + 1) := by
  funext y
  rw [up_at]
  unfold mvW
  by_cases z : y = B + 165 + 12 * t + d
  · rw [if_pos z, if_neg (by omega), if_neg (by omega), if_pos (by omega), z, Nat.add_sub_cancel_left]
  · rw [if_neg z]
    by_cases z3 : B + 85 + t ≤ y ∧ y < B + 85 + t + a
    · rw [if_pos z3, if_pos z3]
    · rw [if_neg z3, if_neg z3]
      by_cases z4 : B + 125 + t ≤ y ∧ y < B + 125 + t + c
      · rw [if_pos z4, if_pos z4]
      · rw [if_neg z4, if_neg z4]
        by_cases z5 : B + 165 + 12 * t ≤ y ∧ y < B + 165 + 12 * t + d
        · rw [if_pos z5, if_pos (show B + 165 + 12 * t ≤ y ∧ y < B + 165 + 12 * t + (d + 1) by omega)]
        · rw [if_neg z5, if_neg (show ¬ (B + 165 + 12 * t ≤ y ∧ y < B + 165 + 12 * t + (d + 1)) by omega)]
theorem mvW_o (ha : t + a ≤ 40) (hc : t + c ≤ 40) (hd : 12 * t + d ≤ 480) (h : y < B + 85 ∨ B + 645 ≤ y) : mvW m B t W Ln Lt a c d y = m y := by
  unfold mvW
  rw [if_neg (by omega), if_neg (by omega), if_neg (by omega)]
end
section
variable {g : Hp} {m : Nat → Int32} {B f pc n : Nat} {v2 v6 v5 : Int32} {Ln Lt : Nat → Int32}
/-- the reference puts the new pieces in -/
theorem r_chC (R : RS g) (em : gI g 74 = m) (hB : B + 645 ≤ 64630) (h40 : f + pc ≤ 40) (q79 : gI g 79 = Ln) (q80 : gI g 80 = Lt) (q81 : gI g 81 0 = nI pc) : ∃ g', MX12_changes_240 g 73 (nI B) v2 (nI f) v5 v6 = MX12_changes_346 g' 73 (nI B) v5 v6 ∧ Fr (fun y => y = 74) g g' ∧ gI g' 74 = mvW m B f (fun _ => v2) Ln Lt pc pc (12 * pc) := by
  have K : ∀ d x e, x + d = pc → Fr (fun y => y = 74) g e → gI e 74 = mvW m B f (fun _ => v2) Ln Lt x x (12 * x) → ∃ g', it (fun q : Int32 × Hp => BX12_changes_243 q.2 73 (nI B) v2 (nI f) v5 v6 q.1) (nI x, e) = MX12_changes_346 g' 73 (nI B) v5 v6 ∧ Fr (fun y => y = 74) g g' ∧ gI g' 74 = mvW m B f (fun _ => v2) Ln Lt pc pc (12 * pc) := fun d => by
    induction d with
    | zero =>
      intro x e hx F A
      have hx : x = pc := hx
      subst hx
      have Re : RS e := R.fr F
      refine ⟨e, it_u1 ?_, F, A⟩
      show BX12_changes_243 e 73 (nI B) v2 (nI f) v5 v6 (nI x) = _
      unfold BX12_changes_243
      simp only [ZL, RS.f Re]
      rw [gg_T, gg_T, gg_in (by omega) (by omega), nCl (by omega), F.2.2.2.2.2.2 81 (by decide), q81, if_pos (nI_le (Nat.le_refl _) (by omega))]
    | succ d ih =>
      intro x e hx F A
      have xn : x < pc := by omega
      have Re : RS e := R.fr F
      have fe : ∀ y, y ≠ 74 → gI e y = gI g y := fun y hy => F.2.2.2.2.2.2 y hy
      obtain ⟨e2, he2⟩ : ∃ e2, e2 = sI (sI e 74 (B + 85 + f + x) v2) 74 (B + 125 + f + x) (Ln x) := ⟨_, rfl⟩
      have G2 : Fr (fun y => y = 74) e e2 := by rw [he2]; exact fz74.trans fz74
      have w2 : gI e2 74 = mvW m B f (fun _ => v2) Ln Lt (x + 1) (x + 1) (12 * x + 0) := by
        have q1 := mvW_W (m := m) (B := B) (t := f) (W := fun _ => v2) (Ln := Ln) (Lt := Lt) (a := x) (c := x) (d := 12 * x) (by omega)
        have q2 := mvW_L (m := m) (B := B) (t := f) (W := fun _ => v2) (Ln := Ln) (Lt := Lt) (a := x + 1) (c := x) (d := 12 * x) (by omega) (by omega)
        rw [he2, gI_sI, if_pos rfl, gI_sI, if_pos rfl, A]
        rw [← q1] at q2
        exact q2
      have K2 : ∃ z, it (fun q : Int32 × Hp => BX12_changes_293 q.2 73 (nI B) v2 (nI f) v5 v6 (nI x) q.1) (nI 0, e2) = some z ∧ ∃ e3, z = .inl (nI (x + 1), e3) ∧ Fr (fun y => y = 74) e e3 ∧ gI e3 74 = mvW m B f (fun _ => v2) Ln Lt (x + 1) (x + 1) (12 * (x + 1)) := by
        refine it_cnt (fun l y => y.1 = nI l ∧ Fr (fun y => y = 74) e y.2 ∧ gI y.2 74 = mvW m B f (fun _ => v2) Ln Lt (x + 1) (x + 1) (12 * x + l)) 12 (fun l y hl pp => ?_) (fun y pp => ?_) ⟨rfl, G2, w2⟩
        · obtain ⟨c1, d1⟩ := y
          obtain ⟨p1, p2, p3⟩ := pp
          replace p1 : c1 = nI l := p1
          replace p2 : Fr (fun y => y = 74) e d1 := p2
          replace p3 : gI d1 74 = mvW m B f (fun _ => v2) Ln Lt (x + 1) (x + 1) (12 * x + l) := p3
          subst p1
          have Rd : RS d1 := Re.fr p2
          refine ⟨(nI (l + 1), sI d1 74 (B + 165 + 12 * (f + x) + l) (Lt (12 * x + l))), ?_, rfl, p2.trans fz74, ?_⟩
          · show BX12_changes_293 d1 73 (nI B) v2 (nI f) v5 v6 (nI x) (nI l) = _
            unfold BX12_changes_293
            simp only [ZL, RS.f Rd]
            rw [if_neg (nI_ge hl (by omega)), gg_T, gg_T, nMul, nAdd, gg_in (by omega) (by omega), gg_T, nAdd, nAdd, nMul, nAdd, nAdd, gg_in (by omega) (by omega), nCl (by omega), nCl (by omega), p2.2.2.2.2.2.2 80 (by decide), fe 80 (by decide), q80, lt_eq, nAdd]
          · show gI (sI d1 74 (B + 165 + 12 * (f + x) + l) (Lt (12 * x + l))) 74 = mvW m B f (fun _ => v2) Ln Lt (x + 1) (x + 1) (12 * x + l + 1)
            rw [gI_sI, if_pos rfl, p3, show B + 165 + 12 * (f + x) + l = B + 165 + 12 * f + (12 * x + l) by omega, mvW_T (by omega) (by omega)]
        · obtain ⟨c1, d1⟩ := y
          obtain ⟨p1, p2, p3⟩ := pp
          replace p1 : c1 = nI 12 := p1
          subst p1
          refine ⟨.inl (nI (x + 1), d1), ?_, d1, rfl, p2, p3⟩
          show BX12_changes_293 d1 73 (nI B) v2 (nI f) v5 v6 (nI x) (nI 12) = _
          unfold BX12_changes_293
          simp only [ZL]
          rw [if_pos (nI_le (Nat.le_refl _) (by omega)), nAdd]
      obtain ⟨z, k1, e3, rfl, k3, k4⟩ := K2
      have st : BX12_changes_243 e 73 (nI B) v2 (nI f) v5 v6 (nI x) = some (.inl (nI (x + 1), e3)) := by
        have n1 : gI (sI e 74 (B + 85 + f + x) v2) 79 = Ln := by rw [gI_sI, if_neg (by decide), fe 79 (by decide)]; exact q79
        unfold BX12_changes_243 MX12_changes_293
        simp only [ZL, RS.f Re]
        rw [gg_T, gg_T, gg_in (by omega) (by omega), nCl (by omega), fe 81 (by decide), q81, if_neg (nI_ge xn (by omega)), gg_T, nAdd, nAdd, nAdd, gg_in (by omega) (by omega), nCl (by omega), lt_eq, gg_T, gg_in (by omega) (by omega), nAdd, nAdd, nAdd, gg_in (by omega) (by omega), nCl (by omega), nCl (by omega), n1, lt_eq, ← he2]
        exact k1
      rw [it_next (s' := (nI (x + 1), e3)) st]
      exact ih (x + 1) e3 (by omega) (F.trans k3) k4
  unfold MX12_changes_240 MX12_changes_243
  simp only [ZL]
  exact K pc 0 g (Nat.zero_add _) Fr.rfl (by rw [mvW_0]; exact em)
end
