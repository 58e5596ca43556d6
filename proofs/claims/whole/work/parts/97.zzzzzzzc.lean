/-! the law's loop: a call that may throw -/
section
variable {h : Hp} {N : Nat} {l : List Nat}
/-- a number comes back -/
theorem pr_b {X : Option ((Int32 ⊕ Nat) × Hp)} {Y : Hp → Option (Int32 × Hp)} {K : Nat → Hp → Option (Int32 × Hp)} (h9 : 109 ≤ sz h) (hN : mu h ≤ N) (R0 : RS h) (P : Pr (cm l) Gm h X Y) (hK : ∀ k h1, 1 ≤ cm l k → cm l k ≤ 4 → K k h1 = some (nI (cm l k), h1)) : ∃ c h3, bC X (fun t1 h1 => gg (kd h1 109 = 23) <| gg (inB (nI 0) (ln h1 109) = true) <| lt (sI h1 109 (nI 0).toNatClampNeg t1) fun (h2 : Hp) => some (nI 0, h2)) K = some (nI c, h3) ∧ c ≤ 4 ∧ kd h3 73 = 11 ∧ ∃ b h2, Y h3 = some (b, h2) ∧ gI h2 73 0 = nI c ∧ (c = 0 → gI h2 109 0 = b) ∧ kd h2 73 = 11 ∧ kd h2 109 = 23 ∧ ln h2 109 = 1 ∧ LSt h2 (N + 81) := by
  obtain ⟨o, h1, hX, k1, k2, k3, H⟩ := pr_l h9 hN P R0
  cases o with
  | inl v =>
    obtain ⟨b, h2, e1, e2, e3, e4, e5, e6, e7⟩ := H (sI h1 109 0 v) (Or.inr ⟨v, rfl⟩)
    refine ⟨0, sI h1 109 0 v, ?_, by omega, k1, b, h2, e1, e2.1, fun _ => ?_, e3, e4, e5, e7⟩
    · rw [hX]
      show (gg (kd h1 109 = 23) <| gg (inB (nI 0) (ln h1 109) = true) <| lt (sI h1 109 (nI 0).toNatClampNeg v) fun (h2 : Hp) => some (nI 0, h2)) = _
      rw [gg_t k2, k3, gg_in (by omega) (by omega), nCl (by omega), lt_eq]
    · rw [e6, gI_sI, if_pos rfl, up_at, if_pos rfl]
      exact e2.2
  | inr k =>
    obtain ⟨b, h2, e1, e2, e3, e4, e5, e6, e7⟩ := H h1 (Or.inl rfl)
    obtain ⟨a1, a2, a3⟩ := e2
    refine ⟨cm l k, h1, ?_, a3, k1, b, h2, e1, a1, fun z => by omega, e3, e4, e5, e7⟩
    rw [hX]
    exact hK k h1 a2 a3
/-- a truth comes back -/
theorem pr_b2 {X : Option ((Int32 ⊕ Nat) × Hp)} {Y : Hp → Option (Int32 × Hp)} {K : Nat → Hp → Option (Int32 × Hp)} (h9 : 109 ≤ sz h) (hN : mu h ≤ N) (R0 : RS h) (P : Pr (cm l) Gm h X Y) (hK : ∀ k h1, 1 ≤ cm l k → cm l k ≤ 4 → K k h1 = some (nI (cm l k), h1)) : ∃ c h3, bC X (fun t1 h1 => gg (kd h1 109 = 23) <| gg (inB (nI 0) (ln h1 109) = true) <| if t1 = nI 0 then lt (sI h1 109 (nI 0).toNatClampNeg (nI 0)) fun (h2 : Hp) => some (nI 0, h2) else lt (sI h1 109 (nI 0).toNatClampNeg (nI 1)) fun (h2 : Hp) => some (nI 0, h2)) K = some (nI c, h3) ∧ c ≤ 4 ∧ kd h3 73 = 11 ∧ ∃ b h2, Y h3 = some (b, h2) ∧ gI h2 73 0 = nI c ∧ (c = 0 → gI h2 109 0 = if b = nI 0 then nI 0 else nI 1) ∧ kd h2 73 = 11 ∧ kd h2 109 = 23 ∧ ln h2 109 = 1 ∧ LSt h2 (N + 81) := by
  obtain ⟨o, h1, hX, k1, k2, k3, H⟩ := pr_l h9 hN P R0
  cases o with
  | inl v =>
    obtain ⟨w, hw⟩ : ∃ w, w = if v = nI 0 then nI 0 else nI 1 := ⟨_, rfl⟩
    obtain ⟨b, h2, e1, e2, e3, e4, e5, e6, e7⟩ := H (sI h1 109 0 w) (Or.inr ⟨w, rfl⟩)
    refine ⟨0, sI h1 109 0 w, ?_, by omega, k1, b, h2, e1, e2.1, fun _ => ?_, e3, e4, e5, e7⟩
    · rw [hX]
      show (gg (kd h1 109 = 23) <| gg (inB (nI 0) (ln h1 109) = true) <| if v = nI 0 then lt (sI h1 109 (nI 0).toNatClampNeg (nI 0)) fun (h2 : Hp) => some (nI 0, h2) else lt (sI h1 109 (nI 0).toNatClampNeg (nI 1)) fun (h2 : Hp) => some (nI 0, h2)) = _
      rw [gg_t k2, k3, gg_in (by omega) (by omega), nCl (by omega), lt_eq, lt_eq, hw]
      by_cases z : v = nI 0
      · rw [if_pos z, if_pos z]
      · rw [if_neg z, if_neg z]
    · rw [e6, gI_sI, if_pos rfl, up_at, if_pos rfl, hw, ← e2.2]
  | inr k =>
    obtain ⟨b, h2, e1, e2, e3, e4, e5, e6, e7⟩ := H h1 (Or.inl rfl)
    obtain ⟨a1, a2, a3⟩ := e2
    refine ⟨cm l k, h1, ?_, a3, k1, b, h2, e1, a1, fun z => by omega, e3, e4, e5, e7⟩
    rw [hX]
    exact hK k h1 a2 a3
/-- nothing comes back -/
theorem pr_v {X : Option ((Unit ⊕ Nat) × Hp)} {Y : Hp → Option Hp} {K : Nat → Hp → Option (Int32 × Hp)} (h9 : 109 ≤ sz h) (hN : mu h ≤ N) (R0 : RS h) (P : Pr (cm l) Gm h (vX X) (fun h' => vY (Y h'))) (hK : ∀ k h1, 1 ≤ cm l k → cm l k ≤ 4 → K k h1 = some (nI (cm l k), h1)) : ∃ c h3, bC X (fun _ h1 => some (nI 0, h1)) K = some (nI c, h3) ∧ c ≤ 4 ∧ kd h3 73 = 11 ∧ ∃ h2, Y h3 = some h2 ∧ gI h2 73 0 = nI c ∧ kd h2 73 = 11 ∧ kd h2 109 = 23 ∧ ln h2 109 = 1 ∧ LSt h2 (N + 81) := by
  obtain ⟨o, h1, hX, k1, k2, k3, H⟩ := pr_l h9 hN P R0
  obtain ⟨b, h2, e1, e2, e3, e4, e5, e6, e7⟩ := H h1 (Or.inl rfl)
  have eY : Y h1 = some h2 := by
    have e1 : vY (Y h1) = some (b, h2) := e1
    cases z : Y h1 with
    | none => rw [z] at e1; exact (nomatch e1)
    | some w =>
      rw [z] at e1
      have e1 : some ((0 : Int32), w) = some (b, h2) := e1
      cases e1
      rfl
  cases X with
  | none => exact (nomatch hX)
  | some x =>
    obtain ⟨x, w⟩ := x
    cases x with
    | inl u =>
      have hX : some ((.inl (0 : Int32) : Int32 ⊕ Nat), w) = some (o, h1) := hX
      cases hX
      exact ⟨0, h1, rfl, by omega, k1, h2, eY, e2.1, e3, e4, e5, e7⟩
    | inr k =>
      have hX : some ((.inr k : Int32 ⊕ Nat), w) = some (o, h1) := hX
      cases hX
      obtain ⟨a1, a2, a3⟩ := e2
      exact ⟨cm l k, h1, hK k h1 a2 a3, a3, k1, h2, eY, a1, e3, e4, e5, e7⟩
/-- nothing is thrown -/
theorem pr_n {X : Option (Int32 × Hp)} {Y : Hp → Option (Int32 × Hp)} (h9 : 109 ≤ sz h) (hN : mu h ≤ N) (R0 : RS h) (P : Pr (cm []) Gm h (nX X) Y) : ∃ v h1 h2, X = some (v, h1) ∧ kd h1 73 = 11 ∧ Y h1 = some (v, h2) ∧ LSt h2 (N + 81) := by
  obtain ⟨o, h1, hX, k1, k2, k3, H⟩ := pr_l h9 hN P R0
  obtain ⟨b, h2, e1, e2, e3, e4, e5, e6, e7⟩ := H h1 (Or.inl rfl)
  cases X with
  | none => exact (nomatch hX)
  | some x =>
    obtain ⟨x, w⟩ := x
    have hX : some ((.inl x : Int32 ⊕ Nat), w) = some (o, h1) := hX
    cases hX
    refine ⟨x, h1, h2, rfl, k1, ?_, e7⟩
    rw [e2.2]
    exact e1
end
