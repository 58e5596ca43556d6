/-! the law's loop: a call that may throw -/
section
variable {h : Hp} {N : Nat} {l : List Nat}
/-- a number comes back -/
theorem pr_b {X : Option ((Int32 ⊕ Nat) × Hp)} {Y : Hp → Option (Int32 × Hp)} {K : Nat → Hp → Option (Int32 × Hp)} (h9 : 109 ≤ sz h) (hN : mu h ≤ N) (R0 : RS h) (P : Pr (cm l) Gm h X Y) (hK : ∀ k h1, 1 ≤ cm l k → cm l k ≤ 4 → K k h1 = some (nI (cm l k), h1)) : ∃ c h3, bC X (fun t1 h1 => gg (kd h1 109 = 23) <| gg (inB (nI 0) (ln h1 109) = true) <| lt (sI h1 109 (nI 0).toNatClampNeg t1) fun (h2 : Hp) => some (nI 0, h2)) K = some (nI c, h3) ∧ c ≤ 4 ∧ kd h3 73 = 11 ∧ ∃ b h2, Y h3 = some (b, h2) ∧ gI h2 73 0 = nI c ∧ (c = 0 → gI h2 109 0 = b) ∧ kd h2 73 = 11 ∧ kd h2 109 = 23 ∧ ln h2 109 = 1 ∧ LSt h2 (N + 81) := by
  obtain ⟨o, h1, hX, k1, k2, k3, H⟩ := pr_l h9 hN P R0
  cases o with
  | inl v =>
    obtain ⟨b, h2, e1, e2, e3, e4, e5, e6, e7⟩ := H (sI h1 109 0 v) (Or.inr ⟨v, rfl⟩)
    refine ⟨0, sI h1 109 0 v, ?_, by omega, k1, b, h2, e1, e2.1, fun _ => ?_, e3, e4, e5, e7⟩
    · rw [hX]
      show (gg (kd h1 109 = 23) <| gg (inB (nI 0) (ln h1 109) = true) <| lt (sI h1 109 (nI 0).toNatClampNeg v) fun (h2 : Hp) => some (nI 0, h2)) = _
      rw [gg_t k2, k3, gg_in (by omega) (by omega), nCl (by omega), lt_eq]
    · rw [e6, gI_sI, if_pos rfl, up_at, if_pos rfl]
      exact e2.2
  | inr k =>
    obtain ⟨b, h2, e1, e2, e3, e4, e5, e6, e7⟩ := H h1 (Or.inl rfl)
    obtain ⟨a1, a2, a3⟩ := e2
    refine ⟨cm l k, h1, ?_, a3, k1, b, h2, e1, a1, fun z => by omega, e3, e4, e5, e7⟩
    rw [hX]
    exact hK k h1 a2 a3
end
