/-! the law's loop: the class alone reads -/
section
variable {h : Hp} {N L : Nat} {xs : Nat → Int32} {v4 : Int32}
theorem pr_f {X : Option Int32} {Y : Hp → Option (Int32 × Hp)} (h9 : 109 ≤ sz h) (hN : mu h ≤ N) (R0 : RS h) (P : Pr (cm []) Gm h (fX h X) Y) : ∃ v h2, X = some v ∧ Y h = some (v, h2) ∧ LSt h2 (N + 81) := by
  obtain ⟨o, h1, hX, k1, k2, k3, H⟩ := pr_l h9 hN P R0
  obtain ⟨b, h2, e1, e2, e3, e4, e5, e6, e7⟩ := H h1 (Or.inl rfl)
  cases X with
  | none => exact (nomatch hX)
  | some x =>
    have hX : some ((.inl x : Int32 ⊕ Nat), h) = some (o, h1) := hX
    cases hX
    refine ⟨x, h2, rfl, ?_, e7⟩
    rw [e2.2]
    exact e1
theorem lc_fault (Lh : LSt h N) : ∃ h2, ML_law_526 L xs h 1 73 109 v4 = some (.inl (v4 + nI 6, h2)) ∧ LSt h2 (N + 81) := by
  obtain ⟨tg, m, k, i, t, n, f, C, R, h9, hN⟩ := Lh
  obtain ⟨v, h2, e1, e2, e3⟩ := pr_f h9 hN R.1 (p_fault C R).gm
  refine ⟨h2, ?_, e3⟩
  unfold ML_law_526
  simp only [ZL]
  rw [gg_t C.2.1.1, e1, ob_some, gg_t (RS.f R.1).1, e2, b2_some, if_pos rfl]
theorem lc_check (Lh : LSt h N) : ∃ h2, ML_law_3147 L xs h 1 73 109 v4 = some (.inl (v4 + nI 6, h2)) ∧ LSt h2 (N + 81) := by
  obtain ⟨tg, m, k, i, t, n, f, C, R, h9, hN⟩ := Lh
  obtain ⟨v, h2, e1, e2, e3⟩ := pr_f h9 hN R.1 (p_check C R).gm
  refine ⟨h2, ?_, e3⟩
  unfold ML_law_3147
  simp only [ZL]
  rw [gg_t C.2.1.1, e1, ob_some, gg_t (RS.f R.1).1, e2, b2_some, if_pos rfl]
end
