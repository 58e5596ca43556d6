/-! the law's loop: image -/
section
variable {h : Hp} {N L : Nat} {xs : Nat → Int32} {v4 : Int32}
theorem pr_i {X : Option Hp} {Y : Hp → Option Hp} (h9 : 109 ≤ sz h) (hN : mu h ≤ N) (R0 : RS h) (P : Pr (cm []) Gm h (nX (vY X)) (fun h' => vY (Y h'))) : ∃ h1 h2, X = some h1 ∧ kd h1 73 = 11 ∧ Y h1 = some h2 ∧ LSt h2 (N + 81) := by
  obtain ⟨o, h1, hX, k1, k2, k3, H⟩ := pr_l h9 hN P R0
  obtain ⟨b, h2, e1, e2, e3, e4, e5, e6, e7⟩ := H h1 (Or.inl rfl)
  cases X with
  | none => exact (nomatch hX)
  | some x =>
    have hX : some ((.inl (nI 0) : Int32 ⊕ Nat), x) = some (o, h1) := hX
    cases hX
    refine ⟨h1, h2, rfl, k1, ?_, e7⟩
    have e1 : vY (Y h1) = some (b, h2) := e1
    cases z : Y h1 with
    | none => rw [z] at e1; exact (nomatch e1)
    | some y =>
      rw [z] at e1
      have e1 : some ((0 : Int32), y) = some (b, h2) := e1
      cases e1
      rfl
theorem lc_image (Lh : LSt h N) : ∃ h2, ML_law_3160 L xs h 1 73 109 v4 = some (.inl (v4 + nI 6, h2)) ∧ LSt h2 (N + 81) := by
  obtain ⟨tg, m, k, i, t, n, f, C, R, h9, hN⟩ := Lh
  obtain ⟨h1, h2, e1, e2, e3, e4⟩ := pr_i h9 hN R.1 (p_image C R h9)
  refine ⟨h2, ?_, e4⟩
  unfold ML_law_3160
  simp only [ZL]
  rw [gg_t C.2.1.1, e1, ob_some, gg_t e2, e3, ob_some]
end
