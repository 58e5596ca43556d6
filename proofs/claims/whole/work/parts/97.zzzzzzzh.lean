/-! the law's loop: nothing comes back -/
section
variable {h : Hp} {N L : Nat} {xs : Nat → Int32} {v4 : Int32}
theorem lc_width (Lh : LSt h N) (i1 : inB (v4 + nI 1) L = true) (i2 : inB (v4 + nI 2) L = true) (i3 : inB (v4 + nI 3) L = true) : ∃ h2, ML_law_342 L xs h 1 73 109 v4 = some (.inl (v4 + nI 6, h2)) ∧ LSt h2 (N + 81) := by
  obtain ⟨tg, m, k, i, t, n, f, C, R, h9, hN⟩ := Lh
  obtain ⟨c, h3, e1, c4, e2, h2, e3, e4, e5, e6, e7, e8⟩ := pr_v (K := fun k h1 => if k = 1 then some (nI 1, h1) else if k = 2 then some (nI 2, h1) else none) h9 hN R.1 (p_width C R (xs (v4 + nI 1).toNatClampNeg) (xs (v4 + nI 2).toNatClampNeg) (xs (v4 + nI 3).toNatClampNeg)).gm (fun k h1 a1 a2 => by
    unfold cm at a1 a2 ⊢
    by_cases z1 : k = 1
    · rw [if_pos z1, if_pos z1]
    · rw [if_neg z1, if_neg z1]
      unfold cm
      by_cases z2 : k = 2
      · rw [if_pos z2, if_pos z2]
      · exfalso
        rw [if_neg z1] at a2
        unfold cm at a2
        rw [if_neg z2] at a2
        unfold cm at a2
        omega)
  refine ⟨h2, ?_, e8⟩
  unfold ML_law_342 ML_width MX12_thrown
  simp only [ZL]
  rw [gg_t i1, gg_t i2, gg_t i3, gg_t C.2.1.1, e1, b2_some, gg_t i1, gg_t i2, gg_t i3, gg_t e2, e3, ob_some, gg_t e5, gg_t e5, ob_some, e4, if_pos rfl]
theorem lc_page (Lh : LSt h N) (i1 : inB (v4 + nI 1) L = true) (i2 : inB (v4 + nI 2) L = true) (i3 : inB (v4 + nI 3) L = true) : ∃ h2, ML_law_2274 L xs h 1 73 109 v4 = some (.inl (v4 + nI 6, h2)) ∧ LSt h2 (N + 81) := by
  obtain ⟨tg, m, k, i, t, n, f, C, R, h9, hN⟩ := Lh
  obtain ⟨c, h3, e1, c4, e2, h2, e3, e4, e5, e6, e7, e8⟩ := pr_v (K := fun k h1 => if k = 1 then some (nI 1, h1) else if k = 2 then some (nI 2, h1) else none) h9 hN R.1 (p_page C R (xs (v4 + nI 1).toNatClampNeg) (xs (v4 + nI 2).toNatClampNeg) (xs (v4 + nI 3).toNatClampNeg)).gm (fun k h1 a1 a2 => by
    unfold cm at a1 a2 ⊢
    by_cases z1 : k = 1
    · rw [if_pos z1, if_pos z1]
    · rw [if_neg z1, if_neg z1]
      unfold cm
      by_cases z2 : k = 2
      · rw [if_pos z2, if_pos z2]
      · exfalso
        rw [if_neg z1] at a2
        unfold cm at a2
        rw [if_neg z2] at a2
        unfold cm at a2
        omega)
  refine ⟨h2, ?_, e8⟩
  unfold ML_law_2274 ML_page MX12_thrown
  simp only [ZL]
  rw [gg_t i1, gg_t i2, gg_t i3, gg_t C.2.1.1, e1, b2_some, gg_t i1, gg_t i2, gg_t i3, gg_t e2, e3, ob_some, gg_t e5, gg_t e5, ob_some, e4, if_pos rfl]
end
