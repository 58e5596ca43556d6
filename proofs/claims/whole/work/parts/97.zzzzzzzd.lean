/-! the law's loop: cases -/
section
variable {h : Hp} {N L : Nat} {xs : Nat → Int32} {v4 : Int32}
theorem lgc_s (v : Int32) : lgc v v = nI 0 := by
  unfold lgc lg_cmp
  rw [if_neg (show ¬ v.toInt64 < v.toInt64 from Int64.lt_irrefl), if_pos rfl]
  rfl
/-- end -/
theorem lc_end (Lh : LSt h N) (i1 : inB (v4 + nI 1) L = true) : ∃ h2, ML_law_317 L xs h 1 73 109 v4 = some (.inl (v4 + nI 6, h2)) ∧ LSt h2 (N + 81) := by
  obtain ⟨tg, m, k, i, t, n, f, C, R, h9, hN⟩ := Lh
  obtain ⟨v, h1, h2, e1, e2, e3, e4⟩ := pr_n h9 hN R.1 (p_end C R (xs (v4 + nI 1).toNatClampNeg)).gm
  refine ⟨h2, ?_, e4⟩
  unfold ML_law_317
  simp only [ZL]
  rw [gg_t i1, gg_t C.2.1.1, e1, b2_some, gg_t i1, gg_t e2, e3, b2_some, if_pos rfl]
/-- story -/
theorem lc_story (Lh : LSt h N) (i1 : inB (v4 + nI 1) L = true) (i2 : inB (v4 + nI 2) L = true) : ∃ h2, ML_law_402 L xs h 1 73 109 v4 = some (.inl (v4 + nI 6, h2)) ∧ LSt h2 (N + 81) := by
  obtain ⟨tg, m, k, i, t, n, f, C, R, h9, hN⟩ := Lh
  obtain ⟨c, h3, e1, c4, e2, b, h2, e3, e4, e5, e6, e7, e8, e9⟩ := pr_b (K := fun k h1 => if k = 1 then some (nI 1, h1) else if k = 2 then some (nI 2, h1) else if k = 3 then some (nI 3, h1) else none) h9 hN R.1 (p_story C R h9 (xs (v4 + nI 1).toNatClampNeg) (xs (v4 + nI 2).toNatClampNeg)) (fun k h1 a1 a2 => by
    unfold cm at a1 a2 ⊢
    by_cases z1 : k = 1
    · rw [if_pos z1, if_pos z1]
    · rw [if_neg z1, if_neg z1]
      unfold cm
      by_cases z2 : k = 2
      · rw [if_pos z2, if_pos z2]
      · rw [if_neg z2, if_neg z2]
        unfold cm
        by_cases z3 : k = 3
        · rw [if_pos z3, if_pos z3]
        · exfalso
          rw [if_neg z1] at a2
          unfold cm at a2
          rw [if_neg z2] at a2
          unfold cm at a2
          rw [if_neg z3] at a2
          unfold cm at a2
          omega)
  refine ⟨h2, ?_, e9⟩
  unfold ML_law_402 ML_story MX12_thrown
  simp only [ZL]
  rw [gg_t i1, gg_t i2, gg_t C.2.1.1, e1, b2_some, gg_t i1, gg_t i2, gg_t e2, e3, b2_some, gg_t e6, gg_t e6, ob_some, e4, if_pos rfl]
  by_cases z : c = 0
  · rw [if_pos (by rw [z]), gg_t e7, e8, gg_in (by omega) (by omega), nCl (by omega), e5 z, lgc_s, if_pos rfl]
  · rw [if_neg (by rw [nEq (by omega) (by omega)]; exact z)]
end
