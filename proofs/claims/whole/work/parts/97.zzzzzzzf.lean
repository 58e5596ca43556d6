/-! the law's loop: nothing thrown -/
section
variable {h : Hp} {N L : Nat} {xs : Nat → Int32} {v4 : Int32}
theorem lc_feed (Lh : LSt h N) (i1 : inB (v4 + nI 1) L = true) (i2 : inB (v4 + nI 2) L = true) (i3 : inB (v4 + nI 3) L = true) (i4 : inB (v4 + nI 4) L = true) (i5 : inB (v4 + nI 5) L = true) : ∃ h2, ML_law_244 L xs h 1 73 109 v4 = some (.inl (v4 + nI 6, h2)) ∧ LSt h2 (N + 81) := by
  obtain ⟨tg, m, k, i, t, n, f, C, R, h9, hN⟩ := Lh
  obtain ⟨v, h1, h2, e1, e2, e3, e4⟩ := pr_n h9 hN R.1 (p_feed C R (xs (v4 + nI 1).toNatClampNeg) (xs (v4 + nI 2).toNatClampNeg) (xs (v4 + nI 3).toNatClampNeg) (xs (v4 + nI 4).toNatClampNeg) (xs (v4 + nI 5).toNatClampNeg)).gm
  refine ⟨h2, ?_, e4⟩
  unfold ML_law_244
  simp only [ZL]
  rw [gg_t i1, gg_t i2, gg_t i3, gg_t i4, gg_t i5, gg_t C.2.1.1, e1, b2_some, gg_t i1, gg_t i2, gg_t i3, gg_t i4, gg_t i5, gg_t e2, e3, b2_some, if_pos rfl]
theorem lc_least (Lh : LSt h N) : ∃ h2, ML_law_2850 L xs h 1 73 109 v4 = some (.inl (v4 + nI 6, h2)) ∧ LSt h2 (N + 81) := by
  obtain ⟨tg, m, k, i, t, n, f, C, R, h9, hN⟩ := Lh
  obtain ⟨v, h1, h2, e1, e2, e3, e4⟩ := pr_n h9 hN R.1 (p_least C R)
  refine ⟨h2, ?_, e4⟩
  unfold ML_law_2850
  simp only [ZL]
  rw [gg_t C.2.1.1, e1, b2_some, gg_t e2, e3, b2_some, if_pos rfl]
theorem lc_back (Lh : LSt h N) : ∃ h2, ML_law_3171 L xs h 1 73 109 v4 = some (.inl (v4 + nI 6, h2)) ∧ LSt h2 (N + 81) := by
  obtain ⟨tg, m, k, i, t, n, f, C, R, h9, hN⟩ := Lh
  obtain ⟨v, h1, h2, e1, e2, e3, e4⟩ := pr_n h9 hN R.1 (p_back C R h9)
  refine ⟨h2, ?_, e4⟩
  unfold ML_law_3171
  simp only [ZL]
  rw [gg_t C.2.1.1, e1, b2_some, gg_t e2, e3, b2_some, if_pos rfl]
theorem lc_count (Lh : LSt h N) (i1 : inB (v4 + nI 1) L = true) : ∃ h2, ML_law_3184 L xs h 1 73 109 v4 = some (.inl (v4 + nI 6, h2)) ∧ LSt h2 (N + 81) := by
  obtain ⟨tg, m, k, i, t, n, f, C, R, h9, hN⟩ := Lh
  obtain ⟨v, h1, h2, e1, e2, e3, e4⟩ := pr_n h9 hN R.1 (p_count C R (xs (v4 + nI 1).toNatClampNeg)).gm
  refine ⟨h2, ?_, e4⟩
  unfold ML_law_3184
  simp only [ZL]
  rw [gg_t i1, gg_t C.2.1.1, e1, b2_some, gg_t i1, gg_t e2, e3, b2_some, if_pos rfl]
end
