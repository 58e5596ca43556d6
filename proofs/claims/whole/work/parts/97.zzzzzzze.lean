/-! the law's loop: numbers that may throw -/
section
variable {h : Hp} {N L : Nat} {xs : Nat → Int32} {v4 : Int32}
theorem lc_give (Lh : LSt h N) (i1 : inB (v4 + nI 1) L = true) (i2 : inB (v4 + nI 2) L = true) : ∃ h2, ML_law_1146 L xs h 1 73 109 v4 = some (.inl (v4 + nI 6, h2)) ∧ LSt h2 (N + 81) := by
  obtain ⟨tg, m, k, i, t, n, f, C, R, h9, hN⟩ := Lh
  obtain ⟨c, h3, e1, c4, e2, b, h2, e3, e4, e5, e6, e7, e8, e9⟩ := pr_b (K := fun k h1 => if k = 1 then some (nI 1, h1) else if k = 3 then some (nI 2, h1) else none) h9 hN R.1 (p_give C R (xs (v4 + nI 1).toNatClampNeg) (xs (v4 + nI 2).toNatClampNeg)).gm (fun k h1 a1 a2 => by
    unfold cm at a1 a2 ⊢
    by_cases z1 : k = 1
    · rw [if_pos z1, if_pos z1]
    · rw [if_neg z1, if_neg z1]
      unfold cm
      by_cases z2 : k = 3
      · rw [if_pos z2, if_pos z2]
      · exfalso
        rw [if_neg z1] at a2
        unfold cm at a2
        rw [if_neg z2] at a2
        unfold cm at a2
        omega)
  refine ⟨h2, ?_, e9⟩
  unfold ML_law_1146 ML_give MX12_thrown
  simp only [ZL]
  rw [gg_t i1, gg_t i2, gg_t C.2.1.1, e1, b2_some, gg_t i1, gg_t i2, gg_t e2, e3, b2_some, gg_t e6, gg_t e6, ob_some, e4, if_pos rfl]
  by_cases z : c = 0
  · rw [if_pos (by rw [z]), gg_t e7, e8, gg_in (by omega) (by omega), nCl (by omega), e5 z, lgc_s, if_pos rfl]
  · rw [if_neg (by rw [nEq (by omega) (by omega)]; exact z)]
theorem lc_minutes (Lh : LSt h N) (i1 : inB (v4 + nI 1) L = true) : ∃ h2, ML_law_1214 L xs h 1 73 109 v4 = some (.inl (v4 + nI 6, h2)) ∧ LSt h2 (N + 81) := by
  obtain ⟨tg, m, k, i, t, n, f, C, R, h9, hN⟩ := Lh
  obtain ⟨c, h3, e1, c4, e2, b, h2, e3, e4, e5, e6, e7, e8, e9⟩ := pr_b (K := fun k h1 => if k = 2 then some (nI 1, h1) else none) h9 hN R.1 (p_minutes C R h9 (xs (v4 + nI 1).toNatClampNeg)) (fun k h1 a1 a2 => by
    unfold cm at a1 a2 ⊢
    by_cases z1 : k = 2
    · rw [if_pos z1, if_pos z1]
    · exfalso
      rw [if_neg z1] at a2
      unfold cm at a2
      omega)
  refine ⟨h2, ?_, e9⟩
  unfold ML_law_1214 ML_minutes MX12_thrown
  simp only [ZL]
  rw [gg_t i1, gg_t C.2.1.1, e1, b2_some, gg_t i1, gg_t e2, e3, b2_some, gg_t e6, gg_t e6, ob_some, e4, if_pos rfl]
  by_cases z : c = 0
  · rw [if_pos (by rw [z]), gg_t e7, e8, gg_in (by omega) (by omega), nCl (by omega), e5 z, lgc_s, if_pos rfl]
  · rw [if_neg (by rw [nEq (by omega) (by omega)]; exact z)]
theorem lc_runs (Lh : LSt h N) (i1 : inB (v4 + nI 1) L = true) (i2 : inB (v4 + nI 2) L = true) : ∃ h2, ML_law_1270 L xs h 1 73 109 v4 = some (.inl (v4 + nI 6, h2)) ∧ LSt h2 (N + 81) := by
  obtain ⟨tg, m, k, i, t, n, f, C, R, h9, hN⟩ := Lh
  obtain ⟨c, h3, e1, c4, e2, b, h2, e3, e4, e5, e6, e7, e8, e9⟩ := pr_b (K := fun k h1 => if k = 1 then some (nI 1, h1) else if k = 4 then some (nI 2, h1) else none) h9 hN R.1 (p_runs C R (xs (v4 + nI 1).toNatClampNeg) (xs (v4 + nI 2).toNatClampNeg)).gm (fun k h1 a1 a2 => by
    unfold cm at a1 a2 ⊢
    by_cases z1 : k = 1
    · rw [if_pos z1, if_pos z1]
    · rw [if_neg z1, if_neg z1]
      unfold cm
      by_cases z2 : k = 4
      · rw [if_pos z2, if_pos z2]
      · exfalso
        rw [if_neg z1] at a2
        unfold cm at a2
        rw [if_neg z2] at a2
        unfold cm at a2
        omega)
  refine ⟨h2, ?_, e9⟩
  unfold ML_law_1270 ML_runs MX12_thrown
  simp only [ZL]
  rw [gg_t i1, gg_t i2, gg_t C.2.1.1, e1, b2_some, gg_t i1, gg_t i2, gg_t e2, e3, b2_some, gg_t e6, gg_t e6, ob_some, e4, if_pos rfl]
  by_cases z : c = 0
  · rw [if_pos (by rw [z]), gg_t e7, e8, gg_in (by omega) (by omega), nCl (by omega), e5 z, lgc_s, if_pos rfl]
  · rw [if_neg (by rw [nEq (by omega) (by omega)]; exact z)]
theorem lc_slug (Lh : LSt h N) (i1 : inB (v4 + nI 1) L = true) (i2 : inB (v4 + nI 2) L = true) : ∃ h2, ML_law_1338 L xs h 1 73 109 v4 = some (.inl (v4 + nI 6, h2)) ∧ LSt h2 (N + 81) := by
  obtain ⟨tg, m, k, i, t, n, f, C, R, h9, hN⟩ := Lh
  obtain ⟨c, h3, e1, c4, e2, b, h2, e3, e4, e5, e6, e7, e8, e9⟩ := pr_b (K := fun k h1 => if k = 1 then some (nI 1, h1) else if k = 4 then some (nI 2, h1) else none) h9 hN R.1 (p_slug C R (xs (v4 + nI 1).toNatClampNeg) (xs (v4 + nI 2).toNatClampNeg)).gm (fun k h1 a1 a2 => by
    unfold cm at a1 a2 ⊢
    by_cases z1 : k = 1
    · rw [if_pos z1, if_pos z1]
    · rw [if_neg z1, if_neg z1]
      unfold cm
      by_cases z2 : k = 4
      · rw [if_pos z2, if_pos z2]
      · exfalso
        rw [if_neg z1] at a2
        unfold cm at a2
        rw [if_neg z2] at a2
        unfold cm at a2
        omega)
  refine ⟨h2, ?_, e9⟩
  unfold ML_law_1338 ML_slug MX12_thrown
  simp only [ZL]
  rw [gg_t i1, gg_t i2, gg_t C.2.1.1, e1, b2_some, gg_t i1, gg_t i2, gg_t e2, e3, b2_some, gg_t e6, gg_t e6, ob_some, e4, if_pos rfl]
  by_cases z : c = 0
  · rw [if_pos (by rw [z]), gg_t e7, e8, gg_in (by omega) (by omega), nCl (by omega), e5 z, lgc_s, if_pos rfl]
  · rw [if_neg (by rw [nEq (by omega) (by omega)]; exact z)]
theorem lc_says (Lh : LSt h N) (i1 : inB (v4 + nI 1) L = true) (i2 : inB (v4 + nI 2) L = true) : ∃ h2, ML_law_1406 L xs h 1 73 109 v4 = some (.inl (v4 + nI 6, h2)) ∧ LSt h2 (N + 81) := by
  obtain ⟨tg, m, k, i, t, n, f, C, R, h9, hN⟩ := Lh
  obtain ⟨c, h3, e1, c4, e2, b, h2, e3, e4, e5, e6, e7, e8, e9⟩ := pr_b (K := fun k h1 => if k = 1 then some (nI 1, h1) else none) h9 hN R.1 (p_says C R (xs (v4 + nI 1).toNatClampNeg) (xs (v4 + nI 2).toNatClampNeg)).gm (fun k h1 a1 a2 => by
    unfold cm at a1 a2 ⊢
    by_cases z1 : k = 1
    · rw [if_pos z1, if_pos z1]
    · exfalso
      rw [if_neg z1] at a2
      unfold cm at a2
      omega)
  refine ⟨h2, ?_, e9⟩
  unfold ML_law_1406 ML_says MX12_thrown
  simp only [ZL]
  rw [gg_t i1, gg_t i2, gg_t C.2.1.1, e1, b2_some, gg_t i1, gg_t i2, gg_t e2, e3, b2_some, gg_t e6, gg_t e6, ob_some, e4, if_pos rfl]
  by_cases z : c = 0
  · rw [if_pos (by rw [z]), gg_t e7, e8, gg_in (by omega) (by omega), nCl (by omega), e5 z, lgc_s, if_pos rfl]
  · rw [if_neg (by rw [nEq (by omega) (by omega)]; exact z)]
theorem lc_lies (Lh : LSt h N) (i1 : inB (v4 + nI 1) L = true) (i2 : inB (v4 + nI 2) L = true) : ∃ h2, ML_law_1474 L xs h 1 73 109 v4 = some (.inl (v4 + nI 6, h2)) ∧ LSt h2 (N + 81) := by
  obtain ⟨tg, m, k, i, t, n, f, C, R, h9, hN⟩ := Lh
  obtain ⟨c, h3, e1, c4, e2, b, h2, e3, e4, e5, e6, e7, e8, e9⟩ := pr_b (K := fun k h1 => if k = 1 then some (nI 1, h1) else if k = 5 then some (nI 2, h1) else none) h9 hN R.1 (p_lies C R (xs (v4 + nI 1).toNatClampNeg) (xs (v4 + nI 2).toNatClampNeg)).gm (fun k h1 a1 a2 => by
    unfold cm at a1 a2 ⊢
    by_cases z1 : k = 1
    · rw [if_pos z1, if_pos z1]
    · rw [if_neg z1, if_neg z1]
      unfold cm
      by_cases z2 : k = 5
      · rw [if_pos z2, if_pos z2]
      · exfalso
        rw [if_neg z1] at a2
        unfold cm at a2
        rw [if_neg z2] at a2
        unfold cm at a2
        omega)
  refine ⟨h2, ?_, e9⟩
  unfold ML_law_1474 ML_lies MX12_thrown
  simp only [ZL]
  rw [gg_t i1, gg_t i2, gg_t C.2.1.1, e1, b2_some, gg_t i1, gg_t i2, gg_t e2, e3, b2_some, gg_t e6, gg_t e6, ob_some, e4, if_pos rfl]
  by_cases z : c = 0
  · rw [if_pos (by rw [z]), gg_t e7, e8, gg_in (by omega) (by omega), nCl (by omega), e5 z, lgc_s, if_pos rfl]
  · rw [if_neg (by rw [nEq (by omega) (by omega)]; exact z)]
theorem lc_judge (Lh : LSt h N) (i1 : inB (v4 + nI 1) L = true) : ∃ h2, ML_law_1542 L xs h 1 73 109 v4 = some (.inl (v4 + nI 6, h2)) ∧ LSt h2 (N + 81) := by
  obtain ⟨tg, m, k, i, t, n, f, C, R, h9, hN⟩ := Lh
  obtain ⟨c, h3, e1, c4, e2, b, h2, e3, e4, e5, e6, e7, e8, e9⟩ := pr_b (K := fun k h1 => if k = 1 then some (nI 1, h1) else if k = 5 then some (nI 2, h1) else none) h9 hN R.1 (p_judge C R (xs (v4 + nI 1).toNatClampNeg)).gm (fun k h1 a1 a2 => by
    unfold cm at a1 a2 ⊢
    by_cases z1 : k = 1
    · rw [if_pos z1, if_pos z1]
    · rw [if_neg z1, if_neg z1]
      unfold cm
      by_cases z2 : k = 5
      · rw [if_pos z2, if_pos z2]
      · exfalso
        rw [if_neg z1] at a2
        unfold cm at a2
        rw [if_neg z2] at a2
        unfold cm at a2
        omega)
  refine ⟨h2, ?_, e9⟩
  unfold ML_law_1542 ML_judge MX12_thrown
  simp only [ZL]
  rw [gg_t i1, gg_t C.2.1.1, e1, b2_some, gg_t i1, gg_t e2, e3, b2_some, gg_t e6, gg_t e6, ob_some, e4, if_pos rfl]
  by_cases z : c = 0
  · rw [if_pos (by rw [z]), gg_t e7, e8, gg_in (by omega) (by omega), nCl (by omega), e5 z, lgc_s, if_pos rfl]
  · rw [if_neg (by rw [nEq (by omega) (by omega)]; exact z)]
theorem lc_again (Lh : LSt h N) (i1 : inB (v4 + nI 1) L = true) (i2 : inB (v4 + nI 2) L = true) (i3 : inB (v4 + nI 3) L = true) : ∃ h2, ML_law_1736 L xs h 1 73 109 v4 = some (.inl (v4 + nI 6, h2)) ∧ LSt h2 (N + 81) := by
  obtain ⟨tg, m, k, i, t, n, f, C, R, h9, hN⟩ := Lh
  obtain ⟨c, h3, e1, c4, e2, b, h2, e3, e4, e5, e6, e7, e8, e9⟩ := pr_b (K := fun k h1 => if k = 1 then some (nI 1, h1) else if k = 5 then some (nI 2, h1) else if k = 3 then some (nI 3, h1) else none) h9 hN R.1 (p_again C R (xs (v4 + nI 1).toNatClampNeg) (xs (v4 + nI 2).toNatClampNeg) (xs (v4 + nI 3).toNatClampNeg)).gm (fun k h1 a1 a2 => by
    unfold cm at a1 a2 ⊢
    by_cases z1 : k = 1
    · rw [if_pos z1, if_pos z1]
    · rw [if_neg z1, if_neg z1]
      unfold cm
      by_cases z2 : k = 5
      · rw [if_pos z2, if_pos z2]
      · rw [if_neg z2, if_neg z2]
        unfold cm
        by_cases z3 : k = 3
        · rw [if_pos z3, if_pos z3]
        · exfalso
          rw [if_neg z1] at a2
          unfold cm at a2
          rw [if_neg z2] at a2
          unfold cm at a2
          rw [if_neg z3] at a2
          unfold cm at a2
          omega)
  refine ⟨h2, ?_, e9⟩
  unfold ML_law_1736 ML_again MX12_thrown
  simp only [ZL]
  rw [gg_t i1, gg_t i2, gg_t i3, gg_t C.2.1.1, e1, b2_some, gg_t i1, gg_t i2, gg_t i3, gg_t e2, e3, b2_some, gg_t e6, gg_t e6, ob_some, e4, if_pos rfl]
  by_cases z : c = 0
  · rw [if_pos (by rw [z]), gg_t e7, e8, gg_in (by omega) (by omega), nCl (by omega), e5 z, lgc_s, if_pos rfl]
  · rw [if_neg (by rw [nEq (by omega) (by omega)]; exact z)]
theorem lc_correct (Lh : LSt h N) (i1 : inB (v4 + nI 1) L = true) (i2 : inB (v4 + nI 2) L = true) (i3 : inB (v4 + nI 3) L = true) : ∃ h2, ML_law_1816 L xs h 1 73 109 v4 = some (.inl (v4 + nI 6, h2)) ∧ LSt h2 (N + 81) := by
  obtain ⟨tg, m, k, i, t, n, f, C, R, h9, hN⟩ := Lh
  obtain ⟨c, h3, e1, c4, e2, b, h2, e3, e4, e5, e6, e7, e8, e9⟩ := pr_b (K := fun k h1 => if k = 1 then some (nI 1, h1) else if k = 2 then some (nI 2, h1) else if k = 5 then some (nI 3, h1) else if k = 3 then some (nI 4, h1) else none) h9 hN R.1 (p_correct C R (xs (v4 + nI 1).toNatClampNeg) (xs (v4 + nI 2).toNatClampNeg) (xs (v4 + nI 3).toNatClampNeg)) (fun k h1 a1 a2 => by
    unfold cm at a1 a2 ⊢
    by_cases z1 : k = 1
    · rw [if_pos z1, if_pos z1]
    · rw [if_neg z1, if_neg z1]
      unfold cm
      by_cases z2 : k = 2
      · rw [if_pos z2, if_pos z2]
      · rw [if_neg z2, if_neg z2]
        unfold cm
        by_cases z3 : k = 5
        · rw [if_pos z3, if_pos z3]
        · rw [if_neg z3, if_neg z3]
          unfold cm
          by_cases z4 : k = 3
          · rw [if_pos z4, if_pos z4]
          · exfalso
            rw [if_neg z1] at a2
            unfold cm at a2
            rw [if_neg z2] at a2
            unfold cm at a2
            rw [if_neg z3] at a2
            unfold cm at a2
            rw [if_neg z4] at a2
            unfold cm at a2
            omega)
  refine ⟨h2, ?_, e9⟩
  unfold ML_law_1816 ML_correct MX12_thrown
  simp only [ZL]
  rw [gg_t i1, gg_t i2, gg_t i3, gg_t C.2.1.1, e1, b2_some, gg_t i1, gg_t i2, gg_t i3, gg_t e2, e3, b2_some, gg_t e6, gg_t e6, ob_some, e4, if_pos rfl]
  by_cases z : c = 0
  · rw [if_pos (by rw [z]), gg_t e7, e8, gg_in (by omega) (by omega), nCl (by omega), e5 z, lgc_s, if_pos rfl]
  · rw [if_neg (by rw [nEq (by omega) (by omega)]; exact z)]
theorem lc_proof (Lh : LSt h N) (i1 : inB (v4 + nI 1) L = true) : ∃ h2, ML_law_2058 L xs h 1 73 109 v4 = some (.inl (v4 + nI 6, h2)) ∧ LSt h2 (N + 81) := by
  obtain ⟨tg, m, k, i, t, n, f, C, R, h9, hN⟩ := Lh
  obtain ⟨c, h3, e1, c4, e2, b, h2, e3, e4, e5, e6, e7, e8, e9⟩ := pr_b (K := fun k h1 => if k = 4 then some (nI 1, h1) else none) h9 hN R.1 (p_proof C R (xs (v4 + nI 1).toNatClampNeg)).gm (fun k h1 a1 a2 => by
    unfold cm at a1 a2 ⊢
    by_cases z1 : k = 4
    · rw [if_pos z1, if_pos z1]
    · exfalso
      rw [if_neg z1] at a2
      unfold cm at a2
      omega)
  refine ⟨h2, ?_, e9⟩
  unfold ML_law_2058 ML_proof MX12_thrown
  simp only [ZL]
  rw [gg_t i1, gg_t C.2.1.1, e1, b2_some, gg_t i1, gg_t e2, e3, b2_some, gg_t e6, gg_t e6, ob_some, e4, if_pos rfl]
  by_cases z : c = 0
  · rw [if_pos (by rw [z]), gg_t e7, e8, gg_in (by omega) (by omega), nCl (by omega), e5 z, lgc_s, if_pos rfl]
  · rw [if_neg (by rw [nEq (by omega) (by omega)]; exact z)]
theorem lc_carry (Lh : LSt h N) (i1 : inB (v4 + nI 1) L = true) (i2 : inB (v4 + nI 2) L = true) (i3 : inB (v4 + nI 3) L = true) : ∃ h2, ML_law_2114 L xs h 1 73 109 v4 = some (.inl (v4 + nI 6, h2)) ∧ LSt h2 (N + 81) := by
  obtain ⟨tg, m, k, i, t, n, f, C, R, h9, hN⟩ := Lh
  obtain ⟨c, h3, e1, c4, e2, b, h2, e3, e4, e5, e6, e7, e8, e9⟩ := pr_b (K := fun k h1 => if k = 1 then some (nI 1, h1) else if k = 2 then some (nI 2, h1) else none) h9 hN R.1 (p_carry C R (xs (v4 + nI 1).toNatClampNeg) (xs (v4 + nI 2).toNatClampNeg) (xs (v4 + nI 3).toNatClampNeg)).gm (fun k h1 a1 a2 => by
    unfold cm at a1 a2 ⊢
    by_cases z1 : k = 1
    · rw [if_pos z1, if_pos z1]
    · rw [if_neg z1, if_neg z1]
      unfold cm
      by_cases z2 : k = 2
      · rw [if_pos z2, if_pos z2]
      · exfalso
        rw [if_neg z1] at a2
        unfold cm at a2
        rw [if_neg z2] at a2
        unfold cm at a2
        omega)
  refine ⟨h2, ?_, e9⟩
  unfold ML_law_2114 ML_carry MX12_thrown
  simp only [ZL]
  rw [gg_t i1, gg_t i2, gg_t i3, gg_t C.2.1.1, e1, b2_some, gg_t i1, gg_t i2, gg_t i3, gg_t e2, e3, b2_some, gg_t e6, gg_t e6, ob_some, e4, if_pos rfl]
  by_cases z : c = 0
  · rw [if_pos (by rw [z]), gg_t e7, e8, gg_in (by omega) (by omega), nCl (by omega), e5 z, lgc_s, if_pos rfl]
  · rw [if_neg (by rw [nEq (by omega) (by omega)]; exact z)]
theorem lc_where (Lh : LSt h N) (i1 : inB (v4 + nI 1) L = true) (i2 : inB (v4 + nI 2) L = true) (i3 : inB (v4 + nI 3) L = true) : ∃ h2, ML_law_2194 L xs h 1 73 109 v4 = some (.inl (v4 + nI 6, h2)) ∧ LSt h2 (N + 81) := by
  obtain ⟨tg, m, k, i, t, n, f, C, R, h9, hN⟩ := Lh
  obtain ⟨c, h3, e1, c4, e2, b, h2, e3, e4, e5, e6, e7, e8, e9⟩ := pr_b (K := fun k h1 => if k = 1 then some (nI 1, h1) else none) h9 hN R.1 (p_where C R (xs (v4 + nI 1).toNatClampNeg) (xs (v4 + nI 2).toNatClampNeg) (xs (v4 + nI 3).toNatClampNeg)).gm (fun k h1 a1 a2 => by
    unfold cm at a1 a2 ⊢
    by_cases z1 : k = 1
    · rw [if_pos z1, if_pos z1]
    · exfalso
      rw [if_neg z1] at a2
      unfold cm at a2
      omega)
  refine ⟨h2, ?_, e9⟩
  unfold ML_law_2194 ML_where MX12_thrown
  simp only [ZL]
  rw [gg_t i1, gg_t i2, gg_t i3, gg_t C.2.1.1, e1, b2_some, gg_t i1, gg_t i2, gg_t i3, gg_t e2, e3, b2_some, gg_t e6, gg_t e6, ob_some, e4, if_pos rfl]
  by_cases z : c = 0
  · rw [if_pos (by rw [z]), gg_t e7, e8, gg_in (by omega) (by omega), nCl (by omega), e5 z, lgc_s, if_pos rfl]
  · rw [if_neg (by rw [nEq (by omega) (by omega)]; exact z)]
theorem lc_fit (Lh : LSt h N) (i1 : inB (v4 + nI 1) L = true) (i2 : inB (v4 + nI 2) L = true) : ∃ h2, ML_law_2334 L xs h 1 73 109 v4 = some (.inl (v4 + nI 6, h2)) ∧ LSt h2 (N + 81) := by
  obtain ⟨tg, m, k, i, t, n, f, C, R, h9, hN⟩ := Lh
  obtain ⟨c, h3, e1, c4, e2, b, h2, e3, e4, e5, e6, e7, e8, e9⟩ := pr_b (K := fun k h1 => if k = 1 then some (nI 1, h1) else if k = 2 then some (nI 2, h1) else if k = 5 then some (nI 3, h1) else none) h9 hN R.1 (p_fit C R (xs (v4 + nI 1).toNatClampNeg) (xs (v4 + nI 2).toNatClampNeg)).gm (fun k h1 a1 a2 => by
    unfold cm at a1 a2 ⊢
    by_cases z1 : k = 1
    · rw [if_pos z1, if_pos z1]
    · rw [if_neg z1, if_neg z1]
      unfold cm
      by_cases z2 : k = 2
      · rw [if_pos z2, if_pos z2]
      · rw [if_neg z2, if_neg z2]
        unfold cm
        by_cases z3 : k = 5
        · rw [if_pos z3, if_pos z3]
        · exfalso
          rw [if_neg z1] at a2
          unfold cm at a2
          rw [if_neg z2] at a2
          unfold cm at a2
          rw [if_neg z3] at a2
          unfold cm at a2
          omega)
  refine ⟨h2, ?_, e9⟩
  unfold ML_law_2334 ML_fit MX12_thrown
  simp only [ZL]
  rw [gg_t i1, gg_t i2, gg_t C.2.1.1, e1, b2_some, gg_t i1, gg_t i2, gg_t e2, e3, b2_some, gg_t e6, gg_t e6, ob_some, e4, if_pos rfl]
  by_cases z : c = 0
  · rw [if_pos (by rw [z]), gg_t e7, e8, gg_in (by omega) (by omega), nCl (by omega), e5 z, lgc_s, if_pos rfl]
  · rw [if_neg (by rw [nEq (by omega) (by omega)]; exact z)]
theorem lc_lock (Lh : LSt h N) (i1 : inB (v4 + nI 1) L = true) (i2 : inB (v4 + nI 2) L = true) : ∃ h2, ML_law_2510 L xs h 1 73 109 v4 = some (.inl (v4 + nI 6, h2)) ∧ LSt h2 (N + 81) := by
  obtain ⟨tg, m, k, i, t, n, f, C, R, h9, hN⟩ := Lh
  obtain ⟨c, h3, e1, c4, e2, b, h2, e3, e4, e5, e6, e7, e8, e9⟩ := pr_b (K := fun k h1 => if k = 1 then some (nI 1, h1) else if k = 2 then some (nI 2, h1) else if k = 5 then some (nI 3, h1) else none) h9 hN R.1 (p_lock C R h9 (xs (v4 + nI 1).toNatClampNeg) (xs (v4 + nI 2).toNatClampNeg)) (fun k h1 a1 a2 => by
    unfold cm at a1 a2 ⊢
    by_cases z1 : k = 1
    · rw [if_pos z1, if_pos z1]
    · rw [if_neg z1, if_neg z1]
      unfold cm
      by_cases z2 : k = 2
      · rw [if_pos z2, if_pos z2]
      · rw [if_neg z2, if_neg z2]
        unfold cm
        by_cases z3 : k = 5
        · rw [if_pos z3, if_pos z3]
        · exfalso
          rw [if_neg z1] at a2
          unfold cm at a2
          rw [if_neg z2] at a2
          unfold cm at a2
          rw [if_neg z3] at a2
          unfold cm at a2
          omega)
  refine ⟨h2, ?_, e9⟩
  unfold ML_law_2510 ML_lock MX12_thrown
  simp only [ZL]
  rw [gg_t i1, gg_t i2, gg_t C.2.1.1, e1, b2_some, gg_t i1, gg_t i2, gg_t e2, e3, b2_some, gg_t e6, gg_t e6, ob_some, e4, if_pos rfl]
  by_cases z : c = 0
  · rw [if_pos (by rw [z]), gg_t e7, e8, gg_in (by omega) (by omega), nCl (by omega), e5 z, lgc_s, if_pos rfl]
  · rw [if_neg (by rw [nEq (by omega) (by omega)]; exact z)]
theorem lc_locked (Lh : LSt h N) (i1 : inB (v4 + nI 1) L = true) (i2 : inB (v4 + nI 2) L = true) : ∃ h2, ML_law_2578 L xs h 1 73 109 v4 = some (.inl (v4 + nI 6, h2)) ∧ LSt h2 (N + 81) := by
  obtain ⟨tg, m, k, i, t, n, f, C, R, h9, hN⟩ := Lh
  obtain ⟨c, h3, e1, c4, e2, b, h2, e3, e4, e5, e6, e7, e8, e9⟩ := pr_b (K := fun k h1 => if k = 1 then some (nI 1, h1) else if k = 4 then some (nI 2, h1) else none) h9 hN R.1 (p_locked C R (xs (v4 + nI 1).toNatClampNeg) (xs (v4 + nI 2).toNatClampNeg)).gm (fun k h1 a1 a2 => by
    unfold cm at a1 a2 ⊢
    by_cases z1 : k = 1
    · rw [if_pos z1, if_pos z1]
    · rw [if_neg z1, if_neg z1]
      unfold cm
      by_cases z2 : k = 4
      · rw [if_pos z2, if_pos z2]
      · exfalso
        rw [if_neg z1] at a2
        unfold cm at a2
        rw [if_neg z2] at a2
        unfold cm at a2
        omega)
  refine ⟨h2, ?_, e9⟩
  unfold ML_law_2578 ML_locked MX12_thrown
  simp only [ZL]
  rw [gg_t i1, gg_t i2, gg_t C.2.1.1, e1, b2_some, gg_t i1, gg_t i2, gg_t e2, e3, b2_some, gg_t e6, gg_t e6, ob_some, e4, if_pos rfl]
  by_cases z : c = 0
  · rw [if_pos (by rw [z]), gg_t e7, e8, gg_in (by omega) (by omega), nCl (by omega), e5 z, lgc_s, if_pos rfl]
  · rw [if_neg (by rw [nEq (by omega) (by omega)]; exact z)]
theorem lc_stands (Lh : LSt h N) (i1 : inB (v4 + nI 1) L = true) (i2 : inB (v4 + nI 2) L = true) (i3 : inB (v4 + nI 3) L = true) : ∃ h2, ML_law_2646 L xs h 1 73 109 v4 = some (.inl (v4 + nI 6, h2)) ∧ LSt h2 (N + 81) := by
  obtain ⟨tg, m, k, i, t, n, f, C, R, h9, hN⟩ := Lh
  obtain ⟨c, h3, e1, c4, e2, b, h2, e3, e4, e5, e6, e7, e8, e9⟩ := pr_b (K := fun k h1 => if k = 1 then some (nI 1, h1) else none) h9 hN R.1 (p_stands C R (xs (v4 + nI 1).toNatClampNeg) (xs (v4 + nI 2).toNatClampNeg) (xs (v4 + nI 3).toNatClampNeg)).gm (fun k h1 a1 a2 => by
    unfold cm at a1 a2 ⊢
    by_cases z1 : k = 1
    · rw [if_pos z1, if_pos z1]
    · exfalso
      rw [if_neg z1] at a2
      unfold cm at a2
      omega)
  refine ⟨h2, ?_, e9⟩
  unfold ML_law_2646 ML_stands MX12_thrown
  simp only [ZL]
  rw [gg_t i1, gg_t i2, gg_t i3, gg_t C.2.1.1, e1, b2_some, gg_t i1, gg_t i2, gg_t i3, gg_t e2, e3, b2_some, gg_t e6, gg_t e6, ob_some, e4, if_pos rfl]
  by_cases z : c = 0
  · rw [if_pos (by rw [z]), gg_t e7, e8, gg_in (by omega) (by omega), nCl (by omega), e5 z, lgc_s, if_pos rfl]
  · rw [if_neg (by rw [nEq (by omega) (by omega)]; exact z)]
theorem lc_edition (Lh : LSt h N) : ∃ h2, ML_law_2726 L xs h 1 73 109 v4 = some (.inl (v4 + nI 6, h2)) ∧ LSt h2 (N + 81) := by
  obtain ⟨tg, m, k, i, t, n, f, C, R, h9, hN⟩ := Lh
  obtain ⟨c, h3, e1, c4, e2, b, h2, e3, e4, e5, e6, e7, e8, e9⟩ := pr_b (K := fun k h1 => if k = 3 then some (nI 1, h1) else none) h9 hN R.1 (p_edition C R h9) (fun k h1 a1 a2 => by
    unfold cm at a1 a2 ⊢
    by_cases z1 : k = 3
    · rw [if_pos z1, if_pos z1]
    · exfalso
      rw [if_neg z1] at a2
      unfold cm at a2
      omega)
  refine ⟨h2, ?_, e9⟩
  unfold ML_law_2726 ML_edition MX12_thrown
  simp only [ZL]
  rw [gg_t C.2.1.1, e1, b2_some, gg_t e2, e3, b2_some, gg_t e6, gg_t e6, ob_some, e4, if_pos rfl]
  by_cases z : c = 0
  · rw [if_pos (by rw [z]), gg_t e7, e8, gg_in (by omega) (by omega), nCl (by omega), e5 z, lgc_s, if_pos rfl]
  · rw [if_neg (by rw [nEq (by omega) (by omega)]; exact z)]
theorem lc_changed (Lh : LSt h N) (i1 : inB (v4 + nI 1) L = true) (i2 : inB (v4 + nI 2) L = true) (i3 : inB (v4 + nI 3) L = true) : ∃ h2, ML_law_2770 L xs h 1 73 109 v4 = some (.inl (v4 + nI 6, h2)) ∧ LSt h2 (N + 81) := by
  obtain ⟨tg, m, k, i, t, n, f, C, R, h9, hN⟩ := Lh
  obtain ⟨c, h3, e1, c4, e2, b, h2, e3, e4, e5, e6, e7, e8, e9⟩ := pr_b (K := fun k h1 => if k = 1 then some (nI 1, h1) else none) h9 hN R.1 (p_changed C R (xs (v4 + nI 1).toNatClampNeg) (xs (v4 + nI 2).toNatClampNeg) (xs (v4 + nI 3).toNatClampNeg)).gm (fun k h1 a1 a2 => by
    unfold cm at a1 a2 ⊢
    by_cases z1 : k = 1
    · rw [if_pos z1, if_pos z1]
    · exfalso
      rw [if_neg z1] at a2
      unfold cm at a2
      omega)
  refine ⟨h2, ?_, e9⟩
  unfold ML_law_2770 ML_changed MX12_thrown
  simp only [ZL]
  rw [gg_t i1, gg_t i2, gg_t i3, gg_t C.2.1.1, e1, b2_some, gg_t i1, gg_t i2, gg_t i3, gg_t e2, e3, b2_some, gg_t e6, gg_t e6, ob_some, e4, if_pos rfl]
  by_cases z : c = 0
  · rw [if_pos (by rw [z]), gg_t e7, e8, gg_in (by omega) (by omega), nCl (by omega), e5 z, lgc_s, if_pos rfl]
  · rw [if_neg (by rw [nEq (by omega) (by omega)]; exact z)]
theorem lc_ahead (Lh : LSt h N) (i1 : inB (v4 + nI 1) L = true) : ∃ h2, ML_law_2863 L xs h 1 73 109 v4 = some (.inl (v4 + nI 6, h2)) ∧ LSt h2 (N + 81) := by
  obtain ⟨tg, m, k, i, t, n, f, C, R, h9, hN⟩ := Lh
  obtain ⟨c, h3, e1, c4, e2, b, h2, e3, e4, e5, e6, e7, e8, e9⟩ := pr_b (K := fun k h1 => if k = 1 then some (nI 1, h1) else none) h9 hN R.1 (p_ahead C R h9 (xs (v4 + nI 1).toNatClampNeg)) (fun k h1 a1 a2 => by
    unfold cm at a1 a2 ⊢
    by_cases z1 : k = 1
    · rw [if_pos z1, if_pos z1]
    · exfalso
      rw [if_neg z1] at a2
      unfold cm at a2
      omega)
  refine ⟨h2, ?_, e9⟩
  unfold ML_law_2863 ML_ahead MX12_thrown
  simp only [ZL]
  rw [gg_t i1, gg_t C.2.1.1, e1, b2_some, gg_t i1, gg_t e2, e3, b2_some, gg_t e6, gg_t e6, ob_some, e4, if_pos rfl]
  by_cases z : c = 0
  · rw [if_pos (by rw [z]), gg_t e7, e8, gg_in (by omega) (by omega), nCl (by omega), e5 z, lgc_s, if_pos rfl]
  · rw [if_neg (by rw [nEq (by omega) (by omega)]; exact z)]
theorem lc_pay (Lh : LSt h N) (i1 : inB (v4 + nI 1) L = true) (i2 : inB (v4 + nI 2) L = true) (i3 : inB (v4 + nI 3) L = true) : ∃ h2, ML_law_2919 L xs h 1 73 109 v4 = some (.inl (v4 + nI 6, h2)) ∧ LSt h2 (N + 81) := by
  obtain ⟨tg, m, k, i, t, n, f, C, R, h9, hN⟩ := Lh
  obtain ⟨c, h3, e1, c4, e2, b, h2, e3, e4, e5, e6, e7, e8, e9⟩ := pr_b (K := fun k h1 => if k = 1 then some (nI 1, h1) else none) h9 hN R.1 (p_pay C R (xs (v4 + nI 1).toNatClampNeg) (xs (v4 + nI 2).toNatClampNeg) (xs (v4 + nI 3).toNatClampNeg)).gm (fun k h1 a1 a2 => by
    unfold cm at a1 a2 ⊢
    by_cases z1 : k = 1
    · rw [if_pos z1, if_pos z1]
    · exfalso
      rw [if_neg z1] at a2
      unfold cm at a2
      omega)
  refine ⟨h2, ?_, e9⟩
  unfold ML_law_2919 ML_pay MX12_thrown
  simp only [ZL]
  rw [gg_t i1, gg_t i2, gg_t i3, gg_t C.2.1.1, e1, b2_some, gg_t i1, gg_t i2, gg_t i3, gg_t e2, e3, b2_some, gg_t e6, gg_t e6, ob_some, e4, if_pos rfl]
  by_cases z : c = 0
  · rw [if_pos (by rw [z]), gg_t e7, e8, gg_in (by omega) (by omega), nCl (by omega), e5 z, lgc_s, if_pos rfl]
  · rw [if_neg (by rw [nEq (by omega) (by omega)]; exact z)]
theorem lc_row (Lh : LSt h N) (i1 : inB (v4 + nI 1) L = true) (i2 : inB (v4 + nI 2) L = true) : ∃ h2, ML_law_2999 L xs h 1 73 109 v4 = some (.inl (v4 + nI 6, h2)) ∧ LSt h2 (N + 81) := by
  obtain ⟨tg, m, k, i, t, n, f, C, R, h9, hN⟩ := Lh
  obtain ⟨c, h3, e1, c4, e2, b, h2, e3, e4, e5, e6, e7, e8, e9⟩ := pr_b (K := fun k h1 => if k = 4 then some (nI 1, h1) else none) h9 hN R.1 (p_row C R (xs (v4 + nI 1).toNatClampNeg) (xs (v4 + nI 2).toNatClampNeg)).gm (fun k h1 a1 a2 => by
    unfold cm at a1 a2 ⊢
    by_cases z1 : k = 4
    · rw [if_pos z1, if_pos z1]
    · exfalso
      rw [if_neg z1] at a2
      unfold cm at a2
      omega)
  refine ⟨h2, ?_, e9⟩
  unfold ML_law_2999 ML_row MX12_thrown
  simp only [ZL]
  rw [gg_t i1, gg_t i2, gg_t C.2.1.1, e1, b2_some, gg_t i1, gg_t i2, gg_t e2, e3, b2_some, gg_t e6, gg_t e6, ob_some, e4, if_pos rfl]
  by_cases z : c = 0
  · rw [if_pos (by rw [z]), gg_t e7, e8, gg_in (by omega) (by omega), nCl (by omega), e5 z, lgc_s, if_pos rfl]
  · rw [if_neg (by rw [nEq (by omega) (by omega)]; exact z)]
theorem lc_tear (Lh : LSt h N) (i1 : inB (v4 + nI 1) L = true) (i2 : inB (v4 + nI 2) L = true) (i3 : inB (v4 + nI 3) L = true) : ∃ h2, ML_law_3067 L xs h 1 73 109 v4 = some (.inl (v4 + nI 6, h2)) ∧ LSt h2 (N + 81) := by
  obtain ⟨tg, m, k, i, t, n, f, C, R, h9, hN⟩ := Lh
  obtain ⟨c, h3, e1, c4, e2, b, h2, e3, e4, e5, e6, e7, e8, e9⟩ := pr_b (K := fun k h1 => if k = 4 then some (nI 1, h1) else none) h9 hN R.1 (p_tear C R (xs (v4 + nI 1).toNatClampNeg) (xs (v4 + nI 2).toNatClampNeg) (xs (v4 + nI 3).toNatClampNeg)).gm (fun k h1 a1 a2 => by
    unfold cm at a1 a2 ⊢
    by_cases z1 : k = 4
    · rw [if_pos z1, if_pos z1]
    · exfalso
      rw [if_neg z1] at a2
      unfold cm at a2
      omega)
  refine ⟨h2, ?_, e9⟩
  unfold ML_law_3067 ML_tear MX12_thrown
  simp only [ZL]
  rw [gg_t i1, gg_t i2, gg_t i3, gg_t C.2.1.1, e1, b2_some, gg_t i1, gg_t i2, gg_t i3, gg_t e2, e3, b2_some, gg_t e6, gg_t e6, ob_some, e4, if_pos rfl]
  by_cases z : c = 0
  · rw [if_pos (by rw [z]), gg_t e7, e8, gg_in (by omega) (by omega), nCl (by omega), e5 z, lgc_s, if_pos rfl]
  · rw [if_neg (by rw [nEq (by omega) (by omega)]; exact z)]
theorem lc_style (Lh : LSt h N) (i1 : inB (v4 + nI 1) L = true) : ∃ h2, ML_law_470 L xs h 1 73 109 v4 = some (.inl (v4 + nI 6, h2)) ∧ LSt h2 (N + 81) := by
  obtain ⟨tg, m, k, i, t, n, f, C, R, h9, hN⟩ := Lh
  obtain ⟨c, h3, e1, c4, e2, b, h2, e3, e4, e5, e6, e7, e8, e9⟩ := pr_b (K := fun k h1 => if k = 2 then some (nI 1, h1) else if k = 3 then some (nI 2, h1) else none) h9 hN R.1 (p_style C R h9 (xs (v4 + nI 1).toNatClampNeg)) (fun k h1 a1 a2 => by
    unfold cm at a1 a2 ⊢
    by_cases z1 : k = 2
    · rw [if_pos z1, if_pos z1]
    · rw [if_neg z1, if_neg z1]
      unfold cm
      by_cases z2 : k = 3
      · rw [if_pos z2, if_pos z2]
      · exfalso
        rw [if_neg z1] at a2
        unfold cm at a2
        rw [if_neg z2] at a2
        unfold cm at a2
        omega)
  refine ⟨h2, ?_, e9⟩
  unfold ML_law_470 ML_style MX12_thrown
  simp only [ZL]
  rw [gg_t i1, gg_t C.2.1.1, e1, b2_some, gg_t i1, gg_t e2, e3, b2_some, gg_t e6, gg_t e6, ob_some, e4, if_pos rfl]
  by_cases z : c = 0
  · rw [if_pos (by rw [z]), gg_t e7, e8, gg_in (by omega) (by omega), nCl (by omega), e5 z, lgc_s, if_pos rfl]
  · rw [if_neg (by rw [nEq (by omega) (by omega)]; exact z)]
theorem lc_part (Lh : LSt h N) (i1 : inB (v4 + nI 1) L = true) (i2 : inB (v4 + nI 2) L = true) : ∃ h2, ML_law_539 L xs h 1 73 109 v4 = some (.inl (v4 + nI 6, h2)) ∧ LSt h2 (N + 81) := by
  obtain ⟨tg, m, k, i, t, n, f, C, R, h9, hN⟩ := Lh
  obtain ⟨c, h3, e1, c4, e2, b, h2, e3, e4, e5, e6, e7, e8, e9⟩ := pr_b (K := fun k h1 => if k = 1 then some (nI 1, h1) else if k = 4 then some (nI 2, h1) else none) h9 hN R.1 (p_part C R (xs (v4 + nI 1).toNatClampNeg) (xs (v4 + nI 2).toNatClampNeg)).gm (fun k h1 a1 a2 => by
    unfold cm at a1 a2 ⊢
    by_cases z1 : k = 1
    · rw [if_pos z1, if_pos z1]
    · rw [if_neg z1, if_neg z1]
      unfold cm
      by_cases z2 : k = 4
      · rw [if_pos z2, if_pos z2]
      · exfalso
        rw [if_neg z1] at a2
        unfold cm at a2
        rw [if_neg z2] at a2
        unfold cm at a2
        omega)
  refine ⟨h2, ?_, e9⟩
  unfold ML_law_539 ML_part MX12_thrown
  simp only [ZL]
  rw [gg_t i1, gg_t i2, gg_t C.2.1.1, e1, b2_some, gg_t i1, gg_t i2, gg_t e2, e3, b2_some, gg_t e6, gg_t e6, ob_some, e4, if_pos rfl]
  by_cases z : c = 0
  · rw [if_pos (by rw [z]), gg_t e7, e8, gg_in (by omega) (by omega), nCl (by omega), e5 z, lgc_s, if_pos rfl]
  · rw [if_neg (by rw [nEq (by omega) (by omega)]; exact z)]
theorem lc_rule (Lh : LSt h N) (i1 : inB (v4 + nI 1) L = true) (i2 : inB (v4 + nI 2) L = true) (i3 : inB (v4 + nI 3) L = true) : ∃ h2, ML_law_607 L xs h 1 73 109 v4 = some (.inl (v4 + nI 6, h2)) ∧ LSt h2 (N + 81) := by
  obtain ⟨tg, m, k, i, t, n, f, C, R, h9, hN⟩ := Lh
  obtain ⟨c, h3, e1, c4, e2, b, h2, e3, e4, e5, e6, e7, e8, e9⟩ := pr_b (K := fun k h1 => if k = 1 then some (nI 1, h1) else if k = 2 then some (nI 2, h1) else if k = 4 then some (nI 3, h1) else none) h9 hN R.1 (p_rule C R (xs (v4 + nI 1).toNatClampNeg) (xs (v4 + nI 2).toNatClampNeg) (xs (v4 + nI 3).toNatClampNeg)).gm (fun k h1 a1 a2 => by
    unfold cm at a1 a2 ⊢
    by_cases z1 : k = 1
    · rw [if_pos z1, if_pos z1]
    · rw [if_neg z1, if_neg z1]
      unfold cm
      by_cases z2 : k = 2
      · rw [if_pos z2, if_pos z2]
      · rw [if_neg z2, if_neg z2]
        unfold cm
        by_cases z3 : k = 4
        · rw [if_pos z3, if_pos z3]
        · exfalso
          rw [if_neg z1] at a2
          unfold cm at a2
          rw [if_neg z2] at a2
          unfold cm at a2
          rw [if_neg z3] at a2
          unfold cm at a2
          omega)
  refine ⟨h2, ?_, e9⟩
  unfold ML_law_607 ML_rule MX12_thrown
  simp only [ZL]
  rw [gg_t i1, gg_t i2, gg_t i3, gg_t C.2.1.1, e1, b2_some, gg_t i1, gg_t i2, gg_t i3, gg_t e2, e3, b2_some, gg_t e6, gg_t e6, ob_some, e4, if_pos rfl]
  by_cases z : c = 0
  · rw [if_pos (by rw [z]), gg_t e7, e8, gg_in (by omega) (by omega), nCl (by omega), e5 z, lgc_s, if_pos rfl]
  · rw [if_neg (by rw [nEq (by omega) (by omega)]; exact z)]
theorem lc_best (Lh : LSt h N) (i1 : inB (v4 + nI 1) L = true) (i2 : inB (v4 + nI 2) L = true) : ∃ h2, ML_law_687 L xs h 1 73 109 v4 = some (.inl (v4 + nI 6, h2)) ∧ LSt h2 (N + 81) := by
  obtain ⟨tg, m, k, i, t, n, f, C, R, h9, hN⟩ := Lh
  obtain ⟨c, h3, e1, c4, e2, b, h2, e3, e4, e5, e6, e7, e8, e9⟩ := pr_b (K := fun k h1 => if k = 1 then some (nI 1, h1) else if k = 4 then some (nI 2, h1) else none) h9 hN R.1 (p_best C R (xs (v4 + nI 1).toNatClampNeg) (xs (v4 + nI 2).toNatClampNeg)).gm (fun k h1 a1 a2 => by
    unfold cm at a1 a2 ⊢
    by_cases z1 : k = 1
    · rw [if_pos z1, if_pos z1]
    · rw [if_neg z1, if_neg z1]
      unfold cm
      by_cases z2 : k = 4
      · rw [if_pos z2, if_pos z2]
      · exfalso
        rw [if_neg z1] at a2
        unfold cm at a2
        rw [if_neg z2] at a2
        unfold cm at a2
        omega)
  refine ⟨h2, ?_, e9⟩
  unfold ML_law_687 ML_best MX12_thrown
  simp only [ZL]
  rw [gg_t i1, gg_t i2, gg_t C.2.1.1, e1, b2_some, gg_t i1, gg_t i2, gg_t e2, e3, b2_some, gg_t e6, gg_t e6, ob_some, e4, if_pos rfl]
  by_cases z : c = 0
  · rw [if_pos (by rw [z]), gg_t e7, e8, gg_in (by omega) (by omega), nCl (by omega), e5 z, lgc_s, if_pos rfl]
  · rw [if_neg (by rw [nEq (by omega) (by omega)]; exact z)]
theorem lc_ends (Lh : LSt h N) (i1 : inB (v4 + nI 1) L = true) (i2 : inB (v4 + nI 2) L = true) : ∃ h2, ML_law_755 L xs h 1 73 109 v4 = some (.inl (v4 + nI 6, h2)) ∧ LSt h2 (N + 81) := by
  obtain ⟨tg, m, k, i, t, n, f, C, R, h9, hN⟩ := Lh
  obtain ⟨c, h3, e1, c4, e2, b, h2, e3, e4, e5, e6, e7, e8, e9⟩ := pr_b (K := fun k h1 => if k = 1 then some (nI 1, h1) else none) h9 hN R.1 (p_ends C R (xs (v4 + nI 1).toNatClampNeg) (xs (v4 + nI 2).toNatClampNeg)).gm (fun k h1 a1 a2 => by
    unfold cm at a1 a2 ⊢
    by_cases z1 : k = 1
    · rw [if_pos z1, if_pos z1]
    · exfalso
      rw [if_neg z1] at a2
      unfold cm at a2
      omega)
  refine ⟨h2, ?_, e9⟩
  unfold ML_law_755 ML_ends MX12_thrown
  simp only [ZL]
  rw [gg_t i1, gg_t i2, gg_t C.2.1.1, e1, b2_some, gg_t i1, gg_t i2, gg_t e2, e3, b2_some, gg_t e6, gg_t e6, ob_some, e4, if_pos rfl]
  by_cases z : c = 0
  · rw [if_pos (by rw [z]), gg_t e7, e8, gg_in (by omega) (by omega), nCl (by omega), e5 z, lgc_s, if_pos rfl]
  · rw [if_neg (by rw [nEq (by omega) (by omega)]; exact z)]
theorem lc_machine (Lh : LSt h N) (i1 : inB (v4 + nI 1) L = true) (i2 : inB (v4 + nI 2) L = true) : ∃ h2, ML_law_907 L xs h 1 73 109 v4 = some (.inl (v4 + nI 6, h2)) ∧ LSt h2 (N + 81) := by
  obtain ⟨tg, m, k, i, t, n, f, C, R, h9, hN⟩ := Lh
  obtain ⟨c, h3, e1, c4, e2, b, h2, e3, e4, e5, e6, e7, e8, e9⟩ := pr_b (K := fun k h1 => if k = 2 then some (nI 1, h1) else if k = 3 then some (nI 2, h1) else none) h9 hN R.1 (p_machine C R h9 (xs (v4 + nI 1).toNatClampNeg) (xs (v4 + nI 2).toNatClampNeg)) (fun k h1 a1 a2 => by
    unfold cm at a1 a2 ⊢
    by_cases z1 : k = 2
    · rw [if_pos z1, if_pos z1]
    · rw [if_neg z1, if_neg z1]
      unfold cm
      by_cases z2 : k = 3
      · rw [if_pos z2, if_pos z2]
      · exfalso
        rw [if_neg z1] at a2
        unfold cm at a2
        rw [if_neg z2] at a2
        unfold cm at a2
        omega)
  refine ⟨h2, ?_, e9⟩
  unfold ML_law_907 ML_machine MX12_thrown
  simp only [ZL]
  rw [gg_t i1, gg_t i2, gg_t C.2.1.1, e1, b2_some, gg_t i1, gg_t i2, gg_t e2, e3, b2_some, gg_t e6, gg_t e6, ob_some, e4, if_pos rfl]
  by_cases z : c = 0
  · rw [if_pos (by rw [z]), gg_t e7, e8, gg_in (by omega) (by omega), nCl (by omega), e5 z, lgc_s, if_pos rfl]
  · rw [if_neg (by rw [nEq (by omega) (by omega)]; exact z)]
theorem lc_brass (Lh : LSt h N) (i1 : inB (v4 + nI 1) L = true) (i2 : inB (v4 + nI 2) L = true) (i3 : inB (v4 + nI 3) L = true) : ∃ h2, ML_law_975 L xs h 1 73 109 v4 = some (.inl (v4 + nI 6, h2)) ∧ LSt h2 (N + 81) := by
  obtain ⟨tg, m, k, i, t, n, f, C, R, h9, hN⟩ := Lh
  obtain ⟨c, h3, e1, c4, e2, b, h2, e3, e4, e5, e6, e7, e8, e9⟩ := pr_b (K := fun k h1 => if k = 1 then some (nI 1, h1) else if k = 2 then some (nI 2, h1) else none) h9 hN R.1 (p_brass C R (xs (v4 + nI 1).toNatClampNeg) (xs (v4 + nI 2).toNatClampNeg) (xs (v4 + nI 3).toNatClampNeg)).gm (fun k h1 a1 a2 => by
    unfold cm at a1 a2 ⊢
    by_cases z1 : k = 1
    · rw [if_pos z1, if_pos z1]
    · rw [if_neg z1, if_neg z1]
      unfold cm
      by_cases z2 : k = 2
      · rw [if_pos z2, if_pos z2]
      · exfalso
        rw [if_neg z1] at a2
        unfold cm at a2
        rw [if_neg z2] at a2
        unfold cm at a2
        omega)
  refine ⟨h2, ?_, e9⟩
  unfold ML_law_975 ML_brass MX12_thrown
  simp only [ZL]
  rw [gg_t i1, gg_t i2, gg_t i3, gg_t C.2.1.1, e1, b2_some, gg_t i1, gg_t i2, gg_t i3, gg_t e2, e3, b2_some, gg_t e6, gg_t e6, ob_some, e4, if_pos rfl]
  by_cases z : c = 0
  · rw [if_pos (by rw [z]), gg_t e7, e8, gg_in (by omega) (by omega), nCl (by omega), e5 z, lgc_s, if_pos rfl]
  · rw [if_neg (by rw [nEq (by omega) (by omega)]; exact z)]
end
