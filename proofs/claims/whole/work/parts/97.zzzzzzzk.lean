/-! the law's loop: calls with a flag -/
section
variable {h : Hp} {N L : Nat} {xs : Nat → Int32} {v4 : Int32}
theorem hk_hand : ∀ k h1, 1 ≤ cm [1] k → cm [1] k ≤ 4 → (fun k h1 => if k = 1 then some (nI 1, h1) else none : Nat → Hp → Option (Int32 × Hp)) k h1 = some (nI (cm [1] k), h1) := fun k h1 a1 a2 => by
  show (if k = 1 then some (nI 1, h1) else none : Option (Int32 × Hp)) = _
  unfold cm at a1 a2 ⊢
  by_cases z1 : k = 1
  · rw [if_pos z1, if_pos z1]
  · exfalso
    rw [if_neg z1] at a2
    unfold cm at a2
    omega
theorem lc_hand (Lh : LSt h N) (i1 : inB (v4 + nI 1) L = true) (i2 : inB (v4 + nI 2) L = true) : ∃ h2, ML_law_823 L xs h 1 73 109 v4 = some (.inl (v4 + nI 6, h2)) ∧ LSt h2 (N + 81) := by
  obtain ⟨tg, m, k, i, t, n, f, C, R, h9, hN⟩ := Lh
  by_cases y : xs (v4 + nI 2).toNatClampNeg = nI 0
  · obtain ⟨c, h3, e1, c4, e2, b, h2, e3, e4, e5, e6, e7, e8, e9⟩ := pr_b (K := fun k h1 => if k = 1 then some (nI 1, h1) else none) h9 hN R.1 (p_hand C R (xs (v4 + nI 1).toNatClampNeg) (nI 0)).gm hk_hand
    refine ⟨h2, ?_, e9⟩
    unfold ML_law_823
    simp only [ZL]
    rw [gg_t i1, gg_t i2, if_pos y]
    unfold ML_law_844 ML_hand
    simp only [ZL]
    rw [gg_t C.2.1.1, e1, b2_some, gg_t i1, gg_t i2, if_pos y]
    unfold ML_law_871 MX12_thrown
    simp only [ZL]
    rw [gg_t e2, e3, b2_some, gg_t e6, gg_t e6, ob_some, e4, if_pos rfl]
    by_cases z : c = 0
    · rw [if_pos (by rw [z]), gg_t e7, e8, gg_in (by omega) (by omega), nCl (by omega), e5 z, lgc_s, if_pos rfl]
    · rw [if_neg (by rw [nEq (by omega) (by omega)]; exact z)]
  · obtain ⟨c, h3, e1, c4, e2, b, h2, e3, e4, e5, e6, e7, e8, e9⟩ := pr_b (K := fun k h1 => if k = 1 then some (nI 1, h1) else none) h9 hN R.1 (p_hand C R (xs (v4 + nI 1).toNatClampNeg) (nI 1)).gm hk_hand
    refine ⟨h2, ?_, e9⟩
    unfold ML_law_823
    simp only [ZL]
    rw [gg_t i1, gg_t i2, if_neg y]
    unfold ML_law_844 ML_hand
    simp only [ZL]
    rw [gg_t C.2.1.1, e1, b2_some, gg_t i1, gg_t i2, if_neg y]
    unfold ML_law_871 MX12_thrown
    simp only [ZL]
    rw [gg_t e2, e3, b2_some, gg_t e6, gg_t e6, ob_some, e4, if_pos rfl]
    by_cases z : c = 0
    · rw [if_pos (by rw [z]), gg_t e7, e8, gg_in (by omega) (by omega), nCl (by omega), e5 z, lgc_s, if_pos rfl]
    · rw [if_neg (by rw [nEq (by omega) (by omega)]; exact z)]
theorem hk_broken : ∀ k h1, 1 ≤ cm [1] k → cm [1] k ≤ 4 → (fun k h1 => if k = 1 then some (nI 1, h1) else none : Nat → Hp → Option (Int32 × Hp)) k h1 = some (nI (cm [1] k), h1) := fun k h1 a1 a2 => by
  show (if k = 1 then some (nI 1, h1) else none : Option (Int32 × Hp)) = _
  unfold cm at a1 a2 ⊢
  by_cases z1 : k = 1
  · rw [if_pos z1, if_pos z1]
  · exfalso
    rw [if_neg z1] at a2
    unfold cm at a2
    omega
theorem lc_broken (Lh : LSt h N) (i1 : inB (v4 + nI 1) L = true) (i2 : inB (v4 + nI 2) L = true) : ∃ h2, ML_law_1055 L xs h 1 73 109 v4 = some (.inl (v4 + nI 6, h2)) ∧ LSt h2 (N + 81) := by
  obtain ⟨tg, m, k, i, t, n, f, C, R, h9, hN⟩ := Lh
  by_cases y : xs (v4 + nI 2).toNatClampNeg = nI 0
  · obtain ⟨c, h3, e1, c4, e2, b, h2, e3, e4, e5, e6, e7, e8, e9⟩ := pr_b2 (K := fun k h1 => if k = 1 then some (nI 1, h1) else none) h9 hN R.1 (p_broken C R (xs (v4 + nI 1).toNatClampNeg) (b := 0) (by omega)).gm hk_broken
    refine ⟨h2, ?_, e9⟩
    unfold ML_law_1055
    simp only [ZL]
    rw [gg_t i1, gg_t i2, if_pos y]
    unfold ML_law_1076 ML_broken
    simp only [ZL]
    rw [gg_t C.2.1.1, e1, b2_some, gg_t i1, gg_t i2, if_pos y]
    unfold ML_law_1103 MX12_thrown
    simp only [ZL]
    rw [gg_t e2, e3, b2_some, gg_t e6, gg_t e6, ob_some, e4, if_pos rfl]
    by_cases z : c = 0
    · rw [if_pos (by rw [z]), gg_t e7, e8, gg_in (by omega) (by omega), nCl (by omega), e5 z]
      unfold ML_law_1137
      simp only [ZL]
      by_cases w : b = nI 0
      · rw [if_pos w, if_pos w, lgc_s, if_pos rfl]
      · rw [if_neg w, if_neg w, lgc_s, if_pos rfl]
    · rw [if_neg (by rw [nEq (by omega) (by omega)]; exact z)]
  · obtain ⟨c, h3, e1, c4, e2, b, h2, e3, e4, e5, e6, e7, e8, e9⟩ := pr_b2 (K := fun k h1 => if k = 1 then some (nI 1, h1) else none) h9 hN R.1 (p_broken C R (xs (v4 + nI 1).toNatClampNeg) (b := 1) (by omega)).gm hk_broken
    refine ⟨h2, ?_, e9⟩
    unfold ML_law_1055
    simp only [ZL]
    rw [gg_t i1, gg_t i2, if_neg y]
    unfold ML_law_1076 ML_broken
    simp only [ZL]
    rw [gg_t C.2.1.1, e1, b2_some, gg_t i1, gg_t i2, if_neg y]
    unfold ML_law_1103 MX12_thrown
    simp only [ZL]
    rw [gg_t e2, e3, b2_some, gg_t e6, gg_t e6, ob_some, e4, if_pos rfl]
    by_cases z : c = 0
    · rw [if_pos (by rw [z]), gg_t e7, e8, gg_in (by omega) (by omega), nCl (by omega), e5 z]
      unfold ML_law_1137
      simp only [ZL]
      by_cases w : b = nI 0
      · rw [if_pos w, if_pos w, lgc_s, if_pos rfl]
      · rw [if_neg w, if_neg w, lgc_s, if_pos rfl]
    · rw [if_neg (by rw [nEq (by omega) (by omega)]; exact z)]
theorem hk_fits : ∀ k h1, 1 ≤ cm [1, 2, 5] k → cm [1, 2, 5] k ≤ 4 → (fun k h1 => if k = 1 then some (nI 1, h1) else if k = 2 then some (nI 2, h1) else if k = 5 then some (nI 3, h1) else none : Nat → Hp → Option (Int32 × Hp)) k h1 = some (nI (cm [1, 2, 5] k), h1) := fun k h1 a1 a2 => by
  show (if k = 1 then some (nI 1, h1) else if k = 2 then some (nI 2, h1) else if k = 5 then some (nI 3, h1) else none : Option (Int32 × Hp)) = _
  unfold cm at a1 a2 ⊢
  by_cases z1 : k = 1
  · rw [if_pos z1, if_pos z1]
  · rw [if_neg z1, if_neg z1]
    unfold cm
    by_cases z2 : k = 2
    · rw [if_pos z2, if_pos z2]
    · rw [if_neg z2, if_neg z2]
      unfold cm
      by_cases z3 : k = 5
      · rw [if_pos z3, if_pos z3]
      · exfalso
        rw [if_neg z1] at a2
        unfold cm at a2
        rw [if_neg z2] at a2
        unfold cm at a2
        rw [if_neg z3] at a2
        unfold cm at a2
        omega
theorem lc_fits (Lh : LSt h N) (i1 : inB (v4 + nI 1) L = true) (i2 : inB (v4 + nI 2) L = true) (i3 : inB (v4 + nI 3) L = true) (i4 : inB (v4 + nI 4) L = true) : ∃ h2, ML_law_2402 L xs h 1 73 109 v4 = some (.inl (v4 + nI 6, h2)) ∧ LSt h2 (N + 81) := by
  obtain ⟨tg, m, k, i, t, n, f, C, R, h9, hN⟩ := Lh
  by_cases y : xs (v4 + nI 4).toNatClampNeg = nI 0
  · obtain ⟨c, h3, e1, c4, e2, b, h2, e3, e4, e5, e6, e7, e8, e9⟩ := pr_b (K := fun k h1 => if k = 1 then some (nI 1, h1) else if k = 2 then some (nI 2, h1) else if k = 5 then some (nI 3, h1) else none) h9 hN R.1 (p_fits C R (xs (v4 + nI 1).toNatClampNeg) (xs (v4 + nI 2).toNatClampNeg) (xs (v4 + nI 3).toNatClampNeg) (y := 0) (by omega)).gm hk_fits
    refine ⟨h2, ?_, e9⟩
    unfold ML_law_2402
    simp only [ZL]
    rw [gg_t i1, gg_t i2, gg_t i3, gg_t i4, if_pos y]
    unfold ML_law_2435 ML_fits
    simp only [ZL]
    rw [gg_t C.2.1.1, e1, b2_some, gg_t i1, gg_t i2, gg_t i3, gg_t i4, if_pos y]
    unfold ML_law_2474 MX12_thrown
    simp only [ZL]
    rw [gg_t e2, e3, b2_some, gg_t e6, gg_t e6, ob_some, e4, if_pos rfl]
    by_cases z : c = 0
    · rw [if_pos (by rw [z]), gg_t e7, e8, gg_in (by omega) (by omega), nCl (by omega), e5 z, lgc_s, if_pos rfl]
    · rw [if_neg (by rw [nEq (by omega) (by omega)]; exact z)]
  · obtain ⟨c, h3, e1, c4, e2, b, h2, e3, e4, e5, e6, e7, e8, e9⟩ := pr_b (K := fun k h1 => if k = 1 then some (nI 1, h1) else if k = 2 then some (nI 2, h1) else if k = 5 then some (nI 3, h1) else none) h9 hN R.1 (p_fits C R (xs (v4 + nI 1).toNatClampNeg) (xs (v4 + nI 2).toNatClampNeg) (xs (v4 + nI 3).toNatClampNeg) (y := 1) (by omega)).gm hk_fits
    refine ⟨h2, ?_, e9⟩
    unfold ML_law_2402
    simp only [ZL]
    rw [gg_t i1, gg_t i2, gg_t i3, gg_t i4, if_neg y]
    unfold ML_law_2435 ML_fits
    simp only [ZL]
    rw [gg_t C.2.1.1, e1, b2_some, gg_t i1, gg_t i2, gg_t i3, gg_t i4, if_neg y]
    unfold ML_law_2474 MX12_thrown
    simp only [ZL]
    rw [gg_t e2, e3, b2_some, gg_t e6, gg_t e6, ob_some, e4, if_pos rfl]
    by_cases z : c = 0
    · rw [if_pos (by rw [z]), gg_t e7, e8, gg_in (by omega) (by omega), nCl (by omega), e5 z, lgc_s, if_pos rfl]
    · rw [if_neg (by rw [nEq (by omega) (by omega)]; exact z)]
end
