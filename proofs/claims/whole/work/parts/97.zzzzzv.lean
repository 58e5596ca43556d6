/-! correct: the reference changes the copy and breaks it anew -/
def cl0 (M : Nat → Int32) (q op n : Nat) (c : Nat → Nat) : Nat → Int32 := fun y => if 130 + 645 * q + 5 + op ≤ y ∧ y < 130 + 645 * q + 5 + op + n then nI (c (y - (130 + 645 * q + 5 + op) + 1) - 1) else if 130 + 645 * q + 45 + op ≤ y ∧ y < 130 + 645 * q + 45 + op + n then nI 0 else M y
/-- the first x cells of the part are as they were -/
def rsM (m M : Nat → Int32) (q x : Nat) : Nat → Int32 := fun y => if 130 + 645 * q ≤ y ∧ y < 130 + 645 * q + x then m y else M y
section
variable {h h1 g z z' : Hp} {m M M1 kk t : Nat → Int32} {ii u fl : Int32} {r k q f f2 op ol l n pc fr : Nat} {c : Nat → Nat} {v1 v2 v3 v6 w : Int32} {Ln' Lt : Nat → Int32}
theorem cl0_0 : cl0 M q op 0 c = M := by
  funext y
  unfold cl0
  rw [if_neg (by omega), if_neg (by omega)]
theorem cl0_s (h : op + n < 40) : va_up (va_up (cl0 M q op n c) (130 + 645 * q + 5 + (op + n)) (nI (c (n + 1) - 1))) (130 + 645 * q + 45 + (op + n)) (nI 0) = cl0 M q op (n + 1) c := by
  funext y
  rw [up_at, up_at]
  unfold cl0
  by_cases z1 : y = 130 + 645 * q + 45 + (op + n)
  · rw [if_pos z1, if_neg (by omega), if_pos (by omega)]
  · rw [if_neg z1]
    by_cases z2 : y = 130 + 645 * q + 5 + (op + n)
    · rw [if_pos z2, if_pos (by omega)]
      exact congrArg (fun x => nI (c (x + 1) - 1)) (by omega)
    · rw [if_neg z2]
      by_cases z3 : 130 + 645 * q + 5 + op ≤ y ∧ y < 130 + 645 * q + 5 + op + n
      · rw [if_pos z3, if_pos (by omega)]
      · rw [if_neg z3, if_neg (show ¬ (130 + 645 * q + 5 + op ≤ y ∧ y < 130 + 645 * q + 5 + op + (n + 1)) by omega)]
        by_cases z4 : 130 + 645 * q + 45 + op ≤ y ∧ y < 130 + 645 * q + 45 + op + n
        · rw [if_pos z4, if_pos (by omega)]
        · rw [if_neg z4, if_neg (by omega)]
theorem cl0_4 (h : op + n ≤ 40) : va_up (cl0 M q op n c) (130 + 645 * q + 4) (nI (op + n)) = clM M q op n c := by
  funext y
  rw [up_at]
  unfold cl0 clM
  by_cases z1 : y = 130 + 645 * q + 4
  · rw [if_pos z1, if_neg (by omega), if_neg (by omega), if_pos z1]
  · rw [if_neg z1, if_neg z1]
theorem cl0_o {y : Nat} (h : op + n ≤ 40) (hy : y < 130 + 645 * q + 5 ∨ 130 + 645 * q + 85 ≤ y) : cl0 M q op n c y = M y := by
  unfold cl0
  rw [if_neg (by omega), if_neg (by omega)]
/-- the part is as it was -/
theorem r_466 (R : RSt g M kk ii t u fl) (hq : q < 100) (A : ∀ x, x < 645 → gI g 96 x = m (130 + 645 * q + x)) (H : ∀ y, (y < 130 + 645 * q ∨ 130 + 645 * q + 645 ≤ y) → M y = m y) : ∃ z, MX12_correct_466 g 73 (nI (130 + 645 * q)) (nI 0) = some (-nI 1, z) ∧ Fr (fun b => b = 74) g z ∧ RSt z m kk ii t u fl := by
  have K : ∀ d x z, x + d = 645 → Fr (fun b => b = 74) g z → RSt z (rsM m M q x) kk ii t u fl → ∃ z', it (fun y : Int32 × Hp => BX12_correct_466 y.2 73 (nI (130 + 645 * q)) y.1) (nI x, z) = some (-nI 1, z') ∧ Fr (fun b => b = 74) g z' ∧ RSt z' m kk ii t u fl := fun d => by
    induction d with
    | zero =>
      intro x z hx F Rz
      have hx : x = 645 := hx
      subst hx
      refine ⟨z, it_done ?_, F, ?_⟩
      · show BX12_correct_466 z 73 (nI (130 + 645 * q)) (nI 645) = _
        unfold BX12_correct_466
        simp only [ZL]
        rw [if_pos (nI_le (Nat.le_refl _) (by omega))]
      · have e : rsM m M q 645 = m := by
          funext y
          unfold rsM
          by_cases w : 130 + 645 * q ≤ y ∧ y < 130 + 645 * q + 645
          · rw [if_pos w]
          · rw [if_neg w]; exact H y (by omega)
        rw [e] at Rz
        exact Rz
    | succ d ih =>
      intro x z hx F Rz
      have a96 : gI z 96 x = m (130 + 645 * q + x) := by rw [F.2.2.2.2.2.2 96 (by decide)]; exact A x (by omega)
      have st : BX12_correct_466 z 73 (nI (130 + 645 * q)) (nI x) = some (.inl (nI (x + 1), sI z 74 (130 + 645 * q + x) (m (130 + 645 * q + x)))) := by
        unfold BX12_correct_466
        simp only [ZL, RS.f Rz.1]
        rw [if_neg (nI_ge (by omega) (by omega)), gg_T, gg_T, gg_in (by omega) (by omega), gg_T, nAdd, gg_in (by omega) (by omega), nCl (by omega), nCl (by omega), a96, lt_eq, nAdd]
      have e : va_up (rsM m M q x) (130 + 645 * q + x) (m (130 + 645 * q + x)) = rsM m M q (x + 1) := by
        funext y
        rw [up_at]
        unfold rsM
        by_cases w : y = 130 + 645 * q + x
        · rw [if_pos w, if_pos (by omega), w]
        · rw [if_neg w]
          by_cases w2 : 130 + 645 * q ≤ y ∧ y < 130 + 645 * q + x
          · rw [if_pos w2, if_pos (by omega)]
          · rw [if_neg w2, if_neg (by omega)]
      have Rz' := Rz.m1 (x := 130 + 645 * q + x) (v := m (130 + 645 * q + x))
      rw [e] at Rz'
      obtain ⟨z', b1, b2⟩ := ih (x + 1) _ (by omega) (F.trans fz74) Rz'
      exact ⟨z', by rw [it_next (s' := (nI (x + 1), sI z 74 (130 + 645 * q + x) (m (130 + 645 * q + x)))) st]; exact b1, b2⟩
  have e0 : rsM m M q 0 = M := by
    funext y
    unfold rsM
    rw [if_neg (by omega)]
  obtain ⟨z, k1, k2, k3⟩ := K 645 0 g (Nat.zero_add _) Fr.rfl (by rw [e0]; exact R)
  exact ⟨z, by unfold MX12_correct_466; exact k1, k2, k3⟩
/-- the new lines are written -/
theorem r_507 (R : RSt g M1 kk ii t u fl) (hq : q < 100) (n40 : op + n ≤ 40) {np : Nat} (p40 : np ≤ 40) (e1 : M1 (130 + 645 * q + 1) = nI np) (cn : c n = np) (cm : ∀ j, j < n → c j < c (j + 1) ∧ c (j + 1) ≤ np) (e89 : ∀ j, j < n → gI g 89 (c j) = nI (c (j + 1))) : ∃ z, MX12_correct_507 g 73 v1 v3 (nI (130 + 645 * q)) v2 v6 (nI (c 0)) (nI op) = MX12_correct_580 z 73 v1 v3 v2 v6 (nI (op + n)) (nI 0) ∧ Fr (fun b => b = 74) g z ∧ RSt z (clM M1 q op n c) kk ii t u fl := by
  have K : ∀ d j z, j + d = n → Fr (fun b => b = 74) g z → RSt z (cl0 M1 q op j c) kk ii t u fl → ∃ z', it (fun y : Int32 × Int32 × Hp => BX12_correct_507 y.2.2 73 v1 v3 (nI (130 + 645 * q)) v2 v6 y.1 y.2.1) (nI (c j), nI (op + j), z) = MX12_correct_566 z' 73 v1 v3 (nI (130 + 645 * q)) v2 v6 (nI (op + n)) ∧ Fr (fun b => b = 74) g z' ∧ RSt z' (cl0 M1 q op n c) kk ii t u fl := fun d => by
    induction d with
    | zero =>
      intro j z hj F Rz
      have hj : j = n := hj
      subst hj
      refine ⟨z, it_u1 ?_, F, Rz⟩
      show BX12_correct_507 z 73 v1 v3 (nI (130 + 645 * q)) v2 v6 (nI (c j)) (nI (op + j)) = _
      unfold BX12_correct_507
      simp only [ZL, RS.f Rz.1]
      rw [gg_T, gg_T, nAdd, gg_in (by omega) (by omega), nCl (by omega), Rz.2.1, cl0_o n40 (by omega), e1, cn, if_pos (nI_le (Nat.le_refl _) (by omega))]
    | succ d ih =>
      intro j z hj F Rz
      have jn : j < n := by omega
      obtain ⟨m1, m2⟩ := cm j jn
      have a89 : gI z 89 (c j) = nI (c (j + 1)) := by rw [F.2.2.2.2.2.2 89 (by decide)]; exact e89 j jn
      obtain ⟨z1, hz1⟩ : ∃ z1, z1 = sI z 74 (130 + 645 * q + 5 + (op + j)) (nI (c (j + 1) - 1)) := ⟨_, rfl⟩
      obtain ⟨z2, hz2⟩ : ∃ z2, z2 = sI z1 74 (130 + 645 * q + 45 + (op + j)) (nI 0) := ⟨_, rfl⟩
      have b89 : gI z2 89 (c j) = nI (c (j + 1)) := by rw [hz2, gI_sI, if_neg (by decide), hz1, gI_sI, if_neg (by decide)]; exact a89
      have st : BX12_correct_507 z 73 v1 v3 (nI (130 + 645 * q)) v2 v6 (nI (c j)) (nI (op + j)) = some (.inl (nI (c (j + 1)), nI (op + (j + 1)), z2)) := by
        unfold BX12_correct_507
        simp only [ZL, RS.f Rz.1]
        rw [gg_T, gg_T, nAdd, gg_in (by omega) (by omega), nCl (by omega), Rz.2.1, cl0_o (by omega) (by omega), e1, if_neg (nI_ge (by omega) (by omega)), gg_T, gg_in (by omega) (by omega), nAdd, nAdd, gg_in (by omega) (by omega), nCl (by omega), nCl (by omega), a89, pk_sub (by omega), lt_eq, ← hz1, nAdd, nAdd, gg_in (by omega) (by omega), nCl (by omega), lt_eq, ← hz2, nAdd]
        rfl
      have Rz' := (Rz.m1 (x := 130 + 645 * q + 5 + (op + j)) (v := nI (c (j + 1) - 1))).m1 (x := 130 + 645 * q + 45 + (op + j)) (v := nI 0)
      rw [← hz1, ← hz2, cl0_s (by omega)] at Rz'
      obtain ⟨z', b1, b2⟩ := ih (j + 1) z2 (by omega) (by rw [hz2, hz1]; exact (F.trans fz74).trans fz74) Rz'
      exact ⟨z', by rw [it_next (s' := (nI (c (j + 1)), nI (op + (j + 1)), z2)) st]; exact b1, b2⟩
  obtain ⟨z, k1, k2, k3⟩ := K n 0 g (Nat.zero_add _) Fr.rfl (by rw [cl0_0]; exact R)
  have Rz := k3.m1 (x := 130 + 645 * q + 4) (v := nI (op + n))
  rw [cl0_4 n40] at Rz
  refine ⟨sI z 74 (130 + 645 * q + 4) (nI (op + n)), ?_, k2.trans fz74, Rz⟩
  have e : MX12_correct_566 z 73 v1 v3 (nI (130 + 645 * q)) v2 v6 (nI (op + n)) = MX12_correct_580 (sI z 74 (130 + 645 * q + 4) (nI (op + n))) 73 v1 v3 v2 v6 (nI (op + n)) (nI 0) := by
    unfold MX12_correct_566
    simp only [ZL, RS.f k3.1]
    rw [gg_T, gg_T, nAdd, gg_in (by omega) (by omega), nCl (by omega), lt_eq]
  rw [← e]
  unfold MX12_correct_507
  exact k1
end
