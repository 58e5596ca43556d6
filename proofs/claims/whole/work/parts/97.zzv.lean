/-! ahead: the class's loop -/
section
variable {tg : Nat → List Nat} {h h1 : Hp} {m M kk t : Nat → Int32} {ii f w : Int32} {k q r x i T d e : Nat}
theorem c_109 {g : Hp} (k1 : kd g 1 = 10) (e11 : gP g 1 11 = r) (S : RmS g r) (V : RmV g r M) (I : MI M) : MX11_ahead_109 g 1 = some (.inl (if jbN M (Nn M 3) = 0 then M 0 else -nI 1), g) := by
  have jb : jbN M (Nn M 3) < 2147483648 := by
    have f3 := I.1.f.2.2.2.1.2
    have : ∀ j, j ≤ Nn M 3 → jbN M j ≤ 30 * j := fun j => by
      induction j with
      | zero => exact fun _ => Nat.le_refl _
      | succ j ih =>
        intro hj
        have h30 := ((I.2.2.2.1 j (by omega)).2.2.2.1.eq (by omega)).2
        have := ih (by omega)
        unfold jbN
        omega
    have := this _ (Nat.le_refl _)
    omega
  unfold MX11_ahead_109
  simp only [ZL]
  rw [gg_t k1, e11, gg_t S.1, c_jobs S V I, b2_some]
  by_cases z : jbN M (Nn M 3) = 0
  · rw [if_pos (by rw [z]), if_pos z, gg_t k1, e11, gg_t S.1, V.1]
  · rw [if_neg (by rw [nEq jb (by omega)]; exact z), if_neg z]
theorem c_ahead (K : Rt tg h r x) (hr : r ≤ sz h) (h9 : 109 ≤ sz h) (I : MI m) (k1 : ∀ tg' g, Rx tg h tg' g (fun y => y = x) → kd g 1 = 10 ∧ gP g 1 11 = r) : ∀ d j, Nn m 0 + j + d = 600 → ∀ tg1 g, MnS tg h r x m j tg1 g → MnM m j → ∃ J tg2 g2, it (fun q : Int32 × Hp => BX11_ahead_79 q.2 1 q.1) (nI (Nn m 0 + j), g) = some (.inl (if jbN (miI m J) (Nn (miI m J) 3) = 0 then miI m J 0 else -nI 1), g2) ∧ j ≤ J ∧ Nn m 0 + J ≤ 600 ∧ MnS tg h r x m J tg2 g2 ∧ MnM m J ∧ (∀ l, j ≤ l → l < J → hs (cuP (miI m l)) (Nn (miI m l) 3) = true) ∧ (Nn m 0 + J = 600 ∨ hs (cuP (miI m J)) (Nn (miI m J) 3) = false) := by
  intro d
  induction d with
  | zero =>
    intro j hj tg1 g A M
    obtain ⟨x1, x2⟩ := k1 tg1 g A.1
    refine ⟨j, tg1, g, it_done ?_, Nat.le_refl _, by omega, A, M, fun l h1 h2 => by omega, Or.inl (by omega)⟩
    show BX11_ahead_79 g 1 (nI (Nn m 0 + j)) = _
    unfold BX11_ahead_79
    simp only [ZL]
    rw [if_pos (nI_le (by omega) (by omega)), c_109 x1 x2 A.2.2.1 A.2.2.2 M.1, up1_some]
  | succ d ih =>
    intro j hj tg1 g A M
    obtain ⟨x1, x2⟩ := k1 tg1 g A.1
    by_cases z : hs (cuP (miI m j)) (Nn (miI m j) 3) = true
    · obtain ⟨⟨tg2, g2, a1, a2⟩, M', -⟩ := c_mins (kk := m) (ii := 0) (t := m) (u := 0) (f := 0) K hr h9 I (by omega) A M
      obtain ⟨J, tg3, g3, b1, b2, b3, b4, b5, b6, b7⟩ := ih (j + 1) (by omega) tg2 g2 a2 M'
      refine ⟨J, tg3, g3, ?_, by omega, b3, b4, b5, fun l h1 h2 => ?_, b7⟩
      · rw [← b1]
        refine it_next ?_
        show BX11_ahead_79 g 1 (nI (Nn m 0 + j)) = _
        unfold BX11_ahead_79
        simp only [ZL, nAdd]
        rw [if_neg (nI_ge (by omega) (by omega)), gg_t x1, x2, gg_t A.2.2.1.1, c_canRun A.2.2.1 A.2.2.2 M.1, if_pos z, b2_some, if_neg (by decide), gg_t x1, x2, gg_t A.2.2.1.1, a1, ob_some]
        rfl
      · by_cases y : l = j
        · rw [y]; exact z
        · exact b6 l (by omega) h2
    · refine ⟨j, tg1, g, it_done ?_, Nat.le_refl _, by omega, A, M, fun l h1 h2 => by omega, Or.inr (Bool.eq_false_iff.mpr z)⟩
      show BX11_ahead_79 g 1 (nI (Nn m 0 + j)) = _
      unfold BX11_ahead_79
      simp only [ZL]
      rw [if_neg (nI_ge (by omega) (by omega)), gg_t x1, x2, gg_t A.2.2.1.1, c_canRun A.2.2.1 A.2.2.2 M.1, if_neg z, b2_some, if_pos rfl, c_109 x1 x2 A.2.2.1 A.2.2.2 M.1, up1_some]
end
