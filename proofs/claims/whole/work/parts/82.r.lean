section
variable {tg : Nat → List Nat} {h h' : Hp} {m k t : Nat → Int32} {i n f : Int32} {r : Nat}
theorem c_chk2 (X : XS h) (S : RmS h 19) (V : RmV h 19 m) (I : MI m) {a : Nat} (ha : a < Nn m 7) [dP : ∀ b, Decidable (bdP m a b)] : MX11_check_15 h 1 (nI a) (nI 0) = some ((fs (bdP m a) 4).elim (Sum.inl (nI (a + 1))) (fun b => Sum.inr (nI (4 * a + b)))) := by
  obtain ⟨-, -, -, -, -, -, -, ⟨b7, b7'⟩⟩ := I.1.f
  obtain ⟨-, a1, a2⟩ := S.2.2.2.2.2.2.2.1
  obtain ⟨-, a3, a4⟩ := S.2.2.2.2.2.2.2.2.1
  have ht := I.2.2.2.2.1.2.2.1 a ha
  unfold MX11_check_15
  have pre : ∀ b, b < 4 → BX11_check_15 h 1 (nI a) (nI b) = if bdP m a b then some (.inr (.inr (nI (4 * a + b)))) else some (.inl (nI (b + 1))) := fun b hb => by
    obtain ⟨v1, v2⟩ := V.2.2.2.2.2.2.2.2.2.2.2 a ha b hb
    rw [← ht] at v2
    have rp := c_rowPlace_t S V I.1 ha hb
    unfold BX11_check_15 MX11_check_56
    simp only [ZL]
    rw [if_neg (by rw [nLe (by omega) (by omega)]; omega), gg_t X.1, X5 X, gg_t S.1, rp, ob_some, if_neg (by rw [nM6 (by omega)]; exact id), gg_t a1, a2, gg_in (by omega) (by omega), gg_t a3, a4, gg_in (by omega) (by omega), nCl (by omega), v1, v2]
    by_cases z : bdP m a b
    · rw [if_neg z, if_pos z, nMul, nAdd]
      rfl
    · rw [if_pos (Classical.byContradiction z), if_neg z, nAdd]
  refine it_fst (bdP m a) (fun b => nI b) 4 (fun b => Sum.inr (nI (4 * a + b))) (fun b hb hn => ?_) (fun b hb hy => ?_) ?_
  · show BX11_check_15 h 1 (nI a) (nI b) = _
    rw [pre b hb, if_neg hn]
  · show BX11_check_15 h 1 (nI a) (nI b) = _
    rw [pre b hb, if_pos hy]
  · show BX11_check_15 h 1 (nI a) (nI 4) = _
    unfold BX11_check_15
    simp (disch := omega) only [↓reduceIte, Nat.reduceLT, Nat.reduceLeDiff, Nat.reduceEqDiff, ZL, nAdd, nMul, nSub, nLt, nLe, nEq, nCl, nDiv, nRem2, nM1, nM2, nM3, nM4, nM5, nM6, gg_in, gg_rf, gg_T, if_true, if_false, ↓lt_eq, ob_some, b2_some, up1_some, kd_sI, ln_sI, gP_sI, gI_sI, kd_rI, ln_rI, gP_rI, gI_rI, kd_bmp, ln_bmp, gP_bmp, gI_bmp, up_at, i0, i1]
theorem c_check (X : XS h) (S : RmS h 19) (V : RmV h 19 m) (I : MI m) [dP : ∀ a b, Decidable (bdP m a b)] : MX11_check h 1 = some (ckV m) := by
  obtain ⟨⟨b0, b0'⟩, -, -, -, -, -, -, ⟨b7, b7'⟩⟩ := I.1.f
  have mn := c_rows I.1
  have rc : MX7_rowCount h 19 = some (nI (Nn m 7)) := by
    unfold MX7_rowCount
    simp only [ZL]
    rw [gg_t S.1, V.1, b0, mn]
  unfold MX11_check MX11_check_2
  simp only [ZL]
  have pre : ∀ a, a < Nn m 7 → BX11_check_2 h 1 (nI a) = MX11_check_15 h 1 (nI a) (nI 0) := fun a ha => by
    unfold BX11_check_2
    simp only [ZL]
    rw [gg_t X.1, X5 X, gg_t S.1, rc, ob_some, if_neg (by rw [nLe (by omega) (by omega)]; omega)]
  have K := it_fst (f := fun q : Int32 => BX11_check_2 h 1 q) (fun a => fs (bdP m a) 4 ≠ none) (fun a => nI a) (Nn m 7) (r0 := -nI 1) (fun a => (fs (bdP m a) 4).elim (-nI 1) (fun b => nI (4 * a + b))) (fun a ha hn => ?_) (fun a ha hy => ?_) ?_
  · exact K
  · have e2 := c_chk2 X S V I ha
    have hn' : fs (bdP m a) 4 = none := Classical.byContradiction hn
    rw [hn'] at e2
    show BX11_check_2 h 1 (nI a) = _
    rw [pre a ha]
    exact e2
  · have e2 := c_chk2 X S V I ha
    show BX11_check_2 h 1 (nI a) = _
    rw [pre a ha, e2]
    cases z : fs (bdP m a) 4 with
    | none => exact absurd z hy
    | some b => rfl
  · show BX11_check_2 h 1 (nI (Nn m 7)) = _
    unfold BX11_check_2
    simp only [ZL]
    rw [gg_t X.1, X5 X, gg_t S.1, rc, ob_some, if_pos (nI_le (Nat.le_refl _) (by omega))]
theorem p_check (C : CSt tg h m k i t n f) (R : RSt h m k i t n f) : Pr (cm []) Gq h (fX h (MX11_check h 1)) (fun h' => MX12_check h' 73) := by
  obtain ⟨O, X, X2, S, V, D, DV, I, T, Im, Tr⟩ := id C
  have dP : ∀ a b, Decidable (bdP m a b) := fun _ _ => Classical.propDecidable _
  refine Pr.get C R (ckV m) ?_ fun h' R' => ?_
  · rw [c_check X S V I]
    rfl
  · have R2 := R'.th (v := nI 0)
    unfold MX12_check
    simp only [ZL]
    rw [gg_t (RS.f R'.1).1, lt_eq, r_check R2.1 R2.2.1 I]
end
