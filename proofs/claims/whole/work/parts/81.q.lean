/-! check -/
/-- the first j below n with P -/
def fs (P : Nat → Prop) [∀ j, Decidable (P j)] : Nat → Option Nat
  | 0 => none
  | n + 1 => match fs P n with
    | some j => some j
    | none => if P n then some n else none
theorem fs_none {P : Nat → Prop} [∀ j, Decidable (P j)] : ∀ n, (∀ j, j < n → ¬ P j) → fs P n = none
  | 0, _ => rfl
  | n + 1, H => by
    unfold fs
    rw [fs_none n (fun j hj => H j (by omega)), if_neg (H n (by omega))]
theorem fs_some {P : Nat → Prop} [∀ j, Decidable (P j)] {a : Nat} (ha : P a) (hb : ∀ j, j < a → ¬ P j) : ∀ n, a < n → fs P n = some a
  | 0, h => by omega
  | n + 1, h => by
    unfold fs
    by_cases z : a = n
    · subst z
      rw [fs_none a hb, if_pos ha]
    · rw [fs_some ha hb n (by omega)]
/-- a loop that stops at the first j with P, its answer by j -/
theorem it_fst {σ ρ : Type} {f : σ → Option (σ ⊕ ρ)} (P : Nat → Prop) [∀ j, Decidable (P j)] (s : Nat → σ) (n : Nat) {r0 : ρ} (r1 : Nat → ρ) (h0 : ∀ j, j < n → ¬ P j → f (s j) = some (.inl (s (j + 1)))) (h1 : ∀ j, j < n → P j → f (s j) = some (.inr (r1 j))) (h2 : f (s n) = some (.inr r0)) : it f (s 0) = some ((fs P n).elim r0 r1) := by
  have key : ∀ k, k ≤ n → (∀ j, j < n - k → ¬ P j) → it f (s (n - k)) = some ((fs P n).elim r0 r1) := by
    intro k
    induction k with
    | zero =>
      intro _ hn
      rw [fs_none n (fun j hj => hn j (by omega))]
      exact it_done h2
    | succ k ih =>
      intro hk hn
      by_cases p : P (n - (k + 1))
      · rw [fs_some p hn n (by omega)]
        exact it_done (h1 _ (by omega) p)
      · rw [it_next (h0 _ (by omega) p), show n - (k + 1) + 1 = n - k by omega]
        exact ih (by omega) (fun j hj => by
          by_cases z : j = n - (k + 1)
          · rw [z]; exact p
          · exact hn j (by omega))
  have := key n (Nat.le_refl n) (fun j hj => by omega)
  rwa [Nat.sub_self] at this
section
variable {tg : Nat → List Nat} {h h' : Hp} {m k t : Nat → Int32} {i n f : Int32} {r : Nat}
/-- row a tells of machine b what wasn't cast -/
def bdP (m : Nat → Int32) (a b : Nat) : Prop := m (337180 + 5 * a + 1 + b) ≠ lastS m (nI b) (m (337180 + 5 * a)) (Nn m 4)
theorem r_chk1 (R : RS h) (e : gI h 74 = m) (I : MI m) {a b : Nat} (ha : a < 8) (hb : b < 4) [dP : Decidable (bdP m a b)] : MX12_check_30 h 73 (nI a) (nI b) (-nI 1) (nI 0) = some (if bdP m a b then .inr (.inr (nI (4 * a + b), h)) else .inl (nI (b + 1))) := by
  obtain ⟨-, -, -, -, ⟨b1, b2⟩, -⟩ := I.1.f
  unfold MX12_check_30
  refine it_seq2 (fun j => (lastS m (nI b) (m (337180 + 5 * a)) j, nI j)) (Nn m 4) rfl (fun j hj => ?_) ?_
  · show BX12_check_30 h 73 (nI a) (nI b) (lastS m (nI b) (m (337180 + 5 * a)) j) (nI j) = some (.inl ((if m (64630 + 852 * j + 1) = nI b ∧ m (64630 + 852 * j + 2) = m (337180 + 5 * a) then nI j else lastS m (nI b) (m (337180 + 5 * a)) j), nI (j + 1)))
    generalize lastS m (nI b) (m (337180 + 5 * a)) j = w
    by_cases z1 : m (64630 + 852 * j + 1) = nI b
    · by_cases z2 : m (64630 + 852 * j + 2) = m (337180 + 5 * a)
      · rw [if_pos ⟨z1, z2⟩]
        simp (disch := omega) only [BX12_check_30, ↓reduceIte, Nat.reduceLT, Nat.reduceLeDiff, Nat.reduceEqDiff, ZL, nAdd, nMul, nSub, nLt, nLe, nEq, nCl, nDiv, nRem2, nM1, nM2, nM3, nM4, nM5, nM6, gg_in, gg_rf, gg_T, if_true, if_false, ↓lt_eq, ob_some, b2_some, up1_some, kd_sI, ln_sI, gP_sI, gI_sI, kd_rI, ln_rI, gP_rI, gI_rI, kd_bmp, ln_bmp, gP_bmp, gI_bmp, up_at, i0, i1, RS.f R, e, b1, r_slug0, z1, z2]
      · rw [if_neg (fun q => z2 q.2)]
        simp (disch := omega) only [BX12_check_30, ↓reduceIte, Nat.reduceLT, Nat.reduceLeDiff, Nat.reduceEqDiff, ZL, nAdd, nMul, nSub, nLt, nLe, nEq, nCl, nDiv, nRem2, nM1, nM2, nM3, nM4, nM5, nM6, gg_in, gg_rf, gg_T, if_true, if_false, ↓lt_eq, ob_some, b2_some, up1_some, kd_sI, ln_sI, gP_sI, gI_sI, kd_rI, ln_rI, gP_rI, gI_rI, kd_bmp, ln_bmp, gP_bmp, gI_bmp, up_at, i0, i1, RS.f R, e, b1, r_slug0, z1, if_neg z2]
    · rw [if_neg (fun q => z1 q.1)]
      simp (disch := omega) only [BX12_check_30, ↓reduceIte, Nat.reduceLT, Nat.reduceLeDiff, Nat.reduceEqDiff, ZL, nAdd, nMul, nSub, nLt, nLe, nEq, nCl, nDiv, nRem2, nM1, nM2, nM3, nM4, nM5, nM6, gg_in, gg_rf, gg_T, if_true, if_false, ↓lt_eq, ob_some, b2_some, up1_some, kd_sI, ln_sI, gP_sI, gI_sI, kd_rI, ln_rI, gP_rI, gI_rI, kd_bmp, ln_bmp, gP_bmp, gI_bmp, up_at, i0, i1, RS.f R, e, b1, r_slug0, if_neg z1]
  · show BX12_check_30 h 73 (nI a) (nI b) (lastS m (nI b) (m (337180 + 5 * a)) (Nn m 4)) (nI (Nn m 4)) = _
    by_cases z : bdP m a b
    · rw [if_pos z]
      have z' : ¬ m (337180 + 5 * a + 1 + b) = lastS m (nI b) (m (337180 + 5 * a)) (Nn m 4) := z
      simp (disch := omega) only [BX12_check_30, MX12_check_93, MX12_check_113, ↓reduceIte, Nat.reduceLT, Nat.reduceLeDiff, Nat.reduceEqDiff, ZL, nAdd, nMul, nSub, nLt, nLe, nEq, nCl, nDiv, nRem2, nM1, nM2, nM3, nM4, nM5, nM6, gg_in, gg_rf, gg_T, if_true, if_false, ↓lt_eq, ob_some, b2_some, up1_some, kd_sI, ln_sI, gP_sI, gI_sI, kd_rI, ln_rI, gP_rI, gI_rI, kd_bmp, ln_bmp, gP_bmp, gI_bmp, up_at, i0, i1, RS.f R, e, b1, if_neg z']
    · rw [if_neg z]
      have z' : m (337180 + 5 * a + 1 + b) = lastS m (nI b) (m (337180 + 5 * a)) (Nn m 4) := Classical.byContradiction z
      simp (disch := omega) only [BX12_check_30, MX12_check_93, MX12_check_113, ↓reduceIte, Nat.reduceLT, Nat.reduceLeDiff, Nat.reduceEqDiff, ZL, nAdd, nMul, nSub, nLt, nLe, nEq, nCl, nDiv, nRem2, nM1, nM2, nM3, nM4, nM5, nM6, gg_in, gg_rf, gg_T, if_true, if_false, ↓lt_eq, ob_some, b2_some, up1_some, kd_sI, ln_sI, gP_sI, gI_sI, kd_rI, ln_rI, gP_rI, gI_rI, kd_bmp, ln_bmp, gP_bmp, gI_bmp, up_at, i0, i1, RS.f R, e, b1, if_pos z']
theorem r_chk2 (R : RS h) (e : gI h 74 = m) (I : MI m) {a : Nat} (ha : a < 8) [dP : ∀ b, Decidable (bdP m a b)] : MX12_check_20 h 73 (nI a) (nI 0) = some ((fs (bdP m a) 4).elim (Sum.inl (nI (a + 1))) (fun b => Sum.inr (nI (4 * a + b), h))) := by
  unfold MX12_check_20
  refine it_fst (bdP m a) (fun b => nI b) 4 (fun b => Sum.inr (nI (4 * a + b), h)) (fun b hb hn => ?_) (fun b hb hy => ?_) ?_
  · have e1 := r_chk1 R e I ha hb
    rw [if_neg hn] at e1
    show BX12_check_20 h 73 (nI a) (nI b) = _
    unfold BX12_check_20
    simp only [ZL]
    rw [if_neg (by rw [nLe (by omega) (by omega)]; omega)]
    exact e1
  · have e1 := r_chk1 R e I ha hb
    rw [if_pos hy] at e1
    show BX12_check_20 h 73 (nI a) (nI b) = _
    unfold BX12_check_20
    simp only [ZL]
    rw [if_neg (by rw [nLe (by omega) (by omega)]; omega)]
    exact e1
  · show BX12_check_20 h 73 (nI a) (nI 4) = _
    unfold BX12_check_20
    simp (disch := omega) only [↓reduceIte, Nat.reduceLT, Nat.reduceLeDiff, Nat.reduceEqDiff, ZL, nAdd, nMul, nSub, nLt, nLe, nEq, nCl, nDiv, nRem2, nM1, nM2, nM3, nM4, nM5, nM6, gg_in, gg_rf, gg_T, if_true, if_false, ↓lt_eq, ob_some, b2_some, up1_some, kd_sI, ln_sI, gP_sI, gI_sI, kd_rI, ln_rI, gP_rI, gI_rI, kd_bmp, ln_bmp, gP_bmp, gI_bmp, up_at, i0, i1]
/-- the first row with a machine that tells wrong, as the call answers -/
def ckV (m : Nat → Int32) [∀ a b, Decidable (bdP m a b)] : Int32 := (fs (fun a => fs (bdP m a) 4 ≠ none) (Nn m 7)).elim (-nI 1) (fun a => (fs (bdP m a) 4).elim (-nI 1) (fun b => nI (4 * a + b)))
theorem r_check (R : RS h) (e : gI h 74 = m) (I : MI m) [dP : ∀ a b, Decidable (bdP m a b)] : MX12_check_7 h 73 (nI 0) = some (ckV m, h) := by
  obtain ⟨-, -, -, -, -, -, -, ⟨b7, b7'⟩⟩ := I.1.f
  unfold MX12_check_7
  have K := it_fst (f := fun q : Int32 => BX12_check_7 h 73 q) (fun a => fs (bdP m a) 4 ≠ none) (fun a => nI a) (Nn m 7) (r0 := (-nI 1, h)) (fun a => ((fs (bdP m a) 4).elim (-nI 1) (fun b => nI (4 * a + b)), h)) (fun a ha hn => ?_) (fun a ha hy => ?_) ?_
  · refine K.trans ?_
    unfold ckV
    cases fs (fun a => fs (bdP m a) 4 ≠ none) (Nn m 7) <;> rfl
  · have e2 := r_chk2 R e I (show a < 8 by omega)
    have hn' : fs (bdP m a) 4 = none := Classical.byContradiction hn
    rw [hn'] at e2
    show BX12_check_7 h 73 (nI a) = _
    unfold BX12_check_7
    simp (disch := omega) only [↓reduceIte, Nat.reduceLT, Nat.reduceLeDiff, Nat.reduceEqDiff, ZL, nAdd, nMul, nSub, nLt, nLe, nEq, nCl, nDiv, nRem2, nM1, nM2, nM3, nM4, nM5, nM6, gg_in, gg_rf, gg_T, if_true, if_false, ↓lt_eq, ob_some, b2_some, up1_some, kd_sI, ln_sI, gP_sI, gI_sI, kd_rI, ln_rI, gP_rI, gI_rI, kd_bmp, ln_bmp, gP_bmp, gI_bmp, up_at, i0, i1, RS.f R, e, b7]
    exact e2
  · have e2 := r_chk2 R e I (show a < 8 by omega)
    show BX12_check_7 h 73 (nI a) = _
    unfold BX12_check_7
    simp (disch := omega) only [↓reduceIte, Nat.reduceLT, Nat.reduceLeDiff, Nat.reduceEqDiff, ZL, nAdd, nMul, nSub, nLt, nLe, nEq, nCl, nDiv, nRem2, nM1, nM2, nM3, nM4, nM5, nM6, gg_in, gg_rf, gg_T, if_true, if_false, ↓lt_eq, ob_some, b2_some, up1_some, kd_sI, ln_sI, gP_sI, gI_sI, kd_rI, ln_rI, gP_rI, gI_rI, kd_bmp, ln_bmp, gP_bmp, gI_bmp, up_at, i0, i1, RS.f R, e, b7]
    refine e2.trans ?_
    cases z : fs (bdP m a) 4 with
    | none => exact absurd z hy
    | some b => rfl
  · show BX12_check_7 h 73 (nI (Nn m 7)) = _
    unfold BX12_check_7
    simp (disch := omega) only [↓reduceIte, Nat.reduceLT, Nat.reduceLeDiff, Nat.reduceEqDiff, ZL, nAdd, nMul, nSub, nLt, nLe, nEq, nCl, nDiv, nRem2, nM1, nM2, nM3, nM4, nM5, nM6, gg_in, gg_rf, gg_T, if_true, if_false, ↓lt_eq, ob_some, b2_some, up1_some, kd_sI, ln_sI, gP_sI, gI_sI, kd_rI, ln_rI, gP_rI, gI_rI, kd_bmp, ln_bmp, gP_bmp, gI_bmp, up_at, i0, i1, RS.f R, e, b7]
end
