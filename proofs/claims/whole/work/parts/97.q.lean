/-! brasses: how many of a sign are out -/
/-- how many of sign s the first n bytes of slug g were cast with -/
def sgQ (m : Nat → Int32) (g s : Nat) : Nat → Nat
  | 0 => 0
  | n + 1 => sgQ m g s n + (if Nn m (g + 12 + n) = sgN s then 1 else 0)
/-- below c, down to minute w, of machine k, at most at minute T -/
def ouN (m : Nat → Int32) (k : Nat) (w : Int32) (T s : Nat) : Nat → Nat
  | 0 => 0
  | c + 1 => if m (64630 + 852 * c + 2) < w then 0 else (if m (64630 + 852 * c + 1) = nI k ∧ ¬ nI T < m (64630 + 852 * c + 2) then sgQ m (64630 + 852 * c) s (Nn m (64630 + 852 * c + 9)) else 0) + ouN m k w T s c
theorem sgQ_le {m : Nat → Int32} {g s : Nat} : ∀ n, sgQ m g s n ≤ n
  | 0 => Nat.le_refl 0
  | n + 1 => by
    have := sgQ_le (m := m) (g := g) (s := s) n
    unfold sgQ
    split <;> omega
section
variable {tg : Nat → List Nat} {h h1 h' : Hp} {m m' t : Nat → Int32} {i n f w : Int32} {r x s k T A b c : Nat}
theorem ouN_le (I : MI m) : ∀ c, c ≤ Nn m 4 → ouN m k w T s c ≤ c * 401
  | 0, _ => Nat.le_refl 0
  | c + 1, h => by
    have k1 := ouN_le I c (by omega)
    have l9 := ((I.2.2.1 c (by omega)).2.2.2.2.2.2.2.2.2.2.2.1.eq (by omega)).2
    have k2 := sgQ_le (m := m) (g := 64630 + 852 * c) (s := s) (Nn m (64630 + 852 * c + 9))
    unfold ouN
    split
    · omega
    · split <;> omega
theorem sg_lt {a b : Nat} (ha : a < b) (hb : b < 1073741824) : nI a - nI b < nI 0 := by
  rw [Int32.lt_iff_toInt_lt, nI_toInt (by omega), pk_sub_toInt (by omega) (by omega)]
  omega
theorem c_addSign (hk : kd h A = 20) (hl : ln h A = 27) (hb : b ≤ 122) {acc : Nat → Nat} (ha : ∀ s, s < 27 → gI h A s = nI (acc s)) : ∃ h1, MX7_addSign h A (nI b) = some h1 ∧ Fr (fun c => c = A) h h1 ∧ ∀ s, s < 27 → gI h1 A s = nI (acc s + (if b = sgN s then 1 else 0)) := by
  unfold MX7_addSign
  by_cases z : b = 45
  · subst z
    refine ⟨sI h A 26 (nI (acc 26 + 1)), ?_, Fr.sI (S := fun c => c = A) (Eq.refl A), fun s hs => ?_⟩
    · rw [if_pos (show nI 45 = 45 from Eq.refl _)]
      unfold MX7_addSign_15
      simp (disch := omega) only [ZL, ↓reduceIte, Nat.reduceLT, Nat.reduceLeDiff, Nat.reduceEqDiff, ZL, nAdd, nMul, nSub, nLt, nLe, nEq, nCl, nDiv, nRem2, nM1, nM2, nM3, nM4, nM5, nM6, gg_in, gg_rf, gg_T, if_true, if_false, ↓lt_eq, ob_some, b2_some, up1_some, kd_sI, ln_sI, gP_sI, gI_sI, kd_rI, ln_rI, gP_rI, gI_rI, kd_bmp, ln_bmp, gP_bmp, gI_bmp, up_at, i0, i1, hk, hl, ha 26 (by omega)]
    · rw [gI2]
      by_cases z : s = 26
      · subst z
        rw [if_pos ⟨Eq.refl _, Eq.refl _⟩, if_pos (show 45 = sgN 26 from Eq.refl _)]
      · rw [if_neg (fun e => z e.2), if_neg (by unfold sgN; rw [if_neg z]; omega), Nat.add_zero]
        exact ha s hs
  · have e45 : (nI b = 45) = False := by
      have := nEq (a := b) (b := 45) (by omega) (by omega)
      rw [show (45 : Int32) = nI 45 from Eq.refl _, this]
      exact eq_false z
    by_cases z2 : b < 97
    · refine ⟨h, ?_, Fr.rfl, fun s hs => ?_⟩
      · simp only [e45, if_false]
        unfold MX7_addSign_15
        rw [if_pos (show nI b - 97 < 0 from sg_lt (b := 97) z2 (by omega))]
      · rw [if_neg (by unfold sgN; split <;> omega), Nat.add_zero]
        exact ha s hs
    · refine ⟨sI h A (b - 97) (nI (acc (b - 97) + 1)), ?_, Fr.sI (S := fun c => c = A) (Eq.refl A), fun s hs => ?_⟩
      · simp only [e45, if_false]
        unfold MX7_addSign_15
        simp (disch := omega) only [↓reduceIte, Nat.reduceLT, Nat.reduceLeDiff, Nat.reduceEqDiff, ZL, nAdd, nMul, nSub, nLt, nLe, nEq, nCl, nDiv, nRem2, nM1, nM2, nM3, nM4, nM5, nM6, gg_in, gg_rf, gg_T, if_true, if_false, ↓lt_eq, ob_some, b2_some, up1_some, kd_sI, ln_sI, gP_sI, gI_sI, kd_rI, ln_rI, gP_rI, gI_rI, kd_bmp, ln_bmp, gP_bmp, gI_bmp, up_at, i0, i1, hk, hl, ha (b - 97) (by omega)]
      · rw [gI2]
        by_cases z : s = b - 97
        · subst z
          rw [if_pos ⟨Eq.refl _, Eq.refl _⟩, if_pos (by unfold sgN; rw [if_neg (by omega)]; omega)]
        · rw [if_neg (fun e => z e.2), if_neg (by unfold sgN; split <;> omega), Nat.add_zero]
          exact ha s hs
theorem c_clear27 (hk : kd h A = 20) (hl : ln h A = 27) : ∃ h1, MX7_clear h A = some h1 ∧ Fr (fun c => c = A) h h1 ∧ ∀ s, s < 27 → gI h1 A s = nI 0 := by
  unfold MX7_clear MX7_clear_2
  refine it_cnt (fun j s => s.1 = nI j ∧ Fr (fun c => c = A) h s.2 ∧ ∀ a, a < j → gI s.2 A a = nI 0) 27 (fun j s hj pp => ?_) (fun s pp => ?_) ⟨Eq.refl _, Fr.rfl, fun a ha => by omega⟩
  · obtain ⟨v, g⟩ := s
    obtain ⟨p1, p2, p3⟩ := pp
    replace p1 : v = nI j := p1
    replace p2 : Fr (fun c => c = A) h g := p2
    subst p1
    refine ⟨(nI (j + 1), sI g A j (nI 0)), ?_, Eq.refl _, p2.trans (Fr.sI (S := fun c => c = A) (Eq.refl A)), fun a ha => ?_⟩
    · show BX7_clear_2 g A (nI j) = _
      unfold BX7_clear_2
      have ek := p2.1
      have el := p2.2.1
      have nl : (nI 27 ≤ nI j) = False := eq_false (nI_ge hj (by omega))
      simp (disch := omega) only [ek, el, hk, hl, ↓reduceIte, Nat.reduceLT, Nat.reduceLeDiff, Nat.reduceEqDiff, ZL, nAdd, nMul, nSub, nLt, nLe, nEq, nCl, nDiv, nRem2, nM1, nM2, nM3, nM4, nM5, nM6, gg_in, gg_rf, gg_T, if_true, if_false, ↓lt_eq, ob_some, b2_some, up1_some, kd_sI, ln_sI, gP_sI, gI_sI, kd_rI, ln_rI, gP_rI, gI_rI, kd_bmp, ln_bmp, gP_bmp, gI_bmp, up_at, i0, i1, nl]
    · show gI (sI g A j (nI 0)) A a = nI 0
      rw [gI2]
      by_cases z : a = j
      · rw [if_pos ⟨Eq.refl _, z⟩]
      · rw [if_neg (fun e => z e.2)]
        exact p3 a (by omega)
  · obtain ⟨v, g⟩ := s
    obtain ⟨p1, p2, p3⟩ := pp
    replace p1 : v = nI 27 := p1
    replace p2 : Fr (fun c => c = A) h g := p2
    subst p1
    refine ⟨g, ?_, p2, p3⟩
    show BX7_clear_2 g A (nI 27) = _
    unfold BX7_clear_2
    have ek := p2.1
    have el := p2.2.1
    rw [ek, el, gg_t hk, hl, if_pos (nI_le (Nat.le_refl 27) (by omega))]
end
