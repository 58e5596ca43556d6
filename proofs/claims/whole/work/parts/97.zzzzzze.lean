/-! style: the class reads blanks, words, signs, numbers -/
/-- the reader's cells -/
def TQ (h : Hp) (b : Nat → Nat) (e : Nat) : Prop := kd h 3 = 9 ∧ gP h 3 0 = 2 ∧ gP h 3 4 = 4 ∧ gP h 3 5 = 5 ∧ kd h 2 = 21 ∧ ln h 2 = 400 ∧ kd h 4 = 20 ∧ ln h 4 = 401 ∧ gI h 3 1 = nI e ∧ e ≤ 400 ∧ (∀ i, i < e → gI h 2 i = bS (b i) ∧ b i ≤ 255) ∧ ∀ i, i ≤ e → gI h 4 i = nI (ik b e i)
section
variable {h : Hp} {b : Nat → Nat} {e a k c lo hi : Nat}
theorem bS_q : ∀ c, c < 256 → ∀ x, x < 128 → (bS c = nI x ↔ c = x) := by decide +kernel
theorem bS_d : ∀ c, c < 256 → (bS c < nI 48 ↔ ¬ (48 ≤ c ∧ c ≤ 57) ∧ ¬ (57 < c ∧ c < 128)) ∧ (nI 57 < bS c ↔ 57 < c ∧ c < 128) := by decide +kernel
theorem TQ.at (T : TQ h b e) {v : Nat} : TQ (sI h 3 2 (nI v)) b e := by
  obtain ⟨t1, t2, t3, t4, t5, t6, t7, t8, t9, t10, t11, t12⟩ := T
  refine ⟨t1, t2, t3, t4, t5, t6, t7, t8, ?_, t10, fun i hi => ?_, fun i hi => ?_⟩
  · rw [gI_sI, if_pos rfl, up_at, if_neg (by decide)]; exact t9
  · rw [gI_sI, if_neg (by decide)]; exact t11 i hi
  · rw [gI_sI, if_neg (by decide)]; exact t12 i hi
theorem c_fail (T : TQ h b e) (ha : gI h 3 2 = nI a) (ae : a ≤ e) (hw : gI h 3 3 = -nI 1) : MX10_failHere h 3 = some (nI 0, sI h 3 3 (nI (ik b e a))) := by
  obtain ⟨t1, t2, t3, t4, t5, t6, t7, t8, t9, t10, t11, t12⟩ := T
  unfold MX10_failHere
  simp only [ZL]
  rw [gg_t t1, hw, if_pos rfl, t3, gg_t t7, ha, t8, gg_in (by omega) (by omega), nCl (by omega), t12 a ae, lt_eq]
theorem c_tkS (T : TQ h b e) (ha : gI h 3 2 = nI a) (ae : a ≤ e) (hc : c < 128) : MX10_takeSign h 3 (nI c) = some (bI (decide (ik b e a < e ∧ b (ik b e a) = c)), sI h 3 2 (nI (if ik b e a < e ∧ b (ik b e a) = c then ik b e a + 1 else ik b e a))) := by
  have T1 := T.at (v := ik b e a)
  obtain ⟨t1, t2, t3, t4, t5, t6, t7, t8, t9, t10, t11, t12⟩ := T
  obtain ⟨j1, j2⟩ := ik_le (b := b) ae
  obtain ⟨h4, hh4⟩ : ∃ h4, h4 = sI h 3 2 (nI (ik b e a)) := ⟨_, rfl⟩
  rw [← hh4] at T1
  have a2 : gI h4 3 2 = nI (ik b e a) := by rw [hh4, gI_sI, if_pos rfl, up_at, if_pos rfl]
  unfold MX10_takeSign
  simp only [ZL]
  rw [gg_t t1, t3, gg_t t7, ha, t8, gg_in (by omega) (by omega), nCl (by omega), t12 a ae, lt_eq, ← hh4, T1.2.2.2.2.2.2.2.2.1, a2, t2, gg_t t5]
  by_cases z : e ≤ ik b e a
  · have nz : ¬ (ik b e a < e ∧ b (ik b e a) = c) := fun w => by omega
    rw [if_pos (nI_le z (by omega)), decide_eq_false nz, if_neg nz, hh4]
    rfl
  · obtain ⟨c1, c2⟩ := T1.2.2.2.2.2.2.2.2.2.2.1 (ik b e a) (by omega)
    rw [if_neg (nI_ge (by omega) (by omega)), t6, gg_in (by omega) (by omega), nCl (by omega), c1]
    by_cases y : b (ik b e a) = c
    · have yz : ik b e a < e ∧ b (ik b e a) = c := ⟨by omega, y⟩
      rw [if_pos ((bS_q _ (by omega) c hc).mpr y), nAdd, lt_eq, decide_eq_true yz, if_pos yz, hh4, sI_sI]
      rfl
    · have nz : ¬ (ik b e a < e ∧ b (ik b e a) = c) := fun w => y w.2
      rw [if_neg (fun w => y ((bS_q _ (by omega) c hc).mp w)), decide_eq_false nz, if_neg nz, hh4]
      rfl
theorem c_tkW (T : TQ h b e) (ha : gI h 3 2 = nI a) (ae : a ≤ e) (hk : k < 21) : MX10_takeWord h 3 k = some (bI (wdB b e k (ik b e a)), sI h 3 2 (nI (if wdB b e k (ik b e a) = true then ik b e a + sN k else ik b e a))) := by
  have T1 := T.at (v := ik b e a)
  obtain ⟨t1, t2, t3, t4, t5, t6, t7, t8, t9, t10, t11, t12⟩ := T
  obtain ⟨j1, j2⟩ := ik_le (b := b) ae
  obtain ⟨s1, s2⟩ := sN_b k hk
  obtain ⟨h4, hh4⟩ : ∃ h4, h4 = sI h 3 2 (nI (ik b e a)) := ⟨_, rfl⟩
  rw [← hh4] at T1
  have a2 : gI h4 3 2 = nI (ik b e a) := by rw [hh4, gI_sI, if_pos rfl, up_at, if_pos rfl]
  obtain ⟨j, hj⟩ : ∃ j, j = ik b e a := ⟨_, rfl⟩
  rw [← hj] at a2 j1 j2 hh4 ⊢
  have bt : Nat.blt k 21 = true := by rw [Nat.blt_eq]; exact hk
  have e1 := T1.2.2.2.2.2.2.2.2.1
  have by1 := T1.2.2.2.2.2.2.2.2.2.2.1
  -- the letters
  have loop : j + sN k ≤ e → MX10_takeWord_79 h4 3 k (nI (j + sN k)) (nI j) = if (∀ i, i < sN k → b (j + i) = wcN k i) then some (nI 1, sI h4 3 2 (nI (j + sN k))) else some (nI 0, h4) := fun hle => by
    have K : ∀ d x, x + d = sN k → (∀ i, i < x → b (j + i) = wcN k i) → it (fun y : Int32 => BX10_takeWord_79 h4 3 k (nI (j + sN k)) y) (nI (j + x)) = if (∀ i, i < sN k → b (j + i) = wcN k i) then some (nI 1, sI h4 3 2 (nI (j + sN k))) else some (nI 0, h4) := fun d => by
      induction d with
      | zero =>
        intro x hx al
        have hx : x = sN k := hx
        subst hx
        rw [if_pos al]
        have u1 : BX10_takeWord_79 h4 3 k (nI (j + sN k)) (nI (j + sN k)) = up1 (MX10_takeWord_114 h4 3 (nI (j + sN k))) := by
          unfold BX10_takeWord_79
          rw [if_pos (nI_le (Nat.le_refl _) (by omega))]
        rw [it_u1 u1]
        unfold MX10_takeWord_114
        rw [gg_t T1.1, lt_eq]
        rfl
      | succ d ih =>
        intro x hx al
        obtain ⟨c1, c2⟩ := by1 (j + x) (by omega)
        obtain ⟨w1, w2, w3⟩ := wcN_b k hk x (by omega)
        have st : BX10_takeWord_79 h4 3 k (nI (j + sN k)) (nI (j + x)) = if b (j + x) = wcN k x then some (.inl (nI (j + (x + 1)))) else some (.inr (nI 0, h4)) := by
          unfold BX10_takeWord_79
          simp only [ZL]
          rw [if_neg (nI_ge (by omega) (by omega)), gg_t T1.1, T1.2.1, gg_t T1.2.2.2.2.1, T1.2.2.2.2.2.1, gg_in (by omega) (by omega), gg_t bt, a2, nSub (by omega), show j + x - j = x by omega, gg_in (by omega) (by omega), nCl (by omega), c1, w1, nAdd]
          by_cases z : b (j + x) = wcN k x
          · rw [if_pos ((bS_q _ (by omega) _ (by omega)).mpr z), if_pos z]
            rfl
          · rw [if_neg (fun w => z ((bS_q _ (by omega) _ (by omega)).mp w)), if_neg z]
        by_cases z : b (j + x) = wcN k x
        · rw [if_pos z] at st
          rw [it_next (s' := nI (j + (x + 1))) st]
          exact ih (x + 1) (by omega) (fun i hi => by
            by_cases y : i = x
            · rw [y]; exact z
            · exact al i (by omega))
        · rw [if_neg z] at st
          rw [it_done st, if_neg (fun w => z (w x (by omega)))]
    unfold MX10_takeWord_79
    exact K (sN k) 0 (Nat.zero_add _) (fun i hi => absurd hi (by omega))
  have w58 : ∀ s : Int32, (s = nI 0 ∨ s = nI 1) → (e < j + sN k ∨ s = nI 1 → MX10_takeWord_58 h4 3 k (nI (j + sN k)) s = some (nI 0, h4)) ∧ (j + sN k ≤ e → s = nI 0 → MX10_takeWord_58 h4 3 k (nI (j + sN k)) s = MX10_takeWord_79 h4 3 k (nI (j + sN k)) (nI j)) := fun s hs => by
    unfold MX10_takeWord_58
    simp only [ZL]
    rw [gg_t T1.1, e1, a2]
    refine ⟨fun z => ?_, fun z1 z2 => ?_⟩
    · by_cases y : e < j + sN k
      · rw [if_pos (nI_lt y (by omega))]
      · have := z.resolve_left y
        rw [if_neg (nI_nlt (by omega) (by omega)), if_neg (by rw [this]; decide)]
    · rw [if_neg (nI_nlt z1 (by omega)), if_pos z2]
  have pre : MX10_takeWord h 3 k = if j + sN k < e ∧ lB (b (j + sN k)) = true then MX10_takeWord_58 h4 3 k (nI (j + sN k)) (nI 1) else MX10_takeWord_58 h4 3 k (nI (j + sN k)) (nI 0) := by
    unfold MX10_takeWord MX10_takeWord_57
    simp only [ZL]
    rw [gg_t t1, t3, gg_t t7, ha, t8, gg_in (by omega) (by omega), nCl (by omega), t12 a ae, ← hj, lt_eq, ← hh4, gg_t bt, e1, a2]
    unfold sLen
    rw [nAdd]
    by_cases z : e ≤ j + sN k
    · rw [if_pos (nI_le z (by omega)), if_neg (fun w => by omega)]
    · obtain ⟨c1, c2⟩ := by1 (j + sN k) (by omega)
      rw [if_neg (nI_ge (by omega) (by omega)), t2, gg_t t5, t6, gg_in (by omega) (by omega), nCl (by omega), c1]
      have l : (if bS (b (j + sN k)) < nI 97 then (nI 0 : Int32) else if nI 122 < bS (b (j + sN k)) then nI 0 else nI 1) = bI (lB (b (j + sN k))) := bS_l (b (j + sN k)) (by omega)
      cases lb : lB (b (j + sN k)) with
      | true =>
        rw [lb] at l
        have yy : j + sN k < e ∧ true = true := ⟨by omega, rfl⟩
        rw [if_pos yy]
        by_cases y1 : bS (b (j + sN k)) < nI 97
        · rw [if_pos y1] at l; exact absurd l (by decide)
        · rw [if_neg y1] at l
          by_cases y2 : nI 122 < bS (b (j + sN k))
          · rw [if_pos y2] at l; exact absurd l (by decide)
          · rw [if_neg y1, if_neg y2]
      | false =>
        rw [lb] at l
        have yy : ¬ (j + sN k < e ∧ false = true) := fun w => Bool.noConfusion w.2
        rw [if_neg yy]
        by_cases y1 : bS (b (j + sN k)) < nI 97
        · rw [if_pos y1]
        · rw [if_neg y1] at l
          by_cases y2 : nI 122 < bS (b (j + sN k))
          · rw [if_neg y1, if_pos y2]
          · rw [if_neg y2] at l; exact absurd l (by decide)
  rw [pre]
  by_cases w : WdP b e k j
  · obtain ⟨w1, w2, w3⟩ := id w
    rw [wd_t w, if_pos rfl, if_neg (fun y => by rw [w3 y.1] at y; exact Bool.noConfusion y.2), (w58 (nI 0) (Or.inl rfl)).2 w1 rfl, loop w1, if_pos w2, hh4, sI_sI]
    rfl
  · rw [wd_f w, if_neg (show ¬ (false = true) by decide), ← hh4]
    by_cases y : j + sN k < e ∧ lB (b (j + sN k)) = true
    · rw [if_pos y, (w58 (nI 1) (Or.inr rfl)).1 (Or.inr rfl)]
      rfl
    · rw [if_neg y]
      by_cases y2 : j + sN k ≤ e
      · rw [(w58 (nI 0) (Or.inl rfl)).2 y2 rfl, loop y2, if_neg (fun v => w ⟨y2, v, fun u => by
          cases lb : lB (b (j + sN k)) with
          | true => exact absurd ⟨u, lb⟩ y
          | false => rfl⟩)]
        rfl
      · rw [(w58 (nI 0) (Or.inl rfl)).1 (Or.inl (by omega))]
        rfl
end
