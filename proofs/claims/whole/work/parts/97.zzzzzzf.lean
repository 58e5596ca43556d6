/-! style: the class reads numbers, finds what is no blank -/
section
variable {h : Hp} {b : Nat → Nat} {e a k c lo hi : Nat}
theorem bS_g : ∀ c, c < 256 → (48 ≤ c → c ≤ 57 → ¬ bS c < nI 48 ∧ ¬ nI 57 < bS c ∧ bS c = nI c) ∧ (¬ (48 ≤ c ∧ c ≤ 57) → bS c < nI 48 ∨ nI 57 < bS c) := by decide +kernel
theorem c_tkN (T : TQ h b e) (ha : gI h 3 2 = nI a) (ae : a ≤ e) (hlo : lo < 10000) (hhi : hi < 10000) : MX10_takeNumber h 3 (nI lo) (nI hi) = (match nmP b e lo hi a with | .inl j => some (-nI 1, sI (sI h 3 2 (nI j)) 3 3 (nI j)) | .inr (j, v) => some (nI v, sI h 3 2 (nI j))) := by
  have T1 := T.at (v := ik b e a)
  obtain ⟨t1, t2, t3, t4, t5, t6, t7, t8, t9, t10, t11, t12⟩ := T
  obtain ⟨j1, j2⟩ := ik_le (b := b) ae
  obtain ⟨h4, hh4⟩ : ∃ h4, h4 = sI h 3 2 (nI (ik b e a)) := ⟨_, rfl⟩
  rw [← hh4] at T1
  have a2 : gI h4 3 2 = nI (ik b e a) := by rw [hh4, gI_sI, if_pos rfl, up_at, if_pos rfl]
  unfold nmP
  obtain ⟨j, hj⟩ : ∃ j, j = ik b e a := ⟨_, rfl⟩
  rw [← hj] at a2 j1 j2 hh4 ⊢
  have e1 := T1.2.2.2.2.2.2.2.2.1
  have by1 := T1.2.2.2.2.2.2.2.2.2.2.1
  obtain ⟨n, hn⟩ : ∃ n, n = dg b e j := ⟨_, rfl⟩
  have nle := dg_le (b := b) j2
  have nd : ∀ x, x < n → 48 ≤ b (j + x) ∧ b (j + x) ≤ 57 := fun x hx => dgF_d (e - j) j x (by rw [hn] at hx; exact hx)
  have nn : j + n < e → ¬ (48 ≤ b (j + n) ∧ b (j + n) ≤ 57) := fun hx => by
    have := dgF_n (b := b) (e - j) j (by rw [hn] at hx; unfold dg at hx; omega)
    rw [hn]
    exact this
  rw [← hn] at nle ⊢
  have end91 : ∀ w : Int32, MX10_takeNumber_91 h4 3 (nI lo) (nI hi) w (nI (j + n)) = if n = 0 ∨ 4 < n then some (-nI 1, sI h4 3 3 (nI j)) else if w < nI lo then some (-nI 1, sI h4 3 3 (nI j)) else if w ≤ nI hi then some (w, sI h4 3 2 (nI (j + n))) else some (-nI 1, sI h4 3 3 (nI j)) := fun w => by
    have e121 : MX10_takeNumber_121 h4 3 = some (-nI 1, sI h4 3 3 (nI j)) := by
      unfold MX10_takeNumber_121
      simp only [ZL]
      rw [gg_t T1.1, a2, lt_eq]
    unfold MX10_takeNumber_91
    simp only [ZL]
    rw [gg_t T1.1, a2, e121, nSub (by omega), show j + n - j = n by omega, lt_eq]
    by_cases z : n = 0
    · rw [if_pos (by rw [z, Nat.add_zero]), if_pos (Or.inl z)]
    · rw [if_neg (by rw [nEq (by omega) (by omega)]; omega)]
      by_cases y : 4 < n
      · rw [if_pos (nI_lt y (by omega)), if_pos (Or.inr y)]
      · rw [if_neg (nI_nlt (by omega) (by omega)), if_neg (show ¬ (n = 0 ∨ 4 < n) by omega)]
  have K : ∀ d x, x + d = n → it (fun s : Int32 × Int32 => BX10_takeNumber_21 h4 3 (nI lo) (nI hi) s.1 s.2) (nI (if x ≤ 4 then vlF b j x else 0), nI (j + x)) = MX10_takeNumber_91 h4 3 (nI lo) (nI hi) (nI (if n ≤ 4 then vlF b j n else 0)) (nI (j + n)) := fun d => by
    induction d with
    | zero =>
      intro x hx
      have hx : x = n := hx
      subst hx
      refine it_u1 ?_
      show BX10_takeNumber_21 h4 3 (nI lo) (nI hi) _ (nI (j + x)) = _
      unfold BX10_takeNumber_21
      simp only [ZL]
      rw [gg_t T1.1, e1]
      by_cases z : e ≤ j + x
      · rw [if_pos (nI_le z (by omega))]
      · obtain ⟨c1, c2⟩ := by1 (j + x) (by omega)
        rw [if_neg (nI_ge (by omega) (by omega)), T1.2.1, gg_t T1.2.2.2.2.1, T1.2.2.2.2.2.1, gg_in (by omega) (by omega), nCl (by omega), c1]
        rcases (bS_g (b (j + x)) (by omega)).2 (nn (by omega)) with y | y
        · rw [if_pos y]
        · by_cases y2 : bS (b (j + x)) < nI 48
          · rw [if_pos y2]
          · rw [if_neg y2, if_pos y]
    | succ d ih =>
      intro x hx
      obtain ⟨c1, c2⟩ := by1 (j + x) (by omega)
      obtain ⟨d1, d2⟩ := nd x (by omega)
      obtain ⟨g1, g2, g3⟩ := (bS_g (b (j + x)) (by omega)).1 d1 d2
      have st : BX10_takeNumber_21 h4 3 (nI lo) (nI hi) (nI (if x ≤ 4 then vlF b j x else 0)) (nI (j + x)) = some (.inl (nI (if x + 1 ≤ 4 then vlF b j (x + 1) else 0), nI (j + (x + 1)))) := by
        unfold BX10_takeNumber_21 MX10_takeNumber_84
        simp only [ZL]
        rw [gg_t T1.1, e1, if_neg (nI_ge (by omega) (by omega)), T1.2.1, gg_t T1.2.2.2.2.1, T1.2.2.2.2.2.1, gg_in (by omega) (by omega), nCl (by omega), c1, if_neg g1, if_neg g2, a2, nSub (by omega), show j + x - j = x by omega, nAdd]
        by_cases y : 4 ≤ x
        · rw [if_pos (nI_le y (by omega)), if_neg (show ¬ x + 1 ≤ 4 by omega)]
          rfl
        · rw [if_neg (nI_ge (by omega) (by omega)), if_pos (show x + 1 ≤ 4 by omega), if_pos (show x ≤ 4 by omega), g3, nMul, nAdd, nSub (by omega)]
          show some (Sum.inl (nI (10 * vlF b j x + b (j + x) - 48), nI (j + x + 1))) = some (Sum.inl (nI (10 * vlF b j x + (b (j + x) - 48)), nI (j + x + 1)))
          rw [show 10 * vlF b j x + b (j + x) - 48 = 10 * vlF b j x + (b (j + x) - 48) by omega]
      rw [it_next (s' := (nI (if x + 1 ≤ 4 then vlF b j (x + 1) else 0), nI (j + (x + 1)))) st]
      exact ih (x + 1) (by omega)
  have k0 := K n 0 (Nat.zero_add _)
  rw [end91] at k0
  have pre : MX10_takeNumber h 3 (nI lo) (nI hi) = it (fun s : Int32 × Int32 => BX10_takeNumber_21 h4 3 (nI lo) (nI hi) s.1 s.2) (nI (if 0 ≤ 4 then vlF b j 0 else 0), nI (j + 0)) := by
    unfold MX10_takeNumber MX10_takeNumber_21
    simp only [ZL]
    rw [gg_t t1, t3, gg_t t7, ha, t8, gg_in (by omega) (by omega), nCl (by omega), t12 a ae, ← hj, lt_eq, ← hh4, a2]
    rfl
  rw [pre, k0]
  by_cases z : n = 0 ∨ 4 < n
  · rw [if_pos z, if_neg (by omega), hh4]
  · rw [if_neg z, if_pos (show n ≤ 4 by omega)]
    have vb := (vl_b (b := b) (i := j) n (fun x hx => (nd x hx).2) (by omega)).1
    by_cases y : vlF b j n < lo
    · rw [if_pos (nI_lt y (by omega)), if_neg (by omega), hh4]
    · rw [if_neg (nI_nlt (by omega) (by omega))]
      by_cases x : vlF b j n ≤ hi
      · rw [if_pos (nI_le x (by omega)), if_pos (by omega), hh4, sI_sI]
      · rw [if_neg (nI_ge (by omega) (by omega)), if_neg (by omega), hh4]
/-- what is no blank -/
theorem c_ink (t1 : kd h 3 = 9) (t2 : gP h 3 0 = 2) (t3 : gP h 3 4 = 4) (t5 : kd h 2 = 21) (t6 : ln h 2 = 400) (t7 : kd h 4 = 20) (t8 : ln h 4 = 401) (t9 : gI h 3 1 = nI e) (t10 : e ≤ 400) (t11 : ∀ i, i < e → gI h 2 i = bS (b i) ∧ b i ≤ 255) : ∃ h', MX10_findInk h 3 = some h' ∧ Fr (fun y => y = 4) h h' ∧ ∀ i, i ≤ e → gI h' 4 i = nI (ik b e i) := by
  have K : ∀ d z, d ≤ e → Fr (fun y => y = 4) h z → (∀ i, d ≤ i → i ≤ e → gI z 4 i = nI (ik b e i)) → ∃ h', it (fun s : Int32 × Hp => BX10_findInk_20 s.2 3 s.1) (lV d, z) = some h' ∧ Fr (fun y => y = 4) h h' ∧ ∀ i, i ≤ e → gI h' 4 i = nI (ik b e i) := fun d => by
    induction d with
    | zero =>
      intro z _ F A
      refine ⟨z, it_done ?_, F, fun i hi => A i (Nat.zero_le _) hi⟩
      show BX10_findInk_20 z 3 (lV 0) = _
      unfold BX10_findInk_20
      rw [if_pos (by decide)]
    | succ d ih =>
      intro z hd F A
      obtain ⟨c1, c2⟩ := t11 d (by omega)
      have e2 : gI z 2 = gI h 2 := F.2.2.2.2.2.2 2 (by decide)
      have eP : gP z = gP h := F.2.2.1
      have st : BX10_findInk_20 z 3 (lV (d + 1)) = some (.inl (lV d, sI z 4 d (nI (ik b e d)))) := by
        unfold BX10_findInk_20 MX10_findInk_52
        simp only [ZL]
        rw [lV_p (by omega), Nat.add_sub_cancel, if_neg (show ¬ nI d < nI 0 from nI_pos (by omega)), F.1, F.2.1, eP, gg_t t1, t2, gg_t t5, t6, gg_in (by omega) (by omega), nCl (by omega), e2, c1, t3, gg_t t7, t8, nAdd, gg_in (by omega) (by omega), gg_t t7, gg_in (by omega) (by omega), nCl (by omega), A (d + 1) (Nat.le_refl _) (by omega), lt_eq, lt_eq]
        have ev : nI d + -nI 1 = lV d := by
          by_cases w : d = 0
          · rw [w]; decide
          · rw [lV_p w, ← Int32.sub_eq_add_neg, nSub (by omega)]
        by_cases y : b d = 32
        · rw [if_pos ((bS_q _ (by omega) 32 (by omega)).mpr y), ik_s (by omega) y, ev]
        · rw [if_neg (fun w => y ((bS_q _ (by omega) 32 (by omega)).mp w)), ik_n (by omega) y, ev, gg_t t7, gg_in (by omega) (by omega)]
      rw [it_next (s' := (lV d, sI z 4 d (nI (ik b e d)))) st]
      exact ih _ (by omega) (F.trans (Fr.sI (S := fun y => y = 4) rfl)) (fun i h1 h2 => by
        rw [gI_sI, if_pos rfl, up_at]
        by_cases w : i = d
        · rw [if_pos w, w]
        · rw [if_neg w]; exact A i (by omega) h2)
  obtain ⟨z, hz⟩ : ∃ z, z = sI h 4 e (nI e) := ⟨_, rfl⟩
  have Fz : Fr (fun y => y = 4) h z := by rw [hz]; exact Fr.sI (S := fun y => y = 4) rfl
  obtain ⟨h', k1, k2⟩ := K e z (Nat.le_refl _) Fz (fun i h1 h2 => by
    have : i = e := by omega
    rw [hz, gI_sI, if_pos rfl, up_at, if_pos this, this, ik_e])
  refine ⟨h', ?_, k2⟩
  unfold MX10_findInk MX10_findInk_20
  simp only [ZL]
  rw [gg_t t1, t3, gg_t t7, t9, t8, gg_in (by omega) (by omega), nCl (by omega), lt_eq, ← hz, show gI z 3 1 = nI e by rw [hz, gI_sI, if_neg (by decide)]; exact t9]
  have ev : nI e - nI 1 = lV e := by
    by_cases w : e = 0
    · rw [w]; decide
    · rw [lV_p w, nSub (by omega)]
  rw [ev]
  exact k1
end
