/-! a minute begins: the reference -/
def shW (m : Nat → Int32) (n : Nat) : Nat → Int32 := fun y => if 337180 ≤ y ∧ y < 337180 + n then m (y + 5) else m y
def roW (m : Nat → Int32) (b n : Nat) : Nat → Int32 := fun y => if b + 1 ≤ y ∧ y < b + 1 + n then -nI 1 else m y
def hdB (m : Nat → Int32) : Nat → Int32 := if Nn m 7 = 8 then va_up (shW (va_up m 0 (nI (Nn m 0 + 1))) 35) 7 (nI 7) else va_up m 0 (nI (Nn m 0 + 1))
def hdM (m : Nat → Int32) : Nat → Int32 := va_up (roW (va_up (hdB m) (337180 + 5 * min 7 (Nn m 7)) (nI (Nn m 0 + 1))) (337180 + 5 * min 7 (Nn m 7)) 4) 7 (nI (min 7 (Nn m 7) + 1))
section
variable {h h1 : Hp} {m M kk t : Nat → Int32} {ii f u : Int32} {d e n b : Nat}
theorem shW_0 : shW m 0 = m := by
  funext y
  unfold shW
  rw [if_neg (by omega)]
theorem shW_s : va_up (shW m n) (337180 + n) (m (337180 + n + 5)) = shW m (n + 1) := by
  funext y
  rw [up_at]
  unfold shW
  by_cases z : y = 337180 + n
  · rw [if_pos z, if_pos (by omega), z]
  · rw [if_neg z]
    by_cases v : 337180 ≤ y ∧ y < 337180 + n
    · rw [if_pos v, if_pos (by omega)]
    · rw [if_neg v, if_neg (by omega)]
theorem roW_0 : roW m b 0 = m := by
  funext y
  unfold roW
  rw [if_neg (by omega)]
theorem roW_s : va_up (roW m b n) (b + (n + 1)) (-nI 1) = roW m b (n + 1) := by
  funext y
  rw [up_at]
  unfold roW
  by_cases z : y = b + (n + 1)
  · rw [if_pos z, if_pos (by omega)]
  · rw [if_neg z]
    by_cases v : b + 1 ≤ y ∧ y < b + 1 + n
    · rw [if_pos v, if_pos (by omega)]
    · rw [if_neg v, if_neg (by omega)]
theorem hdM_hd (h8 : Nn m 7 ≤ 8) : Hd m (hdM m) (min 7 (Nn m 7)) (if Nn m 7 = 8 then 1 else 0) := by
  obtain ⟨dd, hd⟩ : ∃ dd, dd = min 7 (Nn m 7) := ⟨_, rfl⟩
  unfold hdM
  rw [← hd]
  have d7 : dd ≤ 7 := by omega
  have B0 : hdB m 0 = nI (Nn m 0 + 1) := by
    unfold hdB shW
    by_cases z : Nn m 7 = 8
    · rw [if_pos z, up_at, if_neg (by omega), if_neg (by omega), up_at, if_pos rfl]
    · rw [if_neg z, up_at, if_pos rfl]
  have Bo : ∀ y, y ≠ 0 → y ≠ 7 → (y < 337180 ∨ 337220 ≤ y) → hdB m y = m y := fun y h1 h2 h3 => by
    unfold hdB shW
    by_cases z : Nn m 7 = 8
    · rw [if_pos z, up_at, if_neg h2, if_neg (by omega), up_at, if_neg h1]
    · rw [if_neg z, up_at, if_neg h1]
  have Bs : ∀ i, i < dd → ∀ x, x < 5 → hdB m (337180 + 5 * i + x) = m (337180 + 5 * (i + (if Nn m 7 = 8 then 1 else 0)) + x) := fun i hi x hx => by
    unfold hdB shW
    by_cases z : Nn m 7 = 8
    · rw [if_pos z, if_pos z, up_at, if_neg (by omega), if_pos (by omega), up_at, if_neg (by omega)]
      exact congrArg m (by omega)
    · rw [if_neg z, if_neg z, up_at, if_neg (by omega)]
      rfl
  refine ⟨fun y h1 h2 h3 => ?_, ?_, ?_, ?_, fun k hk => ?_, fun i hi x hx => ?_⟩
  · unfold roW
    rw [up_at, if_neg h2, if_neg (by omega), up_at, if_neg (by omega)]
    exact Bo y h1 h2 h3
  · unfold roW
    rw [up_at, if_neg (by omega), if_neg (by omega), up_at, if_neg (by omega)]
    exact B0
  · rw [up_at, if_pos rfl]
  · unfold roW
    rw [up_at, if_neg (by omega), if_neg (by omega), up_at, if_pos rfl]
  · unfold roW
    rw [up_at, if_neg (by omega), if_pos (by omega)]
  · unfold roW
    rw [up_at, if_neg (by omega), if_neg (by omega), up_at, if_neg (by omega)]
    exact Bs i hi x hx
theorem r_m97 (R : RSt h m kk ii t u f) (hb : b < 337216) : ∃ h2, MX12_minute_97 h 73 (nI b) (nI 1) = MX12_minute_117 h2 73 ∧ Fr (fun y => y = 74) h h2 ∧ RSt h2 (roW m b 4) kk ii t u f := by
  have go : ∀ dd j, j + dd = 4 → ∀ z, Fr (fun y => y = 74) h z → RSt z (roW m b j) kk ii t u f → ∃ g, it (fun q : Int32 × Hp => BX12_minute_97 q.2 73 (nI b) q.1) (nI (j + 1), z) = MX12_minute_117 g 73 ∧ Fr (fun y => y = 74) h g ∧ RSt g (roW m b 4) kk ii t u f := by
    intro dd
    induction dd with
    | zero =>
      intro j hj z Fz Rz
      have hj : j = 4 := hj
      subst hj
      refine ⟨z, ?_, Fz, Rz⟩
      have e0 : BX12_minute_97 z 73 (nI b) (nI (4 + 1)) = up1 (MX12_minute_117 z 73) := by
        unfold BX12_minute_97
        simp only [ZL]
        rw [if_pos (by decide)]
      rw [it_eq]
      show (match BX12_minute_97 z 73 (nI b) (nI (4 + 1)) with | _ => _) = _
      rw [e0]
      cases MX12_minute_117 z 73 <;> rfl
    | succ dd ih =>
      intro j hj z Fz Rz
      obtain ⟨g, y1, y2⟩ := ih (j + 1) (by omega) (sI z 74 (b + (j + 1)) (-nI 1)) (Fz.trans f74) (by rw [← roW_s]; exact Rz.m1)
      refine ⟨g, ?_, y2⟩
      rw [← y1]
      refine it_next ?_
      show BX12_minute_97 z 73 (nI b) (nI (j + 1)) = _
      unfold BX12_minute_97
      simp only [ZL, nAdd]
      rw [if_neg (nI_ge (by omega) (by omega)), gg_t (RS.f Rz.1).1, (RS.f Rz.1).2.1, gg_t (RS.f Rz.1).2.2.1, (RS.f Rz.1).2.2.2.1, gg_in (by omega) (by omega), nCl (by omega), lt_eq]
  exact go 4 0 rfl h Fr.rfl (by rw [roW_0]; exact R)
theorem r_m24 (R : RSt h m kk ii t u f) : ∃ h2, MX12_minute_24 h 73 (nI 0) = MX12_minute_58 h2 73 ∧ Fr (fun y => y = 74) h h2 ∧ RSt h2 (shW m 35) kk ii t u f := by
  have go : ∀ dd j, j + dd = 35 → ∀ z, Fr (fun y => y = 74) h z → RSt z (shW m j) kk ii t u f → ∃ g, it (fun q : Int32 × Hp => BX12_minute_24 q.2 73 q.1) (nI j, z) = MX12_minute_58 g 73 ∧ Fr (fun y => y = 74) h g ∧ RSt g (shW m 35) kk ii t u f := by
    intro dd
    induction dd with
    | zero =>
      intro j hj z Fz Rz
      have hj : j = 35 := hj
      subst hj
      refine ⟨z, ?_, Fz, Rz⟩
      have e0 : BX12_minute_24 z 73 (nI 35) = up1 (MX12_minute_58 z 73) := by
        unfold BX12_minute_24
        simp only [ZL]
        rw [if_pos (by decide)]
      rw [it_eq]
      show (match BX12_minute_24 z 73 (nI 35) with | _ => _) = _
      rw [e0]
      cases MX12_minute_58 z 73 <;> rfl
    | succ dd ih =>
      intro j hj z Fz Rz
      have v5 : gI z 74 (337180 + j + 5) = m (337180 + j + 5) := by
        rw [Rz.2.1]
        unfold shW
        rw [if_neg (by omega)]
      obtain ⟨g, y1, y2⟩ := ih (j + 1) (by omega) (sI z 74 (337180 + j) (m (337180 + j + 5))) (Fz.trans f74) (by rw [← shW_s]; exact Rz.m1)
      refine ⟨g, ?_, y2⟩
      rw [← y1]
      refine it_next ?_
      show BX12_minute_24 z 73 (nI j) = _
      unfold BX12_minute_24
      simp only [ZL, nAdd]
      rw [if_neg (nI_ge (by omega) (by omega)), gg_t (RS.f Rz.1).1, (RS.f Rz.1).2.1, gg_t (RS.f Rz.1).2.2.1, (RS.f Rz.1).2.2.2.1, gg_in (by omega) (by omega), gg_in (by omega) (by omega), nCl (by omega), nCl (by omega), v5, lt_eq]
  exact go 35 0 rfl h Fr.rfl (by rw [shW_0]; exact R)
theorem r_m69 (R : RSt h m kk ii t u f) (e7 : m 7 = nI d) (d7 : d ≤ 7) : ∃ h2, MX12_minute_69 h 73 = MX12_minute_130 h2 73 (nI 0) ∧ Fr (fun y => y = 74) h h2 ∧ RSt h2 (va_up (roW (va_up m (337180 + 5 * d) (m 0)) (337180 + 5 * d) 4) 7 (nI (d + 1))) kk ii t u f := by
  have g7 : gI h 74 7 = nI d := by rw [R.2.1]; exact e7
  have g0 : gI h 74 0 = m 0 := by rw [R.2.1]
  obtain ⟨z, hz⟩ : ∃ z, z = sI h 74 (337180 + 5 * d) (m 0) := ⟨_, rfl⟩
  have Rz : RSt z (va_up m (337180 + 5 * d) (m 0)) kk ii t u f := by rw [hz]; exact R.m1
  obtain ⟨h2, y1, y2, y3⟩ := r_m97 (b := 337180 + 5 * d) Rz (by omega)
  have g72 : gI h2 74 7 = nI d := by
    rw [y3.2.1]
    unfold roW
    rw [if_neg (by omega), up_at, if_neg (by omega)]
    exact e7
  have F0 : Fr (fun y => y = 74) h z := by rw [hz]; exact f74
  refine ⟨sI h2 74 7 (nI (d + 1)), ?_, (F0.trans y2).trans f74, y3.m1⟩
  unfold MX12_minute_69
  simp only [ZL]
  rw [gg_t (RS.f R.1).1, (RS.f R.1).2.1, gg_t (RS.f R.1).2.2.1, (RS.f R.1).2.2.2.1, gg_in (by omega) (by omega), nCl (by omega), g7, nMul, nAdd, lt_eq, gg_in (by omega) (by omega), gg_in (by omega) (by omega), nCl (by omega), nCl (by omega), g0, lt_eq, ← hz, y1]
  unfold MX12_minute_117
  simp only [ZL]
  rw [gg_t (RS.f y3.1).1, (RS.f y3.1).2.1, gg_t (RS.f y3.1).2.2.1, (RS.f y3.1).2.2.2.1, gg_in (by omega) (by omega), nCl (by omega), g72, nAdd, lt_eq]
theorem r_head (R : RSt h m kk ii t u f) (I : MI m) : ∃ h2, MX12_minute h 73 = MX12_minute_130 h2 73 (nI 0) ∧ Fr (fun y => y = 74) h h2 ∧ RSt h2 (hdM m) kk ii t u f := by
  obtain ⟨g0, f0⟩ := I.1.f.1
  obtain ⟨g7, f7⟩ := I.1.f.2.2.2.2.2.2.2
  have v0 : gI h 74 0 = nI (Nn m 0) := by rw [R.2.1]; exact g0
  obtain ⟨z, hz⟩ : ∃ z, z = sI h 74 0 (nI (Nn m 0 + 1)) := ⟨_, rfl⟩
  have Rz : RSt z (va_up m 0 (nI (Nn m 0 + 1))) kk ii t u f := by rw [hz]; exact R.m1
  have F0 : Fr (fun y => y = 74) h z := by rw [hz]; exact f74
  have v7 : gI z 74 7 = nI (Nn m 7) := by rw [Rz.2.1, up_at, if_neg (by omega)]; exact g7
  have pre : MX12_minute h 73 = if nI (Nn m 7) = nI 8 then MX12_minute_24 z 73 (nI 0) else MX12_minute_69 z 73 := by
    unfold MX12_minute
    simp only [ZL]
    rw [gg_t (RS.f R.1).1, (RS.f R.1).2.1, gg_t (RS.f R.1).2.2.1, (RS.f R.1).2.2.2.1, gg_in (by omega) (by omega), nCl (by omega), v0, nAdd, lt_eq, ← hz, gg_in (by omega) (by omega), nCl (by omega), v7]
  unfold hdM hdB
  by_cases w : Nn m 7 = 8
  · obtain ⟨z2, a1, a2, a3⟩ := r_m24 Rz
    have v72 : gI z2 74 7 = nI 8 := by
      rw [a3.2.1]
      unfold shW
      rw [if_neg (by omega), up_at, if_neg (by omega), g7, w]
    obtain ⟨z3, hz3⟩ : ∃ z3, z3 = sI z2 74 7 (nI 7) := ⟨_, rfl⟩
    have R3 : RSt z3 (va_up (shW (va_up m 0 (nI (Nn m 0 + 1))) 35) 7 (nI 7)) kk ii t u f := by rw [hz3]; exact a3.m1
    have F3 : Fr (fun y => y = 74) z2 z3 := by rw [hz3]; exact f74
    obtain ⟨z4, b1, b2, b3⟩ := r_m69 (d := 7) R3 (by rw [up_at, if_pos rfl]) (by omega)
    have m00 : va_up (shW (va_up m 0 (nI (Nn m 0 + 1))) 35) 7 (nI 7) 0 = nI (Nn m 0 + 1) := by
      unfold shW
      rw [up_at, if_neg (by omega), if_neg (by omega), up_at, if_pos rfl]
    rw [m00] at b3
    refine ⟨z4, ?_, ((F0.trans a2).trans F3).trans b2, ?_⟩
    · rw [pre, if_pos (by rw [w]), a1]
      unfold MX12_minute_58
      simp only [ZL]
      rw [gg_t (RS.f a3.1).1, (RS.f a3.1).2.1, gg_t (RS.f a3.1).2.2.1, (RS.f a3.1).2.2.2.1, gg_in (by omega) (by omega), nCl (by omega), v72, nSub (by omega), lt_eq, ← hz3, b1]
    · rw [if_pos w, w]
      exact b3
  · obtain ⟨z4, b1, b2, b3⟩ := r_m69 (d := Nn m 7) Rz (by rw [up_at, if_neg (by omega)]; exact g7) (by omega)
    rw [show va_up m 0 (nI (Nn m 0 + 1)) 0 = nI (Nn m 0 + 1) by rw [up_at, if_pos rfl]] at b3
    refine ⟨z4, ?_, F0.trans b2, ?_⟩
    · rw [pre, if_neg (by rw [nEq (by omega) (by omega)]; exact w), b1]
    · rw [if_neg w, show min 7 (Nn m 7) = Nn m 7 by omega]
      exact b3
end
