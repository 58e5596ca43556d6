/-! a part is set: the reference -/
def seW (m : Nat → Int32) (q : Nat) (c : Nat → Nat) (n : Nat) : Nat → Int32 := fun y => if 130 + 645 * q + 5 ≤ y ∧ y < 130 + 645 * q + 5 + n then nI (c (y - (130 + 645 * q + 5) + 1) - 1) else if 130 + 645 * q + 45 ≤ y ∧ y < 130 + 645 * q + 45 + n then nI 0 else m y
noncomputable def seF (m : Nat → Int32) (q n k : Nat) : Nat → Int32 := va_up (seW (va_up (va_up m (130 + 645 * q + 3) (nI 1)) (130 + 645 * q + 4) (nI n)) q (lnC m q) n) (320230 + 183 * k + 35) (nI n)
section
variable {h h1 : Hp} {m M kk t : Nat → Int32} {ii f u : Int32} {k q n : Nat} {c : Nat → Nat}
theorem seW_0 : seW m q c 0 = m := by
  funext y
  unfold seW
  rw [if_neg (by omega), if_neg (by omega)]
theorem seW_s (hn : n < 40) : va_up (va_up (seW m q c n) (130 + 645 * q + 5 + n) (nI (c (n + 1) - 1))) (130 + 645 * q + 45 + n) (nI 0) = seW m q c (n + 1) := by
  funext y
  rw [up_at, up_at]
  unfold seW
  by_cases z : y = 130 + 645 * q + 45 + n
  · rw [if_pos z, if_neg (by omega), if_pos (by omega)]
  · rw [if_neg z]
    by_cases z2 : y = 130 + 645 * q + 5 + n
    · rw [if_pos z2, if_pos (by omega), z2, Nat.add_sub_cancel_left]
    · rw [if_neg z2]
      by_cases v : 130 + 645 * q + 5 ≤ y ∧ y < 130 + 645 * q + 5 + n
      · rw [if_pos v, if_pos (by omega)]
      · rw [if_neg v]
        by_cases v2 : 130 + 645 * q + 45 ≤ y ∧ y < 130 + 645 * q + 45 + n
        · rw [if_pos v2, if_neg (by omega), if_pos (by omega)]
        · rw [if_neg v2, if_neg (by omega), if_neg (by omega)]
theorem r_155 (R : RSt h m kk ii t u f) (hk : k < 4) (hq : q < 100) {e : Nat} (he : e ≤ 1) (e4 : m (320230 + 183 * k + 37) = nI e) : ∃ h2, MX12_runsOn_155 h 73 (nI k) (nI (320230 + 183 * k)) (nI (320230 + 183 * k + 33)) (nI q) (nI (130 + 645 * q)) = MX12_runsOn_184 h2 73 (nI k) (nI (320230 + 183 * k)) (nI (320230 + 183 * k + 33)) (nI q) (nI (130 + 645 * q)) ∧ Fr (fun b => b = 74) h h2 ∧ RSt h2 (if e = 1 then va_up m (320230 + 183 * k + 35) (m (130 + 645 * q + 4)) else m) kk ii t u f := by
  have g4 : gI h 74 (320230 + 183 * k + 37) = nI e := by rw [R.2.1]; exact e4
  have pre : MX12_runsOn_155 h 73 (nI k) (nI (320230 + 183 * k)) (nI (320230 + 183 * k + 33)) (nI q) (nI (130 + 645 * q)) = if nI e = nI 1 then MX12_runsOn_184 (sI h 74 (320230 + 183 * k + 35) (m (130 + 645 * q + 4))) 73 (nI k) (nI (320230 + 183 * k)) (nI (320230 + 183 * k + 33)) (nI q) (nI (130 + 645 * q)) else MX12_runsOn_184 h 73 (nI k) (nI (320230 + 183 * k)) (nI (320230 + 183 * k + 33)) (nI q) (nI (130 + 645 * q)) := by
    unfold MX12_runsOn_155
    simp only [ZL, nAdd]
    rw [gg_t (RS.f R.1).1, (RS.f R.1).2.1, gg_t (RS.f R.1).2.2.1, (RS.f R.1).2.2.2.1, gg_in (by omega) (by omega), nCl (by omega), show 320230 + 183 * k + 33 + 4 = 320230 + 183 * k + 37 by omega, g4, gg_in (by omega) (by omega), gg_in (by omega) (by omega), lt_eq, nCl (by omega), nCl (by omega), R.2.1]
  rw [pre]
  rcases (show e = 0 ∨ e = 1 by omega) with z | z
  · subst z
    rw [if_neg (by decide), if_neg (by decide)]
    exact ⟨h, rfl, Fr.rfl, R⟩
  · subst z
    rw [if_pos rfl, if_pos rfl]
    exact ⟨_, rfl, f74, R.m1⟩
theorem r_setp (R : RSt h m kk ii t u f) (I : MI m) (Z : StM m) (vq : vP m q) (u3 : m (130 + 645 * q + 3) = nI 0) (hk : k < Nn m 3) (hj : 1 ≤ Nn m (320230 + 183 * k + 29)) (J0 : m (320230 + 183 * k + 33) = nI q) : (wyT m q (m 0) 0 = none → ∃ h2, MX12_runsOn h 73 (nI k) = Option.bind (MX12_spikes h2 73 (nI k)) (fun h123 => some h123) ∧ Fr Rm h h2 ∧ RSt h2 m kk ii t u f ∧ gI h2 73 0 = gI h 73 0) ∧ ∀ v, wyT m q (m 0) 0 = some v → ∃ h2, MX12_runsOn h 73 (nI k) = MX12_runsOn_184 h2 73 (nI k) (nI (320230 + 183 * k)) (nI (320230 + 183 * k + 33)) (nI q) (nI (130 + 645 * q)) ∧ Fr Rm h h2 ∧ RSt h2 (seF m q v.2.1 k) kk ii t u f ∧ Se m (seF m q v.2.1 k) q v.2.1 k (lnC m q) ∧ gI h2 73 0 = gI h 73 0 := by
  obtain ⟨fk, d2, d3, jq⟩ := se_j I vq u3 hk hj J0
  have vb := vq.1
  have f3 := I.1.f.2.2.2.1.2
  have J := I.2.1 q vq
  obtain ⟨-, j40, j1⟩ := J.n
  obtain ⟨h1, a1, a2, a3, a4⟩ := r_work R.1 R.2.1 I.w Z vq J (m 0)
  have R1 := a2.st R
  have g33 : gI h 74 (320230 + 183 * k + 33) = nI q := by rw [R.2.1]; exact J0
  have g3 : gI h 74 (130 + 645 * q + 3) = nI 0 := by rw [R.2.1]; exact u3
  have g0 : gI h 74 0 = m 0 := by rw [R.2.1]
  obtain ⟨D, hD⟩ : ∃ D, D = wyT m q (m 0) := ⟨_, rfl⟩
  rw [← hD] at a4
  have eP87 : gP h1 73 31 = 87 ∧ kd h1 87 = 20 ∧ ln h1 87 = 41 ∧ gP h1 73 32 = 88 ∧ kd h1 88 = 20 ∧ ln h1 88 = 41 := by
    refine ⟨?_, ?_, ?_, ?_, ?_, ?_⟩ <;> simp only [RS.f R1.1]
  obtain ⟨x1, x2, x3, x4, x5, x6⟩ := eP87
  have pre : MX12_runsOn h 73 (nI k) = if enBd (D 0) = -nI 1 then Option.bind (MX12_spikes h1 73 (nI k)) (fun h123 => some h123) else MX12_runsOn_96 (sI (sI h1 74 (130 + 645 * q + 3) (nI 1)) 74 (130 + 645 * q + 4) (gI h1 88 0)) 73 (nI k) (nI (320230 + 183 * k)) (nI (320230 + 183 * k + 33)) (nI q) (nI (130 + 645 * q)) (nI 0) (nI 0) := by
    unfold MX12_runsOn
    simp only [ZL]
    rw [r_machine0, ob_some, gg_t (RS.f R.1).1, (RS.f R.1).2.1, gg_t (RS.f R.1).2.2.1, (RS.f R.1).2.2.2.1, nAdd, gg_in (by omega) (by omega), nCl (by omega), g33, r_part0, ob_some, nAdd, gg_in (by omega) (by omega), nCl (by omega), g3, if_pos rfl, gg_in (by omega) (by omega), nCl (by omega), g0, a1, ob_some, gg_t (RS.f R1.1).1, x1, gg_t x2, x3, gg_in (by omega) (by omega), (a4 0 (by omega) (by omega)).1]
    by_cases z : enBd (D 0) = -nI 1
    · rw [if_pos z, if_pos z]
    · rw [if_neg z, if_neg z, (RS.f R1.1).2.1, gg_t (RS.f R1.1).2.2.1, (RS.f R1.1).2.2.2.1, gg_in (by omega) (by omega), lt_eq, x4, gg_t x5, x6, gg_in (by omega) (by omega), nAdd, gg_in (by omega) (by omega), lt_eq, nCl (by omega)]
      have : gI (sI h1 74 (130 + 645 * q + 3) (nI 1)) 88 0 = gI h1 88 0 := by rw [gI_sI, if_neg (show ¬ 88 = 74 by omega)]
      rw [this]
  have FR := rk_fm a2
  refine ⟨fun hz => ?_, fun v hv => ?_⟩
  · rw [← hD] at hz
    rw [hz, if_pos (show enBd none = -nI 1 from rfl)] at pre
    exact ⟨h1, pre, FR, R1, a2.2.1⟩
  · obtain ⟨l1, l2, l3, l4, l5, l6⟩ := lnC_f I vq hv
    rw [← hD] at hv
    have yb := wyD_b (ps_q (q := q) I.w (m 0)) J (Nat.zero_le _) (show wyD m q (pme m q (m 0)) (ple m q (m 0)) (pmo m q (m 0)) (pco m q (m 0)) 0 = some v by rw [← hv, hD]; rfl)
    have e88 : gI h1 88 0 = nI v.2.1 := ((a4 0 (by omega) (by omega)).2 v hv).1
    rw [hv, if_neg (by rw [show enBd (some v) = nI v.1 from rfl, nM6 (by omega)]; exact id), e88] at pre
    unfold seF
    obtain ⟨n, hn⟩ : ∃ n, n = v.2.1 := ⟨_, rfl⟩
    rw [← hn] at l1 l2 l4 l5 pre ⊢
    obtain ⟨C, hC⟩ : ∃ C, C = lnC m q := ⟨_, rfl⟩
    rw [← hC] at l3 l4 l5 ⊢
    obtain ⟨z0, hz0⟩ : ∃ z0, z0 = sI (sI h1 74 (130 + 645 * q + 3) (nI 1)) 74 (130 + 645 * q + 4) (nI n) := ⟨_, rfl⟩
    rw [← hz0] at pre
    obtain ⟨m0, hm0⟩ : ∃ m0, m0 = va_up (va_up m (130 + 645 * q + 3) (nI 1)) (130 + 645 * q + 4) (nI n) := ⟨_, rfl⟩
    rw [← hm0]
    have R0 : RSt z0 m0 kk ii t u f := by rw [hz0, hm0]; exact R1.m1.m1
    have F0 : Fr (fun b => b = 74) h1 z0 := by rw [hz0]; exact f74.trans f74
    have go : ∀ d j, j + d = n → ∀ z, Fr (fun b => b = 74) h1 z → RSt z (seW m0 q C j) kk ii t u f → ∃ z2, it (fun q' : Int32 × Int32 × Hp => BX12_runsOn_96 q'.2.2 73 (nI k) (nI (320230 + 183 * k)) (nI (320230 + 183 * k + 33)) (nI q) (nI (130 + 645 * q)) q'.1 q'.2.1) (nI (C j), nI j, z) = MX12_runsOn_155 z2 73 (nI k) (nI (320230 + 183 * k)) (nI (320230 + 183 * k + 33)) (nI q) (nI (130 + 645 * q)) ∧ Fr (fun b => b = 74) h1 z2 ∧ RSt z2 (seW m0 q C n) kk ii t u f := by
      intro d
      induction d with
      | zero =>
        intro j hj z Fz Rz
        have hj : j = n := hj
        subst hj
        refine ⟨z, ?_, Fz, Rz⟩
        have z4 : gI z 74 (130 + 645 * q + 4) = nI j := by
          rw [Rz.2.1]
          unfold seW
          rw [if_neg (by omega), if_neg (by omega), hm0, up_at, if_pos rfl]
        have e0 : BX12_runsOn_96 z 73 (nI k) (nI (320230 + 183 * k)) (nI (320230 + 183 * k + 33)) (nI q) (nI (130 + 645 * q)) (nI (C j)) (nI j) = up1 (MX12_runsOn_155 z 73 (nI k) (nI (320230 + 183 * k)) (nI (320230 + 183 * k + 33)) (nI q) (nI (130 + 645 * q))) := by
          unfold BX12_runsOn_96
          simp only [ZL, nAdd]
          rw [gg_t (RS.f Rz.1).1, (RS.f Rz.1).2.1, gg_t (RS.f Rz.1).2.2.1, (RS.f Rz.1).2.2.2.1, gg_in (by omega) (by omega), nCl (by omega), z4, if_pos (nI_le (Nat.le_refl _) (by omega))]
        rw [it_eq]
        show (match BX12_runsOn_96 z 73 (nI k) (nI (320230 + 183 * k)) (nI (320230 + 183 * k + 33)) (nI q) (nI (130 + 645 * q)) (nI (C j)) (nI j) with | _ => _) = _
        rw [e0]
        cases MX12_runsOn_155 z 73 (nI k) (nI (320230 + 183 * k)) (nI (320230 + 183 * k + 33)) (nI q) (nI (130 + 645 * q)) <;> rfl
      | succ d ih =>
        intro j hj z Fz Rz
        have hjn : j < n := by omega
        obtain ⟨q1, q2, w, w1, w2⟩ := l5 j hjn
        have z4 : gI z 74 (130 + 645 * q + 4) = nI n := by
          rw [Rz.2.1]
          unfold seW
          rw [if_neg (by omega), if_neg (by omega), hm0, up_at, if_pos rfl]
        have z89 : gI z 89 (C j) = nI (C (j + 1)) := by
          rw [Fz.2.2.2.2.2.2 _ (show ¬ 89 = 74 by omega)]
          have := ((a4 (C j) (by omega) (by omega)).2 w (by rw [hD]; exact w1)).2 (by omega)
          rw [this, w2]
        have k89 : gP z 73 33 = 89 ∧ kd z 89 = 20 ∧ ln z 89 = 41 := by
          refine ⟨?_, ?_, ?_⟩ <;> simp only [RS.f Rz.1]
        obtain ⟨z2, y1, y2, y3⟩ := ih (j + 1) (by omega) (sI (sI z 74 (130 + 645 * q + 5 + j) (nI (C (j + 1) - 1))) 74 (130 + 645 * q + 45 + j) (nI 0)) (Fz.trans (f74.trans f74)) (by rw [← seW_s (by omega)]; exact Rz.m1.m1)
        refine ⟨z2, ?_, y2, y3⟩
        rw [← y1]
        refine it_next ?_
        show BX12_runsOn_96 z 73 (nI k) (nI (320230 + 183 * k)) (nI (320230 + 183 * k + 33)) (nI q) (nI (130 + 645 * q)) (nI (C j)) (nI j) = _
        unfold BX12_runsOn_96
        simp only [ZL, nAdd]
        rw [gg_t (RS.f Rz.1).1, (RS.f Rz.1).2.1, gg_t (RS.f Rz.1).2.2.1, (RS.f Rz.1).2.2.2.1, gg_in (by omega) (by omega), nCl (by omega), z4, if_neg (nI_ge hjn (by omega)), k89.1, gg_t k89.2.1, k89.2.2, gg_in (by omega) (by omega), nCl (by omega), nCl (by omega), z89, nSub (by omega), gg_in (by omega) (by omega), lt_eq, gg_in (by omega) (by omega), lt_eq, nCl (by omega)]
    obtain ⟨z2, y1, y2, y3⟩ := go n 0 (by omega) z0 F0 (by rw [seW_0]; exact R0)
    rw [l3] at y1
    have s37 : seW m0 q C n (320230 + 183 * k + 37) = nI 1 := by
      unfold seW
      rw [if_neg (by omega), if_neg (by omega), hm0, up_at, if_neg (by omega), up_at, if_neg (by omega)]
      exact fk
    obtain ⟨z3, v1, v2, v3⟩ := r_155 (k := k) (q := q) y3 (by omega) vb (Nat.le_refl 1) s37
    rw [if_pos rfl] at v3
    have s4 : seW m0 q C n (130 + 645 * q + 4) = nI n := by
      unfold seW
      rw [if_neg (by omega), if_neg (by omega), hm0, up_at, if_pos rfl]
    rw [s4] at v3
    have W : ∀ y, y ≠ 320230 + 183 * k + 35 → va_up (seW m0 q C n) (320230 + 183 * k + 35) (nI n) y = seW m0 q C n y := fun y hy => by rw [up_at, if_neg hy]
    refine ⟨z3, ?_, (FR.trans (f74_rc y2)).trans (f74_rc v2), v3, ⟨fun y h1 h2 => ?_, ?_, ?_, fun j hj => ⟨?_, ?_⟩, ?_⟩, ?_⟩
    · rw [pre, ← v1, ← y1]
      unfold MX12_runsOn_96
      rfl
    · rw [W y h2]
      unfold seW
      rw [if_neg (by omega), if_neg (by omega), hm0, up_at, if_neg (by omega), up_at, if_neg (by omega)]
    · rw [W _ (by omega)]
      unfold seW
      rw [if_neg (by omega), if_neg (by omega), hm0, up_at, if_neg (by omega), up_at, if_pos rfl]
    · rw [W _ (by omega), s4]
    · rw [W _ (by omega)]
      unfold seW
      rw [if_pos (by omega), Nat.add_sub_cancel_left]
    · rw [W _ (by omega)]
      unfold seW
      rw [if_neg (by omega), if_pos (by omega)]
    · rw [up_at, if_pos rfl]
    · rw [f74_73 v2, f74_73 y2]
      exact a2.2.1
end
