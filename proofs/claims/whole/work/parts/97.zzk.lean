/-! a machine's minute, its part set: the reference -/
section
variable {h h1 : Hp} {m M kk t : Nat → Int32} {ii f u : Int32} {k q l en fr n T i o : Nat}
theorem r_step (R : RSt h m kk ii t u f) (I : MI m) (hk : k < Nn m 3) (hn : n = Nn m (320230 + 183 * k + 29)) (n1 : 1 ≤ n) (JJ : JC m k q l en fr) (e0 : m 0 = nI (T + 1)) (hT : T < 1000000) (e7 : Nn m 7 = i + 1) (hi : i < 8) (eo : m (130 + 645 * q + 45 + l) = nI o) (ho : o ≤ 300) : ∃ h2, MX12_runsOn_184 h 73 (nI k) (nI (320230 + 183 * k)) (nI (320230 + 183 * k + 33)) (nI q) (nI (130 + 645 * q)) = some h2 ∧ Fr Rm h h2 ∧ RSt h2 (oM m k n q l en fr i T o) kk ii t u f ∧ gI h2 73 0 = gI h 73 0 := by
  obtain ⟨vq, es, hl, J0, J1, J2, J3, fr1, hle, e40, J4⟩ := JJ
  obtain ⟨f4, f4'⟩ := I.1.f.2.2.2.2.1
  have f3 := I.1.f.2.2.2.1.2
  obtain ⟨f7, -⟩ := I.1.f.2.2.2.2.2.2.2
  have vb := vq.1
  obtain ⟨em4, l4⟩ := (I.2.1 q vq).2.2.2.2.2.1.eq (by omega)
  obtain ⟨e29, h30⟩ := (I.2.2.2.1 k hk).2.2.2.1.eq (by omega)
  rw [← hn] at e29 h30
  obtain ⟨w, hw⟩ : ∃ w, w = wtL m q l := ⟨_, rfl⟩
  have H := ln_set I vq es hl
  have hlen : w.length ≤ 401 := by rw [hw]; exact H.2.2.2.2.2
  obtain ⟨g, y1, y2, y3⟩ := r_write R.1 R.2.1 I.1 vq (I.2.1 q vq) H
  replace y3 : WL g w := by rw [hw]; exact y3
  have Rg := y2.rk.st R
  have Fg := rk_fm y2.rk
  have g0 : gI g 73 0 = gI h 73 0 := y2.2 0 (by omega)
  have n01 : nI 1 ≠ nI 0 := by decide
  obtain ⟨o4, -⟩ := pot_o I vq es hl eo ho
  have pre : MX12_runsOn_184 h 73 (nI k) (nI (320230 + 183 * k)) (nI (320230 + 183 * k + 33)) (nI q) (nI (130 + 645 * q)) = MX12_runsOn_247 g 73 (nI k) (nI (320230 + 183 * k)) (nI (320230 + 183 * k + 33)) (nI q) (nI l) (nI 0) (bN (decide (300 ≤ Nn m 4))) (nI 0) := by
    have d1 : gI h 74 (320230 + 183 * k + 34) = nI l := by rw [R.2.1]; exact J1
    have d2 : gI h 74 (130 + 645 * q + 4) = nI (Nn m (130 + 645 * q + 4)) := by rw [R.2.1]; exact em4
    have d3 : gI g 74 4 = nI (Nn m 4) := by rw [Rg.2.1]; exact f4
    unfold MX12_runsOn_184 MX12_runsOn_242
    simp only [ZL, nAdd]
    rw [gg_t (RS.f R.1).1, (RS.f R.1).2.1, gg_t (RS.f R.1).2.2.1, (RS.f R.1).2.2.2.1, gg_in (by omega) (by omega), gg_in (by omega) (by omega), nCl (by omega), show 320230 + 183 * k + 33 + 1 = 320230 + 183 * k + 34 by omega, d1, nCl (by omega), d2, if_pos (nI_lt hl (by omega)), y1, ob_some, gg_t (RS.f Rg.1).1, (RS.f Rg.1).2.1, gg_t (RS.f Rg.1).2.2.1, (RS.f Rg.1).2.2.2.1, gg_in (by omega) (by omega), nCl (by omega), d3]
    by_cases y : 300 ≤ Nn m 4
    · rw [show Nn m 4 = 300 by omega, if_pos rfl]
      rfl
    · rw [if_neg (by rw [nEq (by omega) (by omega)]; omega), decide_eq_false y]
      rfl
  rw [pre, r_247 Rg I hk y3.2.2 hlen e0 hT]
  unfold oM
  rw [← hw]
  have FM : ∀ {z : Hp}, Fr (fun b => b = 74) g z → Fr Rm h z ∧ gI z 73 0 = gI h 73 0 := fun F => ⟨Fg.trans (f74_rc F), by rw [f74_73 F, g0]⟩
  unfold MX12_runsOn_336
  simp only [ZL, nAdd]
  by_cases z : hs (cnP m k w) 27 = true
  · rw [if_pos z, z, show bN true = nI 1 from rfl, if_neg n01, gg_t (RS.f Rg.1).1]
    obtain ⟨h2, q1, q2, q3, q4⟩ := r_spikes Rg (by omega) e29 n1 h30
    exact ⟨h2, by rw [q1, ob_some], Fg.trans q2, q3, by rw [q4, g0]⟩
  · rw [if_neg z, Bool.eq_false_iff.mpr z, show bN false = nI 0 from rfl, if_pos rfl]
    by_cases y : 300 ≤ Nn m 4 ∨ hs (shP m k w T) 27 = true
    · have eb : (decide (300 ≤ Nn m 4) || hs (shP m k w T) 27) = true := by
        rcases y with y | y
        · rw [decide_eq_true y]; rfl
        · rw [y, Bool.or_true]
      have d31 : gI g 74 (320230 + 183 * k + 31) = m (320230 + 183 * k + 31) := by rw [Rg.2.1]
      rw [if_pos y, eb, show bN true = nI 1 from rfl, if_neg n01, gg_t (RS.f Rg.1).1, (RS.f Rg.1).2.1, gg_t (RS.f Rg.1).2.2.1, (RS.f Rg.1).2.2.2.1, gg_in (by omega) (by omega), nCl (by omega), lt_eq, d31]
      obtain ⟨p1, p2⟩ := FM (f74 (h := g) (x := 320230 + 183 * k + 31) (v := m (320230 + 183 * k + 31) + nI 1))
      exact ⟨_, rfl, p1, Rg.m1, p2⟩
    · have eb : (decide (300 ≤ Nn m 4) || hs (shP m k w T) 27) = false := by
        rw [decide_eq_false (fun v => y (Or.inl v)), Bool.eq_false_iff.mpr (fun v => y (Or.inr v))]
        rfl
      rw [if_neg y, eb, show bN false = nI 0 from rfl, if_pos rfl]
      have s300 : Nn m 4 < 300 := Nat.lt_of_not_le (fun v => y (Or.inl v))
      have d36 : gI g 74 (320230 + 183 * k + 36) = nI fr := by rw [Rg.2.1]; exact J3
      obtain ⟨z1, a1, a2, a3⟩ := r_casts (k := k) (q := q) (l := l) (i := i) (s := Nn m 4) (fr := nI fr) (w := w) (o := o) Rg s300 (by omega) vb (show l < 40 by omega) hi f4 (by rw [f7, e7]) hlen y3.1 y3.2.1 o4 eo
      have HC := ca_cs (fr := fr) I vq es hl s300 hk hi eo ho
      rw [← hw] at HC
      obtain ⟨-, -, pox, -⟩ := pot_o I vq es hl eo ho
      obtain ⟨M, hM⟩ : ∃ M, M = caM m (Nn m 4) k q l i (nI fr) w o := ⟨_, rfl⟩
      rw [← hM] at a3 HC ⊢
      have oK : ∀ y, y < 183 → y ≠ 30 → M (320230 + 183 * k + y) = m (320230 + 183 * k + y) := fun y h1 h2 => by
        rw [HC.1 _ (by omega) (by omega) (by omega) (by omega) (by omega), pox _ (by unfold plX; omega)]
      have d34 : gI z1 74 (320230 + 183 * k + 34) = nI l := by rw [a3.2.1, oK 34 (by omega) (by omega)]; exact J1
      obtain ⟨z2, hz2⟩ : ∃ z2, z2 = sI z1 74 (320230 + 183 * k + 34) (nI (l + 1)) := ⟨_, rfl⟩
      have R2 : RSt z2 (va_up M (320230 + 183 * k + 34) (nI (l + 1))) kk ii t u f := by rw [hz2]; exact a3.m1
      have F2 : Fr (fun b => b = 74) g z2 := by rw [hz2]; exact a2.trans f74
      have d34' : gI z2 74 (320230 + 183 * k + 34) = nI (l + 1) := by rw [R2.2.1, up_at, if_pos rfl]
      have d35 : gI z2 74 (320230 + 183 * k + 35) = nI en := by rw [R2.2.1, up_at, if_neg (by omega), oK 35 (by omega) (by omega)]; exact J2
      obtain ⟨p1, p2⟩ := FM F2
      rw [gg_t (RS.f Rg.1).1, (RS.f Rg.1).2.1, gg_t (RS.f Rg.1).2.2.1, (RS.f Rg.1).2.2.2.1, gg_in (by omega) (by omega), nCl (by omega), show 320230 + 183 * k + 33 + 3 = 320230 + 183 * k + 36 by omega, d36, a1, ob_some, gg_t (RS.f a3.1).1, (RS.f a3.1).2.1, gg_t (RS.f a3.1).2.2.1, (RS.f a3.1).2.2.2.1, gg_in (by omega) (by omega), nCl (by omega), show 320230 + 183 * k + 33 + 1 = 320230 + 183 * k + 34 by omega, d34, nAdd, lt_eq, ← hz2, gg_in (by omega) (by omega), nCl (by omega), show 320230 + 183 * k + 33 + 2 = 320230 + 183 * k + 35 by omega, d34', d35]
      unfold adM
      by_cases v : l + 1 = en
      · rw [if_pos (congrArg nI v), if_pos v]
        obtain ⟨z3, b1, b2, b3, b4⟩ := r_away (n := n) R2 (show k < 4 by omega) (by rw [up_at, if_neg (by omega), oK 29 (by omega) (by omega)]; exact e29) n1 h30
        exact ⟨z3, by rw [b1, ob_some], p1.trans b2, b3, by rw [b4, p2]⟩
      · rw [if_neg (by rw [nEq (by omega) (by omega)]; exact v), if_neg v]
        exact ⟨z2, rfl, p1, R2, p2⟩
end
