/-! what a line needs: the class -/
section
variable {tg : Nat → List Nat} {h h1 g : Hp} {m M : Nat → Int32} {r x k q l n p b c : Nat} {w : List Nat}
theorem sc178 (K : Rt tg h r x) (S : RmS h r) (G : Fr (fun b => b = gP h r 16 ∨ b = gP h r 17 ∨ b = gP h r 18) h h1) : Sc tg r x h h1 := by
  have n16 := S.2.2.2.2.2.2.2.2.2.2.1.1
  have n17 := S.2.2.2.2.2.2.2.2.2.2.2.1.1
  have n18 := S.2.2.2.2.2.2.2.2.2.2.2.2.1.1
  have t16 := K.a n16
  have t17 := K.a n17
  have t18 := K.a n18
  have bS := S.2.2.2.2.2.2.2.2.2.2.2.2.2.2.2.1
  have n8 : ∀ j, gP h (gP h r 14) j ≠ 0 → gI h1 (gP h (gP h r 14) j) = gI h (gP h (gP h r 14) j) := fun j hj => G.2.2.2.2.2.2 _ (fun w => by
    have tj := K.o hj
    rcases w with w | w | w
    · rw [w, t16] at tj
      have := congrArg List.length tj
      simp at this
    · rw [w, t17] at tj
      have := congrArg List.length tj
      simp at this
    · rw [w, t18] at tj
      have := congrArg List.length tj
      simp at this)
  refine ⟨Fr.mono G (fun b hb => ?_), by rw [n8 8 bS.2.2.1.1]; exact bS.2.2.2.2.2.2.2.2.1, by rw [n8 9 bS.2.2.2.1.1]; exact bS.2.2.2.2.2.2.2.2.2⟩
  rcases hb with hb | hb | hb
  · rw [hb]; exact ⟨n16, by rw [t16]; simp [scT]⟩
  · rw [hb]; exact ⟨n17, by rw [t17]; simp [scT]⟩
  · rw [hb]; exact ⟨n18, by rw [t18]; simp [scT]⟩
theorem take_s (hj : n < w.length) : w.take (n + 1) = w.take n ++ [w.getD n 0] := by
  rw [List.take_succ_eq_append_getElem hj, List.getD_eq_getElem?_getD, List.getElem?_eq_getElem hj]
  rfl
theorem c_need (K : Rt tg h r x) (S : RmS h r) (V : RmV h r m) (I : MI m) (vq : vP m q) (es : m (130 + 645 * q + 3) = nI 1) (hl : l < Nn m (130 + 645 * q + 4)) (hw : w = wtL m q l) : ∃ h1, MX7_countNeed h r (gP h (gP h r 5) q) (nI l) = some h1 ∧ Fr (fun b => b = gP h r 16 ∨ b = gP h r 17 ∨ b = gP h r 18) h h1 ∧ ∀ s, s < 27 → gI h1 (gP h r 17) s = nI (sgC w s) := by
  have n17 := S.2.2.2.2.2.2.2.2.2.2.2.1
  have n18 := S.2.2.2.2.2.2.2.2.2.2.2.2.1
  have t17 := K.a n17.1
  have t18 := K.a n18.1
  have n78 : gP h r 17 ≠ gP h r 18 := fun e => by
    rw [e, t18] at t17
    exact absurd (List.cons.inj t17).1 (by omega)
  have nr : gP h r 17 ≠ r := fun e => by
    rw [e, K.2.2.1] at t17
    have := congrArg List.length t17
    simp at this
  obtain ⟨h1, y1, y2, y3⟩ := c_clear27 (h := h) (A := gP h r 17) n17.2.1 n17.2.2
  have sc1 : Sc tg r x h h1 := sc178 K S (Fr.mono y2 (fun b hb => Or.inr (Or.inl hb)))
  have K1 := sc1.rt K
  have S1 := sc1.rs K S
  have V1 := sc1.rv K V
  have eP1 : gP h1 = gP h := y2.2.2.1
  obtain ⟨p, hp, ep, p0, PS, PV⟩ := c_findPart_t S1 V1 I.1 vq
  have J := I.2.1 q vq
  have A := Pa.rm K1 (q := q) (by rw [← hp]; exact PS) (by rw [← hp]; exact p0)
  rw [← hp] at A
  have sc18 : scT x (tg (gP h r 18)) := by rw [t18]; simp [scT]
  have H := ln_set I vq es hl
  obtain ⟨h2, z1, z2, z3⟩ := c_spell (X := gP h r 18) PS PV I.1 J ⟨by rw [y2.1]; exact n18.2.1, by rw [y2.2.1]; exact n18.2.2⟩ (fun w => A.1 (by rw [← w]; exact sc18)) (fun j hj w => A.2 j hj (by rw [← w]; exact sc18)) vq es hl H
  have hlen : w.length ≤ 401 := by rw [hw]; exact H.2.2.2.2.2
  have hb122 : ∀ j, j < w.length → w.getD j 0 ≤ 122 := by rw [hw]; exact wt_b I.1 J H.2.2.2.2.1
  replace z1 : MX5_spell h1 p (nI l) (gP h r 18) = some (nI w.length, h2) := by rw [hw]; exact z1
  replace z3 : PLs h2 (gP h r 18) w := by rw [hw]; exact z3
  have F2 : Fr (fun b => b = gP h r 16 ∨ b = gP h r 17 ∨ b = gP h r 18) h h2 := (Fr.mono y2 (fun b hb => Or.inr (Or.inl hb))).trans (Fr.mono z2 (fun b hb => Or.inr (Or.inr hb)))
  have h217 : ∀ s, s < 27 → gI h2 (gP h r 17) s = nI (sgC (w.take 0) s) := fun s hs => by
    rw [z2.2.2.2.2.2.2 _ n78, y3 s hs]
    rfl
  have epp : gP h (gP h r 5) q = p := by rw [hp, eP1]
  have loop : ∃ h3, it (fun s : Int32 × Hp => BX7_countNeed_20 s.2 r (nI w.length) s.1) (nI 0, h2) = some h3 ∧ (Fr (fun b => b = gP h r 17) h2 h3 ∧ ∀ s, s < 27 → gI h3 (gP h r 17) s = nI (sgC w s)) := by
    refine it_cnt (fun j s => s.1 = nI j ∧ Fr (fun b => b = gP h r 17) h2 s.2 ∧ ∀ i, i < 27 → gI s.2 (gP h r 17) i = nI (sgC (w.take j) i)) w.length (fun j s hj pp => ?_) (fun s pp => ?_) ⟨rfl, Fr.rfl, h217⟩
    · obtain ⟨u, z⟩ := s
      obtain ⟨p1, p2, p3⟩ := pp
      replace p1 : u = nI j := p1
      replace p2 : Fr (fun b => b = gP h r 17) h2 z := p2
      replace p3 : ∀ i, i < 27 → gI z (gP h r 17) i = nI (sgC (w.take j) i) := p3
      subst p1
      have ek : kd z = kd h := p2.1.trans F2.1
      have el : ln z = ln h := p2.2.1.trans F2.2.1
      have eP : gP z = gP h := p2.2.2.1.trans F2.2.2.1
      have g18 : gI z (gP h r 18) j = nI (w.getD j 0) := by rw [p2.2.2.2.2.2.2 _ (fun e => n78 e.symm)]; exact z3 j hj
      obtain ⟨z', u1, u2, u3⟩ := c_addSign (h := z) (A := gP h r 17) (b := w.getD j 0) (acc := fun i => sgC (w.take j) i) (by rw [ek]; exact n17.2.1) (by rw [el]; exact n17.2.2) (hb122 j hj) p3
      refine ⟨(nI (j + 1), z'), ?_, rfl, p2.trans u2, fun i hi => ?_⟩
      · show BX7_countNeed_20 z r (nI w.length) (nI j) = _
        unfold BX7_countNeed_20
        simp only [ZL]
        rw [ek, el, eP, if_neg (nI_ge hj (by omega)), gg_t S.1, gg_t n18.2.1, n18.2.2, if_neg (nI_ge (by omega) (by omega)), gg_in (by omega) (by omega), nCl (by omega), g18, u1, ob_some, nAdd]
      · show gI z' (gP h r 17) i = nI (sgC (w.take (j + 1)) i)
        rw [u3 i hi, take_s hj, sgC_app]
    · obtain ⟨u, z⟩ := s
      obtain ⟨p1, p2, p3⟩ := pp
      replace p1 : u = nI w.length := p1
      replace p2 : Fr (fun b => b = gP h r 17) h2 z := p2
      replace p3 : ∀ i, i < 27 → gI z (gP h r 17) i = nI (sgC (w.take w.length) i) := p3
      subst p1
      refine ⟨z, ?_, p2, fun i hi => by rw [p3 i hi, List.take_length]⟩
      show BX7_countNeed_20 z r (nI w.length) (nI w.length) = _
      unfold BX7_countNeed_20
      rw [if_pos (nI_le (Nat.le_refl _) (by omega))]
  obtain ⟨h3, q1, q2, q3⟩ := loop
  refine ⟨h3, ?_, F2.trans (Fr.mono q2 (fun b hb => Or.inr (Or.inl hb))), q3⟩
  unfold MX7_countNeed MX7_countNeed_20
  simp only [ZL]
  rw [gg_t S.1, y1, ob_some, gg_t S1.1, epp, gg_t PS.1, eP1, z1, b2_some]
  exact q1
end
