/-! a line is cast: the old one goes, the new one lies -/
section
variable {tg : Nat → List Nat} {h h1 g g' : Hp} {m M : Nat → Int32} {r x k q l s i p o d : Nat} {w : List Nat} {v : Int32}
theorem tk_val (S : RmS h r) (V : RmV h r m) (I : MI m) (hs : s < Nn m 4) (hz : m (64630 + 852 * s + 4) = nI 0) (e5 : m (64630 + 852 * s + 5) = nI l) (e6 : m (64630 + 852 * s + 6) = nI q) (vq : vP m q) (es : m (130 + 645 * q + 3) = nI 1) (hl : l < Nn m (130 + 645 * q + 4)) : MX7_takeAway h r (gP h (gP h r 10) s) v = some (tkH h (gP h (gP h r 10) s) (gP h (gP h (gP h r 5) q) 4) l v) := by
  obtain ⟨e4, l40⟩ := (I.2.1 _ vq).2.2.2.2.2.1.eq (by omega)
  obtain ⟨c, hc, ec, c0, cS, cV⟩ := c_findSlug_t S V I.1 hs
  obtain ⟨p, hp, ep, p0, pS, pV⟩ := c_findPart_t S V I.1 vq
  rw [← hc, ← hp]
  have A := pS.2.2.2.2.2.1
  have w9 : gI h p 9 = nI (Nn m (130 + 645 * q + 4)) := by rw [pV.2.2.2.2.2.2.2.1, if_pos es, e4]
  have e11 := cV.2.2.2.2.2.1.trans e5
  have e12 := cV.2.2.2.2.2.2.1.trans e6
  unfold MX7_takeAway
  rw [gg_t cS.1, gg_t S.1, e12, ep, ob_some, if_neg p0, gg_t pS.1, e11, c_hasLine_t pS.1 w9 (by omega) hl, ob_some, if_neg (by decide), gg_t A.2.1, A.2.2, gg_in (by omega) (by omega), nCl (by omega)]
  unfold MX7_takeAway_34
  simp only [kd_sI, ↓lt_eq, cS.1, gg_rf, gg_T]
  exact Eq.refl _
noncomputable def potM (m : Nat → Int32) (o : Nat) : Nat → Int32 := if o = 0 then m else tkM m (o - 1) (nI 2)
theorem pot_o (I : MI m) (vq : vP m q) (es : m (130 + 645 * q + 3) = nI 1) (hl : l < Nn m (130 + 645 * q + 4)) (eo : m (130 + 645 * q + 45 + l) = nI o) (ho : o ≤ 300) : o ≤ Nn m 4 ∧ (o ≠ 0 → o - 1 < Nn m 4 ∧ m (64630 + 852 * (o - 1) + 4) = nI 0 ∧ m (64630 + 852 * (o - 1) + 5) = nI l ∧ m (64630 + 852 * (o - 1) + 6) = nI q ∧ plA m (o - 1) = 130 + 645 * q + 45 + l) ∧ (∀ y, ¬ plX y → potM m o y = m y) ∧ potM m o (130 + 645 * q + 45 + l) = nI 0 := by
  have vb := vq.1
  have f4 := I.1.f.2.2.2.2.1.2
  have l4 := ((I.2.1 q vq).2.2.2.2.2.1.eq (by omega)).2
  have no : Nn m (130 + 645 * q + 45 + l) = o := by unfold Nn; rw [eo, nCl (by omega)]
  obtain ⟨d1, d2, d3, d4⟩ := ((I.2.1 q vq).2.2.2.2.2.2.2.2.2.2.2 es).2.2.2 l hl
  rw [no] at d4
  by_cases z : o = 0
  · subst z
    refine ⟨by omega, fun w => absurd rfl w, fun y _ => ?_, ?_⟩
    · unfold potM; rw [if_pos rfl]
    · unfold potM; rw [if_pos rfl, eo]
  · obtain ⟨g1, g2, g3, g4⟩ := d4 (by rw [eo, Ne, nEq (by omega) (by omega)]; exact z)
    have pl : plA m (o - 1) = 130 + 645 * q + 45 + l := by
      unfold plA Nn
      rw [g3, g4, nCl (by omega), nCl (by omega)]
    refine ⟨g1, fun _ => ⟨by omega, g2, g3, g4, pl⟩, fun y hy => ?_, ?_⟩
    · unfold potM
      unfold plX at hy
      rw [if_neg z, tk_at, pl, if_neg (by omega), if_neg (by omega), if_neg (by omega), if_neg (by omega)]
    · unfold potM
      rw [if_neg z, tk_at, pl, if_neg (by omega), if_neg (by omega), if_neg (by omega), if_pos rfl]
theorem c_tka (K : Rt tg g r x) (S : RmS g r) (V : RmV g r m) (I : MI m) (vq : vP m q) (es : m (130 + 645 * q + 3) = nI 1) (hl : l < Nn m (130 + 645 * q + 4)) (eo : m (130 + 645 * q + 45 + l) = nI o) (ho : o ≤ 300) (hp : p = gP g (gP g r 5) q) (hd : d = gP g (gP g r 10) s) (d0 : d ≠ 0) (hs : Nn m 4 ≤ s) : ∃ g7, MX7_takeAwayAt g r p (nI l) = some g7 ∧ Ft tg (pT x) g g7 ∧ RmS g7 r ∧ RmV g7 r (potM m o) ∧ MI (potM m o) ∧ gI g7 d = gI g d := by
  obtain ⟨o4, oz, -, -⟩ := pot_o I vq es hl eo ho
  obtain ⟨p', hp', ep, p0, pS, pV⟩ := c_findPart_t S V I.1 vq
  have epp : p' = p := by rw [hp', hp]
  subst epp
  have l4 := ((I.2.1 q vq).2.2.2.2.2.1.eq (by omega)).2
  have f4 := I.1.f.2.2.2.2.1.2
  have A := pS.2.2.2.2.2.1
  have a4 := (pV.2.2.2.2.2.2.2.2 es l hl).2
  have pre : MX7_takeAwayAt g r p' (nI l) = Option.bind (MX7_findSlug g r (nI o - nI 1)) fun t6 => if t6 = 0 then some g else Option.bind (MX7_takeAway g r t6 (nI 2)) fun h9 => some h9 := by
    unfold MX7_takeAwayAt
    simp only [ZL]
    rw [gg_t pS.1, gg_t A.2.1, A.2.2, gg_in (by omega) (by omega), gg_t S.1, nCl (by omega), a4, eo]
  rw [pre]
  by_cases z : o = 0
  · subst z
    refine ⟨g, ?_, Ft.rfl, S, ?_, ?_, rfl⟩
    · rw [show nI 0 - nI 1 = -nI 1 from by decide, c_findSlug_f S V I.1 (fun y _ w => by rw [nM5 (by omega)] at w; exact w), ob_some, if_pos rfl]
    · unfold potM; rw [if_pos rfl]; exact V
    · unfold potM; rw [if_pos rfl]; exact I
  · obtain ⟨y1, y2, y3, y4, y5⟩ := oz z
    obtain ⟨c, hc, ec, c0, cS, cV⟩ := c_findSlug_t S V I.1 y1
    obtain ⟨g7, u1, u2, u3, u4, u5⟩ := c_tk (v := nI 2) K S V I y1 y2 (Or.inr rfl)
    have u6 := tk_val (v := nI 2) S V I y1 y2 y3 y4 vq es hl
    have e7 : g7 = tkH g (gP g (gP g r 10) (o - 1)) (gP g (gP g (gP g r 5) q) 4) l (nI 2) := Option.some.inj (u1.symm.trans u6)
    refine ⟨g7, ?_, u2, u3, by unfold potM; rw [if_neg z]; exact u4, by unfold potM; rw [if_neg z]; exact u5, ?_⟩
    · rw [nSub (by omega), ec, ob_some, if_neg c0, hc, u1, ob_some]
    · have n1 : gP g (gP g r 10) s ≠ gP g (gP g r 10) (o - 1) := K.sl (by rw [← hc]; exact c0) s (by rw [← hd]; exact d0) (by omega)
      have n2 := K.sp (s := s) (q := q) (by rw [← hd]; exact d0) (by rw [← hp]; exact A.1)
      rw [← hd] at n1 n2
      rw [e7]
      unfold tkH
      rw [gI_sI, if_neg n1, gI_sI, if_neg n1, gI_sI, if_neg n1, gI_sI, if_neg n2]
end
