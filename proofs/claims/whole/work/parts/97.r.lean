/-! brasses: both sides' counts -/
section
variable {tg : Nat → List Nat} {h h1 h' : Hp} {m m' t : Nat → Int32} {i n f w : Int32} {r x s s0 k T A b c g B d : Nat}
theorem sc16 (K : Rt tg h r x) (S : RmS h r) (G : Fr (fun b => b = gP h r 16) h h1) : Sc tg r x h h1 := by
  have z16 := S.2.2.2.2.2.2.2.2.2.2.1.1
  have t16 := K.a z16
  refine ⟨G.mono (fun b hb => ?_), ?_⟩
  · have hb : b = gP h r 16 := hb
    subst hb
    exact ⟨z16, by rw [t16]; exact Or.inr (Or.inr (Or.inl (Eq.refl _)))⟩
  · have e : ∀ j, gP h (gP h r 14) j ≠ 0 → gI h1 (gP h (gP h r 14) j) = gI h (gP h (gP h r 14) j) := fun j hj => (G.sm (fun z => by
      have z : gP h (gP h r 14) j = gP h r 16 := z
      have := K.o hj
      rw [z, t16] at this
      have := congrArg List.length this
      simp at this)).2.2.1
    have N := S.n.2.1
    have BS := S.2.2.2.2.2.2.2.2.2.2.2.2.2.2.2.1.2
    rw [e 8 BS.2.1.1, e 9 BS.2.2.1.1]
    exact N
/-- is it out -/
abbrev ouP (m : Nat → Int32) (k T g : Nat) : Prop := m (g + 1) = nI k ∧ ¬ nI T < m (g + 2)
theorem c_ouI {v4 : Int32} {G : Hp} {acc : Nat → Nat} (hrk : kd h r = 6) (hA : A = gP h r 16) (hk : kd h A = 20) (hl : ln h A = 27) (cS : SlS h c) (cV : SlV h c m g) (J : MIs m g s0) (n1 : c ≠ A) (n2 : gP h c 0 ≠ A) (F : Fr (fun b => b = A) h G) (ha : ∀ s, s < 27 → gI G A s = nI (acc s)) : ∃ g1, MX7_countOut_41 G r (nI k) w (nI T) v4 c (nI 0) = some (.inl (v4 + -nI 1, g1)) ∧ Fr (fun b => b = A) h g1 ∧ ∀ s, s < 27 → gI g1 A s = nI (acc s + if ouP m k T g then sgQ m g s (Nn m (g + 9)) else 0) := by
  obtain ⟨e9, l9⟩ := J.2.2.2.2.2.2.2.2.2.2.2.1.eq (by omega)
  have J14 := J.2.2.2.2.2.2.2.2.2.2.2.2.2.2.1
  obtain ⟨L, hL⟩ : ∃ L, L = Nn m (g + 9) := ⟨_, Eq.refl _⟩
  obtain ⟨q1, ⟨q2, q2'⟩, ⟨q3, q3'⟩, q4, q5, q6⟩ := cS
  obtain ⟨w5, w8, w9, w3, w10, w11, w12, w14, w7, w2, w13, w6, wl, wb, w4⟩ := cV
  have l5 := slz_b q5
  rw [← hL] at e9 l9 J14 wl wb ⊢
  have cel : ∀ {g1 : Hp}, Fr (fun b => b = A) h g1 → kd g1 = kd h ∧ ln g1 = ln h ∧ gP g1 = gP h ∧ gI g1 c = gI h c ∧ gI g1 (gP h c 0) = gI h (gP h c 0) := fun F1 => ⟨F1.1, F1.2.1, F1.2.2.1, (F1.sm n1).2.2.1, (F1.sm n2).2.2.1⟩
  unfold MX7_countOut_41
  by_cases z : ouP m k T g
  · obtain ⟨z1, z2⟩ := id z
    simp only [if_pos z]
    have K0 : ∃ y, it (fun q : Int32 × Hp => BX7_countOut_41 q.2 r (nI k) w (nI T) v4 c q.1) (nI 0, G) = some y ∧ (∃ g1, y = Sum.inl (v4 + -nI 1, g1) ∧ Fr (fun b => b = A) h g1 ∧ ∀ s, s < 27 → gI g1 A s = nI (acc s + sgQ m g s L)) := by
      refine it_cnt (fun j s => s.1 = nI j ∧ Fr (fun b => b = A) h s.2 ∧ ∀ a, a < 27 → gI s.2 A a = nI (acc a + sgQ m g a j)) L (fun j s hj pp => ?_) (fun s pp => ?_) ⟨Eq.refl _, F, fun a h2 => by rw [ha a h2]; exact Eq.refl _⟩
      · obtain ⟨v, g1⟩ := s
        obtain ⟨p1, p2, p3⟩ := pp
        replace p1 : v = nI j := p1
        replace p2 : Fr (fun b => b = A) h g1 := p2
        replace p3 : ∀ a, a < 27 → gI g1 A a = nI (acc a + sgQ m g a j) := p3
        subst p1
        obtain ⟨ek, el, ep, ec, e0⟩ := cel p2
        obtain ⟨eb, lb⟩ := (J14 j hj).1.eq (by omega)
        obtain ⟨g2, y1, y2, y3⟩ := c_addSign (h := g1) (A := A) (b := Nn m (g + 12 + j)) (acc := fun a => acc a + sgQ m g a j) (by rw [ek]; exact hk) (by rw [el]; exact hl) lb p3
        refine ⟨(nI (j + 1), g2), ?_, Eq.refl _, p2.trans y2, fun a h2 => ?_⟩
        · show BX7_countOut_41 g1 r (nI k) w (nI T) v4 c (nI j) = _
          unfold BX7_countOut_41
          rw [ek, el, ep, ec, e0, gg_t q1, w8, z1, if_pos (Eq.refl _), w9, if_neg z2, w2, e9, if_neg (nI_ge hj (by omega)), gg_t hrk, gg_t q2', gg_in (by omega) (by omega), nCl (by omega), (wb j hj).1, eb, ← hA, y1, ob_some]
          simp only [ZL, nAdd]
        · show gI g2 A a = nI (acc a + (sgQ m g a j + (if Nn m (g + 12 + j) = sgN a then 1 else 0)))
          rw [y3 a h2]
          exact congrArg nI (by omega)
      · obtain ⟨v, g1⟩ := s
        obtain ⟨p1, p2, p3⟩ := pp
        replace p1 : v = nI L := p1
        replace p2 : Fr (fun b => b = A) h g1 := p2
        subst p1
        obtain ⟨ek, el, ep, ec, e0⟩ := cel p2
        refine ⟨_, ?_, g1, Eq.refl _, p2, p3⟩
        show BX7_countOut_41 g1 r (nI k) w (nI T) v4 c (nI L) = _
        unfold BX7_countOut_41
        rw [ek, ec, gg_t q1, w8, z1, if_pos (Eq.refl _), w9, if_neg z2, w2, e9, if_pos (nI_le (Nat.le_refl L) (by omega))]
        exact Eq.refl _
    obtain ⟨y, y1, g1, y2, y3, y4⟩ := K0
    exact ⟨g1, by rw [← y2, ← y1], y3, y4⟩
  · simp only [if_neg z]
    obtain ⟨ek, el, ep, ec, e0⟩ := cel F
    refine ⟨G, ?_, F, fun a h2 => by rw [ha a h2]; exact Eq.refl _⟩
    refine it_done (s := (nI 0, G)) ?_
    show BX7_countOut_41 G r (nI k) w (nI T) v4 c (nI 0) = _
    unfold BX7_countOut_41
    rw [ek, ec, gg_t q1, w8]
    by_cases z1 : m (g + 1) = nI k
    · rw [if_pos z1, w9, if_pos (by
        by_cases z2 : nI T < m (g + 2)
        · exact z2
        · exact absurd ⟨z1, z2⟩ z)]
      exact Eq.refl _
    · rw [if_neg z1]
      exact Eq.refl _
theorem c_countOut (K : Rt tg h r x) (S : RmS h r) (V : RmV h r m) (I : MI m) : ∃ h1, MX7_countOut h r (nI k) w (nI T) = some h1 ∧ Fr (fun b => b = gP h r 16) h h1 ∧ ∀ s, s < 27 → gI h1 (gP h r 16) s = nI (ouN m k w T s (Nn m 4)) := by
  obtain ⟨-, -, -, -, ⟨f4, f4'⟩, -⟩ := I.1.f
  obtain ⟨A, hA⟩ : ∃ A, A = gP h r 16 := ⟨_, Eq.refl _⟩
  have a16 := S.2.2.2.2.2.2.2.2.2.2.1
  have t16 := K.a a16.1
  rw [← hA] at t16 ⊢
  obtain ⟨z16, hk, hl⟩ := a16
  rw [← hA] at z16 hk hl
  have nr : r ≠ A := ne_t (tg := tg) (by
    rw [K.2.2.1, t16]
    exact fun e => by have := congrArg List.length e; simp at this)
  obtain ⟨g0, y1, y2, y3⟩ := c_clear27 hk hl
  have F0 := y2
  unfold MX7_countOut
  rw [gg_t S.1, ← hA, y1, ob_some, F0.1, gg_t S.1, (F0.sm nr).2.2.1, V.2.2.2.2.1, f4]
  simp only [ZL]
  rw [lV_m]
  unfold MX7_countOut_15
  refine it_up (P := fun c s => s.1 = lV c ∧ c ≤ Nn m 4 ∧ Fr (fun b => b = A) h s.2 ∧ ∃ acc : Nat → Nat, (∀ a, a < 27 → gI s.2 A a = nI (acc a)) ∧ ∀ a, acc a + ouN m k w T a c = ouN m k w T a (Nn m 4)) (Nn m 4) (fun c s pp => ?_) _ ⟨Eq.refl _, Nat.le_refl _, F0, fun _ => 0, y3, fun a => Nat.zero_add _⟩
  obtain ⟨v, g⟩ := s
  obtain ⟨p1, p2, p3, acc, p4, p5⟩ := pp
  replace p1 : v = lV c := p1
  replace p3 : Fr (fun b => b = A) h g := p3
  replace p4 : ∀ a, a < 27 → gI g A a = nI (acc a) := p4
  subst p1
  by_cases z : c = 0
  · subst z
    refine Or.inl ⟨g, ?_, p3, fun a ha => by rw [p4 a ha, ← p5 a]; exact Eq.refl _⟩
    show BX7_countOut_15 g r (nI k) w (nI T) (lV 0) = _
    unfold BX7_countOut_15
    rw [if_pos (by decide)]
  · obtain ⟨c', rfl⟩ : ∃ c', c = c' + 1 := ⟨c - 1, by omega⟩
    have sc := sc16 K S (by rw [← hA]; exact p3)
    have Sg := sc.rs K S
    obtain ⟨e, he, ec, e0, cS, cV⟩ := c_findSlug_t S V I.1 (show c' < Nn m 4 by omega)
    have ez : gP h (gP h r 10) c' ≠ 0 := by rw [← he]; exact e0
    have te := K.o ez
    rw [← he] at te
    have n1 : e ≠ A := ne_t (tg := tg) (by
      rw [te, t16]
      exact fun e => by have := congrArg List.length e; simp at this)
    have n2 : gP h e 0 ≠ A := ne_t (tg := tg) (by
      have := K.q (k := 10) (j := c') (i := 0) (by rw [← he]; exact cS.2.1.1)
      rw [← he] at this
      rw [this, t16]
      exact fun e => by have := congrArg List.length e; simp at this)
    have ow := c_ownSlug Sg (s := c') (by omega) (by rw [p3.2.2.1]; exact ez)
    rw [p3.2.2.1, ← he] at ow
    have J := I.2.2.1 c' (by omega)
    have e9 : gI g e 9 = m (64630 + 852 * c' + 2) := by rw [(p3.sm n1).2.2.1]; exact cV.2.2.1
    have pre : BX7_countOut_15 g r (nI k) w (nI T) (nI c') = if w ≤ m (64630 + 852 * c' + 2) then MX7_countOut_41 g r (nI k) w (nI T) (nI c') e (nI 0) else some (.inr g) := by
      unfold BX7_countOut_15
      rw [if_neg (nI_pos (by omega)), p3.1, gg_t S.1, ow, b2_some, p3.1, gg_t cS.1, e9]
      exact Eq.refl _
    have ou : ∀ a, ouN m k w T a (c' + 1) = if m (64630 + 852 * c' + 2) < w then 0 else (if ouP m k T (64630 + 852 * c') then sgQ m (64630 + 852 * c') a (Nn m (64630 + 852 * c' + 9)) else 0) + ouN m k w T a c' := fun a => Eq.refl _
    by_cases z2 : m (64630 + 852 * c' + 2) < w
    · refine Or.inl ⟨g, ?_, p3, fun a ha => ?_⟩
      · show BX7_countOut_15 g r (nI k) w (nI T) (lV (c' + 1)) = _
        rw [lV_p (by omega), Nat.add_sub_cancel, pre, if_neg (fun e => Int32.not_lt.mpr e z2)]
      · have := p5 a
        rw [ou a, if_pos z2, Nat.add_zero] at this
        rw [p4 a ha, this]
    · obtain ⟨g1, k1, k2, k3⟩ := c_ouI (k := k) (w := w) (T := T) (v4 := nI c') S.1 hA hk hl cS cV J n1 n2 p3 p4
      refine Or.inr ⟨(lV c', g1), c', by omega, ⟨Eq.refl _, by omega, k2, fun a => acc a + (if ouP m k T (64630 + 852 * c') then sgQ m (64630 + 852 * c') a (Nn m (64630 + 852 * c' + 9)) else 0), k3, fun a => ?_⟩, ?_⟩
      · have := p5 a
        rw [ou a, if_neg z2] at this
        rw [← this]
        exact Nat.add_assoc _ _ _
      · show BX7_countOut_15 g r (nI k) w (nI T) (lV (c' + 1)) = _
        rw [lV_p (by omega), Nat.add_sub_cancel, pre, if_pos (Int32.not_lt.mp z2), k1, lV_s]
end
