/-! a story: the class adds it -/
section
variable {tg tg1 : Nat → List Nat} {g g1 : Hp} {r x X e f i Sn : Nat} {m : Nat → Int32} {u v : Int32} {b : Nat → Nat} {s0 si sf s : TX}
/-- what holds while parts are added -/
def AyI (tg : Nat → List Nat) (g : Hp) (tg1 : Nat → List Nat) (g1 : Hp) (r x X : Nat) (m M : Nat → Int32) (Sn k : Nat) : Prop := Rx tg g tg1 g1 (fun y => y = x) ∧ cst g1 + rmP g1 r ≤ cst g + rmP g r ∧ RmS g1 r ∧ RmV g1 r m ∧ (∀ j, j < k → VP g1 r M (5 * Sn + j)) ∧ sm g g1 X
theorem c_ay36 (K : Rt tg g r x) (hr : r ≤ sz g) (h9 : 109 ≤ sz g) (I : MI m) (hSn : Sn = Nn m 1) (S20 : Sn < 20) (T0 : TI 5 24 0 s0) (hX : X ≤ sz g) (nX : ¬ [x] <:+ tg X) (X0 : X ≠ 0) (kX : kd g X = 21) (lX : e ≤ ln g X) (lb : ln g X < 100000) (hc : ∀ i, i < e → gI g X i = bS (b i) ∧ b i ≤ 255) (hs : ruT 5 24 0 b s0 e = .inr s) (A : AyI tg g tg1 g1 r x X m (syF m Sn s u v) Sn si.1) (ie : i ≤ e) (hi : ruT 5 24 0 b s0 i = .inr si) (hf : ruT 5 24 0 b s0 f = .inr sf) (fi : f ≤ i) (f0 : sf.1 = si.1) (f1 : sf.2.1 = 0) (f2 : sf.2.2.1 = false) (f3 : tp sf = 0) (f4 : tw sf = 0) (hb : si.2.2.1 = false) (n47 : ∀ j, f ≤ j → j < i → b j ≠ 47) (kp : KpT si.1 si s) (ks : si.1 ≤ s.1) : ∃ tg2 g2, MX7_addStory_36 g1 r X (nI e) u v (nI si.1) (nI f) (nI i) = some (.inl (nI (si.1 + 1), nI (i + 1), nI (i + 1), g2)) ∧ AyI tg g tg2 g2 r x X m (syF m Sn s u v) Sn (si.1 + 1) := by
  obtain ⟨w1, w2, w3, w4, w5, w6⟩ := A
  have K1 := w1.rt K hr h9
  have z1 := w1.2.1
  have Ts := ti_ru T0 (by omega) (by omega) e s hs
  have Ti := ti_ru T0 (by omega) (by omega) i si hi
  have N := ti_sy Ts
  have k5 : si.1 < 5 := Ti.1
  obtain ⟨q, hq⟩ : ∃ q, q = 5 * Sn + si.1 := ⟨_, rfl⟩
  have tX : tg1 X = tg X := (w1.2.2.1 X hX).1
  have nX1 : ¬ [x] <:+ tg1 X := by rw [tX]; exact nX
  have hA : gP g1 r 5 ≠ 0 := w3.2.2.2.1.1
  obtain ⟨v0, v1, v2, v3⟩ := syF_v (m := m) (fc := u) (du := v) N S20 ks hq
  obtain ⟨-, v7, v9, -⟩ := syF_h (m := m) (fc := u) (du := v) N S20
  obtain ⟨p1, p2, p3, p4⟩ := kp
  obtain ⟨o1, o2⟩ := Ti.2.2.1 si.1 (Nat.le_refl _)
  have y1 : s.2.2.2.1 si.1 = nI (tw si) := by rw [p1]; exact (o1.eq (by omega)).1
  have y2 : s.2.2.2.2.1 si.1 = nI (tp si) := by rw [p2]; exact (o2.eq (by omega)).1
  have tp40 : tp si ≤ 40 := (o2.eq (by omega)).2
  have tpe : Nn s.2.2.2.2.1 si.1 = tp si := by unfold Nn; rw [y2, nCl (by omega)]
  have q5 : q / 5 = Sn := by omega
  obtain ⟨iz2, iz3, iz4⟩ := I.2.2.2.2.2.2.1.1 q (by omega) (by omega)
  obtain ⟨-, tg2, ga, gb, g2, c, k1, k2, k3, k4, k6, B, VN, sX⟩ := c_part (M := syF m Sn s u v) (u := u) (v := v) (q := q) K1 (by omega) (by omega) w3 (by omega) T0 (by omega) (fun z => nX1 ((List.suffix_append [q, 5] [x]).trans z)) (fun z => nX1 (by rw [z, K1.a hA]; exact List.suffix_cons _ _)) X0 (by rw [w6.1]; exact kX) (t := i) (by rw [w6.2.1]; omega) (by rw [w6.2.1]; exact lb) (fun j h1 h2 => ⟨by rw [w6.2.2.1]; exact (hc j (by omega)).1, (hc j (by omega)).2, n47 j h1 h2⟩) fi hf f1 f2 f3 f4 hi hb (by rw [v0, y1]) (by rw [v1, y2]) (by rw [v2 2 (by omega) (by omega)]; exact iz2) (by rw [v2 3 (by omega) (by omega)]; exact iz3) (by rw [q5]; exact v7) (by rw [q5]; exact v9) (fun y hy => by
    rw [tpe] at v3
    obtain ⟨m1, m2, m3⟩ := v3 y hy
    refine ⟨by rw [m1, (p3 y (by omega)).1], by rw [m2, (p3 y (by omega)).2], fun l hl => ?_⟩
    rw [m3 l hl, show 12 * (40 * si.1 + y) + l = 480 * si.1 + (12 * y + l) by omega]
    exact p4 (12 * y + l) (by omega))
  obtain ⟨b1, b2, b3, b4⟩ := B
  have nv : ¬ vP m q := fun z => by have := z.2.1; omega
  refine ⟨tg2, g2, ?_, w1.trans b1, by omega, b4, rv_of5 K1 (by omega) w3 w4 b3 nv, fun j hj => ?_, ⟨by rw [sX.1]; exact w6.1, by rw [sX.2.1]; exact w6.2.1, by rw [sX.2.2.1]; exact w6.2.2.1, by rw [sX.2.2.2]; exact w6.2.2.2⟩⟩
  · have e7 : gI g1 r 7 = nI Sn := by rw [w4.2.1, hSn]; exact (I.1.f).2.1.1
    unfold MX7_addStory_36
    simp only [ZL]
    rw [gg_t w3.1, e7, nMul, nAdd, ← hq, k1, b2_some, gg_t k2, k3, ob_some, gg_t k4, k6, ob_some, nAdd, nAdd]
  · by_cases z : j = si.1
    · rw [z, ← hq]
      exact VN
    · exact VP.of K1 (by omega) b3 hA (fun y => by omega) (w5 j (by omega))
theorem c_addSy (K : Rt tg g r x) (hr : r ≤ sz g) (h9 : 109 ≤ sz g) (S : RmS g r) (V : RmV g r m) (I : MI m) (hSn : Sn = Nn m 1) (S20 : Sn < 20) (T0 : TI 5 24 0 s0) (z0 : s0.1 = 0) (z1 : s0.2.1 = 0) (z2 : s0.2.2.1 = false) (z3 : tp s0 = 0) (z4 : tw s0 = 0) (hX : X ≤ sz g) (nX : ¬ [x] <:+ tg X) (X0 : X ≠ 0) (kX : kd g X = 21) (lX : e ≤ ln g X) (lb : ln g X < 100000) (hc : ∀ i, i < e → gI g X i = bS (b i) ∧ b i ≤ 255) (hs : ruT 5 24 0 b s0 e = .inr s) (hb : s.2.2.1 = false) : ∃ tg' g', MX7_addStory g r X (nI e) u v = some (nI Sn, g') ∧ Rx tg g tg' g' (fun y => y = x) ∧ cst g' + rmP g' r ≤ cst g + rmP g r ∧ RmS g' r ∧ RmV g' r (syF m Sn s u v) := by
  have Ts := ti_ru T0 (by omega) (by omega) e s hs
  have N := ti_sy Ts
  have k5 := N.1
  -- behind the last part
  have fin : ∀ tg1 g1, AyI tg g tg1 g1 r x X m (syF m Sn s u v) Sn (s.1 + 1) → ∃ tg' g', it (fun q : Int32 × Int32 × Int32 × Hp => BX7_addStory_9 q.2.2.2 r X (nI e) u v q.1 q.2.1 q.2.2.1) (nI (s.1 + 1), nI (e + 1), nI (e + 1), g1) = some (nI Sn, g') ∧ Rx tg g tg' g' (fun y => y = x) ∧ cst g' + rmP g' r ≤ cst g + rmP g r ∧ RmS g' r ∧ RmV g' r (syF m Sn s u v) := fun tg1 g1 A => by
    obtain ⟨w1, w2, w3, w4, w5, w6⟩ := A
    have K1 := w1.rt K hr h9
    obtain ⟨g3, hg3⟩ : ∃ g3, g3 = sI (sI g1 (gP g1 r 6) Sn (nI (s.1 + 1))) r 7 (nI (Sn + 1)) := ⟨_, rfl⟩
    obtain ⟨h1, -, -, h110⟩ := syF_h (m := m) (fc := u) (du := v) N S20
    obtain ⟨y1, y2, y3⟩ := rv_sy K1 w3 I w4 hSn S20 k5 (fun j hj => w5 j (by omega)) (fun y q1 q2 q3 q4 q5 => syF_o N q1 q2 q3 q4 q5) h1 h110 hg3
    have r0 := K1.2.2.2.2
    have a6 : gP g1 r 6 ≠ 0 := w3.2.2.2.2.1.1
    have Rf : Rx tg1 g1 tg1 g3 (fun y => y = x) := Rx.fr K1.1 y3 (fun y hy => by
      rcases hy with h | h
      · rw [h]
        exact ⟨a6, x, rfl, by rw [K1.a a6]; exact List.suffix_cons _ _⟩
      · rw [h]
        exact ⟨r0, x, rfl, by rw [K1.2.2.1]; exact List.suffix_refl _⟩)
    refine ⟨tg1, g3, it_done ?_, w1.trans Rf, by rw [(rmP_fr (r := r) y3).1, (rmP_fr (r := r) y3).2]; exact w2, y1, y2⟩
    show BX7_addStory_9 g1 r X (nI e) u v (nI (s.1 + 1)) (nI (e + 1)) (nI (e + 1)) = _
    have e7 : gI g1 r 7 = nI Sn := by rw [w4.2.1, hSn]; exact (I.1.f).2.1.1
    have n6 : ¬ r = gP g1 r 6 := ne_o K1.1 K1.n3 a6
    have e72 : gI (sI g1 (gP g1 r 6) Sn (nI (s.1 + 1))) r 7 = nI Sn := by rw [gI_sI, if_neg n6]; exact e7
    have e73 : gI g3 r 7 = nI (Sn + 1) := by rw [hg3, gI_sI, if_pos rfl, up_at, if_pos rfl]
    have q6 := w3.2.2.2.2.1
    have e400 : e < 100000 := by omega
    unfold BX7_addStory_9 MX7_addStory_84
    simp only [ZL]
    rw [if_pos (nI_lt (by omega) (by omega)), gg_t w3.1, gg_t q6.2.1, e7, q6.2.2, gg_in (by omega) (by omega), nCl (by omega), lt_eq, e72, nAdd, lt_eq, ← hg3, e73, nSub (by omega), up1_some]
    rfl
  have L : ∀ d i f si sf tg1 g1, i + d = e → f ≤ i → ruT 5 24 0 b s0 i = .inr si → ruT 5 24 0 b s0 f = .inr sf → sf.1 = si.1 → sf.2.1 = 0 → sf.2.2.1 = false → tp sf = 0 → tw sf = 0 → (∀ j, f ≤ j → j < i → b j ≠ 47) → AyI tg g tg1 g1 r x X m (syF m Sn s u v) Sn si.1 → ∃ tg' g', it (fun q : Int32 × Int32 × Int32 × Hp => BX7_addStory_9 q.2.2.2 r X (nI e) u v q.1 q.2.1 q.2.2.1) (nI si.1, nI f, nI i, g1) = some (nI Sn, g') ∧ Rx tg g tg' g' (fun y => y = x) ∧ cst g' + rmP g' r ≤ cst g + rmP g r ∧ RmS g' r ∧ RmV g' r (syF m Sn s u v) := fun d => by
    induction d with
    | zero =>
      intro i f si sf tg1 g1 hd fi hi hf f0 f1 f2 f3 f4 n47 A
      have ie : i = e := hd
      subst ie
      have es : si = s := by rw [hi] at hs; cases hs; rfl
      rw [es] at f0 A hi ⊢
      obtain ⟨tg2, g2, k1, A2⟩ := c_ay36 K hr h9 I hSn S20 T0 hX nX X0 kX lX lb hc hs A (Nat.le_refl _) hi hf fi f0 f1 f2 f3 f4 hb n47 KpT.rfl (Nat.le_refl _)
      rw [it_next (s' := (nI (s.1 + 1), nI (i + 1), nI (i + 1), g2))]
      · exact fin tg2 g2 A2
      · show BX7_addStory_9 g1 r X (nI i) u v (nI s.1) (nI f) (nI i) = _
        unfold BX7_addStory_9
        simp only [ZL]
        rw [if_neg (nI_nlt (Nat.le_refl _) (by omega)), if_neg (nI_ge (by omega) (by omega)), if_pos trivial]
        exact k1
    | succ d ih =>
      intro i f si sf tg1 g1 hd fi hi hf f0 f1 f2 f3 f4 n47 A
      have ie : i < e := by omega
      have e400 : e < 100000 := by omega
      have Ti := ti_ru T0 (by omega) (by omega) i si hi
      have k5' : si.1 < 5 := Ti.1
      obtain ⟨s', hs'⟩ : ∃ s', ruT 5 24 0 b s0 (i + 1) = .inr s' := by
        cases q : ruT 5 24 0 b s0 (i + 1) with
        | inr s' => exact ⟨s', rfl⟩
        | inl p =>
          have := ruT_e q d
          rw [show i + 1 + d = e by omega, hs] at this
          cases this
      have st1 := hs'
      rw [ruT_s hi] at st1
      obtain ⟨b1, b2, b3⟩ := kp_st (j := si.1) Ti (by omega) st1
      obtain ⟨w1, w2, w3, w4, w5, w6⟩ := id A
      obtain ⟨x1, x2⟩ := hc i ie
      have t2 := (bS_c (b i) (by omega)).2.1
      have head : BX7_addStory_9 g1 r X (nI e) u v (nI si.1) (nI f) (nI i) = if b i = 47 then MX7_addStory_36 g1 r X (nI e) u v (nI si.1) (nI f) (nI i) else some (.inl (nI si.1, nI f, nI (i + 1), g1)) := by
        unfold BX7_addStory_9
        simp only [ZL]
        rw [if_neg (nI_nlt (by omega) (by omega)), if_neg (nI_ge (by omega) (by omega)), if_neg (show ¬ nI i = nI e by rw [nEq (by omega) (by omega)]; omega), gg_t (by rw [w6.1]; exact kX), w6.2.1, gg_in (by omega) (by omega), nCl (by omega), w6.2.2.1, x1, nAdd]
        by_cases z : b i = 47
        · rw [if_pos (t2.mpr z), if_pos z]
        · rw [if_neg (fun y => z (t2.mp y)), if_neg z]
      by_cases z : b i = 47
      · rw [if_pos z] at head
        have sp : si.2.2.1 = false ∧ s' = tPt si := by
          rw [z] at st1
          unfold stT at st1
          rw [show lB 47 = false by decide, if_neg (by decide)] at st1
          cases bb : si.2.2.1 with
          | true => rw [bb, if_pos rfl] at st1; cases st1
          | false =>
            rw [bb, if_neg (by decide), if_neg (show ¬ ((47 : Nat) = 45 ∧ 0 < si.2.1) by omega)] at st1
            by_cases y : (47 : Nat) = 47 ∧ 0 < tw si ∧ si.1 + 1 < 5
            · rw [if_pos y] at st1
              cases st1
              exact ⟨rfl, rfl⟩
            · rw [if_neg y, if_neg (by decide)] at st1
              cases st1
        obtain ⟨hb', es⟩ := sp
        subst es
        obtain ⟨r1, r2⟩ := kp_ru (j := si.1) T0 (by omega) (by omega) hs' d s (by rw [show i + 1 + d = e by omega]; exact hs)
        have r1' : si.1 + 1 ≤ s.1 := r1
        have kp : KpT si.1 si s := (b3 (Nat.lt_succ_self _)).tr (r2 (Nat.lt_succ_self _))
        obtain ⟨tg2, g2, k1, A2⟩ := c_ay36 K hr h9 I hSn S20 T0 hX nX X0 kX lX lb hc hs A (by omega) hi hf fi f0 f1 f2 f3 f4 hb' n47 kp (by omega)
        rw [it_next (s' := (nI (si.1 + 1), nI (i + 1), nI (i + 1), g2))]
        · refine ih (i + 1) (i + 1) (tPt si) (tPt si) tg2 g2 (by omega) (Nat.le_refl _) hs' hs' rfl rfl rfl ?_ ?_ (fun j h1 h2 => by omega) A2
          · show Nn (va_up si.2.2.2.2.1 (si.1 + 1) (nI 0)) (si.1 + 1) = 0
            rw [nnU (by omega), if_pos rfl]
          · show Nn (va_up si.2.2.2.1 (si.1 + 1) (nI 0)) (si.1 + 1) = 0
            rw [nnU (by omega), if_pos rfl]
        · show BX7_addStory_9 g1 r X (nI e) u v (nI si.1) (nI f) (nI i) = _
          rw [head]
          exact k1
      · rw [if_neg z] at head
        have k' := b2 z
        rw [it_next (s' := (nI si.1, nI f, nI (i + 1), g1)) head, ← k']
        exact ih (i + 1) f s' sf tg1 g1 (by omega) (by omega) hs' hf (by rw [k']; exact f0) f1 f2 f3 f4 (fun j h1 h2 => by
          by_cases y : j = i
          · rw [y]; exact z
          · exact n47 j h1 (by omega)) (by rw [k']; exact A)
  have fin2 := L e 0 0 s0 s0 tg g (Nat.zero_add e) (Nat.le_refl 0) rfl rfl rfl z1 z2 z3 z4 (fun j h1 h2 => by omega) ⟨Rx.rfl K.1, Nat.le_refl _, S, V, fun j hj => by omega, ⟨rfl, rfl, rfl, rfl⟩⟩
  rw [z0] at fin2
  unfold MX7_addStory MX7_addStory_9
  simp only [ZL]
  exact fin2
end
