/-! a slug takes a text, or all of another slug -/
def TT (tg : Nat → List Nat) (h : Hp) (tg' : Nat → List Nat) (h' : Hp) (r x s c L : Nat) (w : Nat → Int32) : Prop := Rx tg h tg' h' (fun y => y = x) ∧ cst h' + rmP h' r ≤ cst h + rmP h r ∧ Of tg h h' r x 10 s ∧ SlS h' c ∧ L ≤ ln h' (gP h' c 0) ∧ (∀ l, l < L → gI h' (gP h' c 0) l = w l ∧ gI h' (gP h' c 1) l = w l) ∧ gI h' c 2 = nI L ∧ gI h' c 3 = nI (ltC w L) ∧ gI h' c 4 = nI 0 ∧ gI h' c 13 = nI 0 ∧ (∀ j, j ≠ 2 → j ≠ 3 → j ≠ 4 → j ≠ 13 → gI h' c j = gI h c j) ∧ gP h' (gP h r 10) s = c
section
variable {tg tg' tg1 : Nat → List Nat} {h h' h1 : Hp} {m : Nat → Int32} {r x F j c s L X n p q g0 : Nat} {P Q : List Nat}
theorem AP.of (O : Own tg h) (p0 : p ≠ 0) (p3 : p ≠ 3) (q3 : q ≠ 3) (tp : tg p = P) (tq : tg q = Q) (n1 : P ≠ Q) (n2 : ∀ k, k :: Q ≠ P) (n3 : ∀ k, k :: P ≠ Q) : AP h p q := by
  refine ⟨p0, fun e => n1 (by rw [← tp, ← tq, e]), fun k e => ?_, fun k hk => ?_⟩
  · have := tgc O (a := q) (j := k) (by rw [← e]; exact p0) q3
    rw [← e, tp, tq] at this
    exact n2 k this.symm
  · have tk := tgc O hk p3
    rw [tp] at tk
    refine ⟨fun e => ?_, fun e => ?_, fun l e => ?_, fun l hl e => ?_⟩
    · rw [e, tp] at tk
      have := congrArg List.length tk
      simp at this
    · rw [e, tq] at tk
      exact n3 k tk.symm
    · have := tgc O (a := q) (j := l) (by rw [← e]; exact hk) q3
      rw [← e, tk, tq] at this
      exact n1 (List.cons.inj this).2
    · have := tgc O (a := p) (j := l) (by rw [← e]; exact hk) p3
      rw [← e, tk, tp] at this
      exact hl (List.cons.inj this).1.symm
theorem c_takeText (K : Rt tg h r x) (hr : r ≤ sz h) (h9 : 109 ≤ sz h) (S : RmS h r) (hs : s < 300) (hc : c = gP h (gP h r 10) s) (c0 : c ≠ 0) (kX : kd h X = 21) (lX : L ≤ ln h X) (hX : X ≤ sz h) (nX : ¬ [s, 10, x] <:+ tg X) (L512 : L ≤ 512) (X512 : ln h X ≤ 100000) : ∃ tg' h', MX8_takeText h c X (nI L) = some h' ∧ TT tg h tg' h' r x s c L (gI h X) := by
  have hA := S.2.2.2.2.2.2.1.1
  have cz : gP h (gP h r 10) s ≠ 0 := by rw [← hc]; exact c0
  obtain ⟨sk, ⟨sA, sA1⟩, ⟨sB, sB1⟩, sl, sz1, s14⟩ := S.2.2.2.2.2.2.2.2.2.2.2.2.2.2.2.2.2.2.2 s cz
  rw [← hc] at sk sA sA1 sB sB1 sl sz1 s14
  have tc := K.o cz
  rw [← hc] at tc
  have c3 : c ≠ 3 := by rw [hc]; exact K.o3
  have cs : c ≤ sz h := by rw [hc]; exact K.1.2.2.2.2.2 _ _
  have tA := tgc K.1 sA c3
  have tB := tgc K.1 sB c3
  rw [tc] at tA tB
  have Xc : X ≠ c := fun e => nX (by rw [e, tc]; exact List.suffix_refl _)
  have XA : X ≠ gP h c 0 := fun e => nX (by rw [e, tA]; exact List.suffix_append [0] _)
  have XB : X ≠ gP h c 1 := fun e => nX (by rw [e, tB]; exact List.suffix_append [1] _)
  have nA : gP h c 0 ≠ c := fun e => by
    rw [e, tc] at tA
    have := congrArg List.length tA
    simp at this
  have nB : gP h c 1 ≠ c := fun e => by
    rw [e, tc] at tB
    have := congrArg List.length tB
    simp at this
  have nAB : gP h c 0 ≠ gP h c 1 := fun e => by
    rw [e, tB] at tA
    exact absurd (List.cons.inj tA).1 (by omega)
  have A10c : gP h r 10 ≠ c := fun e => by
    have := K.a hA
    rw [e, tc] at this
    have := congrArg List.length this
    simp at this
  have rc : r ≠ c := fun e => by
    have := K.2.2.1
    rw [e, tc] at this
    have := congrArg List.length this
    simp at this
  obtain ⟨h3, hh3⟩ : ∃ h3, h3 = sI h c 2 (nI L) := ⟨_, rfl⟩
  have F3 : Fr (fun b => b = c) h h3 := by rw [hh3]; exact Fr.sI rfl
  have e2 : gI h3 c 2 = nI L := by rw [hh3, gI2, if_pos ⟨rfl, rfl⟩]
  have eo : ∀ l, l ≠ 2 → gI h3 c l = gI h c l := fun l hl => by rw [hh3, gI2, if_neg (fun z => hl z.2)]
  have gX3 : gI h3 X = gI h X := F3.2.2.2.2.2.2 X Xc
  have eP3 : gP h3 = gP h := F3.2.2.1
  have n512 : ln h (gP h c 0) ≤ 512 := slz_b sz1
  have jj : jmax (nI 0) (jmin (nI L) (nI (ln h X))) = nI L := by
    unfold jmin
    rw [if_neg (nI_nlt lX (by omega))]
    unfold jmax
    by_cases z : L = 0
    · rw [z, if_neg (nI_nlt (Nat.le_refl _) (by omega))]
    · rw [if_pos (nI_lt (by omega) (by omega))]
  have step : MX8_takeText h c X (nI L) = if ln h (gP h c 0) < L then MX8_takeText_38 h3 c X else MX8_takeText_64 h3 c X := by
    unfold MX8_takeText
    simp only [ZL]
    rw [gg_t kX, gg_t sk, jj, lt_eq, ← hh3, gg_t sA1, e2, show ln h3 (gP h c 0) = ln h (gP h c 0) by rw [F3.2.1], show ln h3 (gP h c 1) = ln h (gP h c 0) by rw [F3.2.1]; exact sl.symm]
    by_cases z : ln h (gP h c 0) < L
    · rw [if_pos z, if_pos (nI_lt z (by omega))]
    · rw [if_neg z, if_neg (nI_nlt (by omega) (by omega)), gg_t sB1, if_pos (nI_le (by omega) (by omega))]
  by_cases z : ln h (gP h c 0) < L
  · rw [if_pos z] at step
    have cs3 : c ≤ sz h3 := by rw [F3.2.2.2.1]; exact cs
    obtain ⟨tg', g', k1, k2, k3, k4, k5, k6, k6', k7, k8, k9, k10, k11, k12, k13, k14⟩ := c_grow (X := X) (L := L) (K.1.fr F3) (by rw [F3.2.2.2.1]; exact h9) cs3 c0 (by rw [F3.1]; exact sk) e2 L512
    rw [F3.2.2.2.1] at k3 k4 k5 k8 k9 k10 k11 k12 k13
    have rf := rmF_f L512
    have r512 := slz_b rf.1
    obtain ⟨h', y1, y2, y3, y4, y5, y6, y7⟩ := c_tt64 (g := g') (c := c) (X := X) (L := L) k6 (by rw [k8]; exact k10) (by rw [k9]; exact k11) (by rw [k8, k12]; exact rf.2.1) (by rw [k9, k13]; exact rf.2.1) (by rw [k8, k12]; exact r512) (by rw [(k5 X hX Xc).1, F3.1]; exact kX) (by rw [(k5 X hX Xc).2.1, F3.2.1]; exact lX) (by rw [k7]; exact e2) L512 (by rw [k8]; omega) (by rw [k9]; omega) (by rw [k8, k9]; omega) (by rw [k8]; omega) (by rw [k9]; omega)
    have gX : gI g' X = gI h X := by rw [(k5 X hX Xc).2.2.1, gX3]
    rw [gX] at y3 y4
    have eP' : gP h' = gP g' := y2.2.2.1
    -- frames
    have smo : ∀ b, b ≤ sz h → b ≠ c → sm h h' b := fun b hb hn => by
      have q1 : sm h h3 b := F3.sm hn
      have q3 : sm g' h' b := y2.sm (fun w => by
        rcases w with w | w | w
        · exact hn w
        · rw [k8] at w; omega
        · rw [k9] at w; omega)
      exact (q1.tr (k5 b hb hn)).tr q3
    have kc' : kd h' c = 7 ∧ ln h' c = ln h c := ⟨by rw [y2.1]; exact k6, by rw [y2.2.1, k6', F3.2.1]⟩
    have cP : gP h' (gP h r 10) s = c := by
      rw [(smo _ K.le A10c).2.2.2]
      exact hc.symm
    have Zf : Of tg h h' r x 10 s := ⟨fun b hb hn hA => smo b hb (fun e => by
      rcases hn with hn | hn
      · exact c0 (e.symm.trans hn)
      · exact hn (by rw [e, tc]; exact List.suffix_refl _)), (smo r hr rc).2.2.2, ⟨(smo _ K.le A10c).1, (smo _ K.le A10c).2.1, (smo _ K.le A10c).2.2.1⟩, fun l _ => by rw [(smo _ K.le A10c).2.2.2]⟩
    refine ⟨tg', h', by rw [step, k1]; exact y1, ⟨k2.fr y2, ?_, fun b hb => ⟨k4 b hb, ?_⟩, fun b hb hn => ?_⟩, ?_, Zf, ⟨kc'.1, ?_, ?_, ?_, ?_, ?_⟩, ?_, fun l hl => ?_, ?_, y4, y5, y6, fun j j2 j3 j4 j13 => ?_, cP⟩
    · rw [y2.2.2.2.1, k3]; omega
    · by_cases e : b = c
      · rw [e]
        exact ⟨by rw [kc'.1, sk], kc'.2⟩
      · exact ⟨(smo b hb e).1, (smo b hb e).2.1⟩
    · have e : b ≠ c := fun e => by
        rcases hn with hn | hn
        · exact c0 (e.symm.trans hn)
        · exact hn x rfl (by rw [e, tc]; exact List.suffix_append [s, 10] [x])
      exact ⟨(smo b hb e).2.2.1, (smo b hb e).2.2.2⟩
    · have q := rmP_of K hr Zf hA hs (by rw [cP]; exact hc)
      rw [← hc] at q
      have w1 : slP h c = 9 * (512 - ln h (gP h c 0)) := if_neg c0
      have w2 : slP h' c = 9 * (512 - rmF L) := by
        unfold slP
        rw [if_neg c0, eP', k8, y2.2.1, k12]
      rw [w1, w2] at q
      have e1 := (rmP_fr (r := 0) y2).2
      have e3 := (rmP_fr (r := 0) F3).2
      have d := rf.2.2 _ sz1 z
      unfold slz at sz1
      omega
    · rw [eP', k8, y2.1]; exact ⟨by omega, k10⟩
    · rw [eP', k9, y2.1]; exact ⟨by omega, k11⟩
    · rw [eP', k8, k9, y2.2.1, k12, k13]
    · rw [eP', k8, y2.2.1, k12]; exact rf.1
    · rw [y7 14 (by omega) (by omega) (by omega), k7, eo 14 (by omega)]
      exact s14
    · rw [eP', k8, y2.2.1, k12]; exact rf.2.1
    · rw [eP']
      exact y3 l hl
    · rw [y7 2 (by omega) (by omega) (by omega), k7]; exact e2
    · rw [y7 j j3 j4 j13, k7, eo j j2]
  · rw [if_neg z] at step
    obtain ⟨h', y1, y2, y3, y4, y5, y6, y7⟩ := c_tt64 (g := h3) (c := c) (X := X) (L := L) (by rw [F3.1]; exact sk) (by rw [F3.1, eP3]; exact sA1) (by rw [F3.1, eP3]; exact sB1) (by rw [F3.2.1, eP3]; omega) (by rw [F3.2.1, eP3, ← sl]; omega) (by rw [F3.2.1, eP3]; exact n512) (by rw [F3.1]; exact kX) (by rw [F3.2.1]; exact lX) e2 L512 (by rw [eP3]; exact nA) (by rw [eP3]; exact nB) (by rw [eP3]; exact nAB) (by rw [eP3]; exact XA) (by rw [eP3]; exact XB)
    rw [gX3] at y3 y4
    rw [eP3] at y2 y3
    have F4 : Fr (fun b => b = c ∨ b = gP h c 0 ∨ b = gP h c 1) h h' := (F3.mono (fun b w => Or.inl w)).trans y2
    have eP' : gP h' = gP h := F4.2.2.1
    have hD : ∀ b, (b = c ∨ b = gP h c 0 ∨ b = gP h c 1) → b ≠ 0 ∧ [s, 10, x] <:+ tg b := fun b w => by
      rcases w with w | w | w
      · rw [w]; exact ⟨c0, by rw [tc]; exact List.suffix_refl _⟩
      · rw [w]; exact ⟨sA, by rw [tA]; exact List.suffix_append [0] _⟩
      · rw [w]; exact ⟨sB, by rw [tB]; exact List.suffix_append [1] _⟩
    refine ⟨tg, h', by rw [step]; exact y1, Rx.fr K.1 F4 (fun b w => ⟨(hD b w).1, x, rfl, (List.suffix_append [s, 10] [x]).trans (hD b w).2⟩), ?_, Of.fr K F4 hA hD, ⟨by rw [F4.1]; exact sk, ?_, ?_, ?_, ?_, ?_⟩, ?_, fun l hl => ?_, ?_, y4, y5, y6, fun j j2 j3 j4 j13 => ?_, by rw [eP']; exact hc.symm⟩
    · rw [(rmP_fr F4).1, (rmP_fr (r := r) F4).2]
      exact Nat.le_refl _
    · rw [eP', F4.1]; exact ⟨sA, sA1⟩
    · rw [eP', F4.1]; exact ⟨sB, sB1⟩
    · rw [eP', F4.2.1]; exact sl
    · rw [eP', F4.2.1]; exact sz1
    · rw [y7 14 (by omega) (by omega) (by omega), eo 14 (by omega)]
      exact s14
    · rw [eP', F4.2.1]; omega
    · rw [eP']
      exact y3 l hl
    · rw [y7 2 (by omega) (by omega) (by omega)]; exact e2
    · rw [y7 j j3 j4 j13, eo j j2]
/-- slug q of another place is copied -/
theorem c_cpSl (K : Rt tg h r x) (hr : r ≤ sz h) (h9 : 109 ≤ sz h) (S : RmS h r) (hs : s < 300) (hc : c = gP h (gP h r 10) s) (c0 : c ≠ 0) (qS : SlS h q) (qV : SlV h q m g0) (J : oN m (g0 + 9) 401) (Jl : m (g0 + 3) = nI (ltC (fun l => m (g0 + 12 + l)) (Nn m (g0 + 9)))) (hq : q ≤ sz h) (q3 : q ≠ 3) (tq : tg q = Q) (n1 : ¬ [s, 10, x] <:+ Q) (n2 : ∀ k, ¬ [s, 10, x] <:+ k :: Q) (n3 : ∀ k, k :: [s, 10, x] ≠ Q) (q10 : q ≠ gP h r 10) (q10k : ∀ k, gP h q k ≠ gP h r 10) : ∃ tg' h', MX8_takeAll h c q = some h' ∧ Rx tg h tg' h' (fun y => y = x) ∧ cst h' + rmP h' r ≤ cst h + rmP h r ∧ Of tg h h' r x 10 s ∧ SlS h' c ∧ SlV h' c m g0 ∧ gP h' (gP h r 10) s = c := by
  have hA := S.2.2.2.2.2.2.1.1
  have cz : gP h (gP h r 10) s ≠ 0 := by rw [← hc]; exact c0
  have tc := K.o cz
  rw [← hc] at tc
  have c3 : c ≠ 3 := by rw [hc]; exact K.o3
  obtain ⟨qk, ⟨qA, qA1⟩, ⟨qB, qB1⟩, ql, qz, q14⟩ := id qS
  obtain ⟨w5, w8, w9, w3, w10, w11, w12, w14, w7, w2, w13, w6, wl, wb, w4⟩ := id qV
  obtain ⟨L, hL⟩ : ∃ L, L = Nn m (g0 + 9) := ⟨_, rfl⟩
  obtain ⟨e9, l401⟩ := J.eq (by omega)
  rw [← hL] at e9 l401 wl wb w4 Jl
  have q512 := slz_b qz
  have tqA := tgc K.1 qA q3
  have tqB := tgc K.1 qB q3
  rw [tq] at tqA tqB
  obtain ⟨tg4, h4, k1, R4, c4, Z4, S4, u1, u2, u3, u4, u5, u6, u7, u8⟩ := c_takeText (X := gP h q 0) (L := L) K hr h9 S hs hc c0 qA1 wl (K.1.2.2.2.2.2 _ _) (by rw [tqA]; exact n2 0) (by omega) (by omega)
  have K4 := R4.rt K hr h9
  obtain ⟨z1, z2, z3, z4⟩ := id Z4
  have sq : sm h h4 q := z1 q hq (Or.inr (by rw [tq]; exact n1)) q10
  have sqA : sm h h4 (gP h q 0) := z1 _ (K.1.2.2.2.2.2 _ _) (Or.inr (by rw [tqA]; exact n2 0)) (q10k 0)
  have sqB : sm h h4 (gP h q 1) := z1 _ (K.1.2.2.2.2.2 _ _) (Or.inr (by rw [tqB]; exact n2 1)) (q10k 1)
  have q10' : gP h4 (gP h4 r 10) s = c := by rw [z2]; exact u8
  obtain ⟨v0, ⟨vA, vA1⟩, ⟨vB, vB1⟩, vl, vz, v14⟩ := id S4
  have tc4 := K4.o (k := 10) (j := s) (by rw [q10']; exact c0)
  rw [q10'] at tc4
  have tq4 : tg4 q = Q := by rw [(R4.2.2.1 q hq).1]; exact tq
  have A4 : AP h4 c q := AP.of K4.1 c0 c3 q3 tc4 tq4 (fun e => n1 (by rw [← e]; exact List.suffix_refl _)) (fun k e => n2 k (by rw [e]; exact List.suffix_refl _)) n3
  obtain ⟨h10, hh10⟩ : ∃ h10, h10 = rI h4 (gP h4 c 1) (va_cpy (gI h4 (gP h4 q 1)) (gI h4 (gP h4 c 1)) 0 0 L) := ⟨_, rfl⟩
  have F10 : Fr (fun b => b = gP h4 c 1) h4 h10 := by rw [hh10]; exact Fr.rI rfl
  have A10 := A4.fr F10
  have n1c : gP h4 c 1 ≠ c := (A4.2.2.2 1 vB).1
  have gc10 : gI h10 c = gI h4 c := F10.2.2.2.2.2.2 c (fun e => n1c e.symm)
  have gq10 : gI h10 q = gI h q := by rw [F10.2.2.2.2.2.2 q (fun e => (A4.2.2.2 1 vB).2.1 e.symm), sq.2.2.1]
  have g0c : gI h10 (gP h4 c 0) = gI h4 (gP h4 c 0) := F10.2.2.2.2.2.2 _ (fun e => (A4.2.2.2 0 vA).2.2.2 1 (by omega) e)
  have g1c : ∀ l, l < L → gI h10 (gP h4 c 1) l = gI h (gP h q 1) l := fun l hl => by
    rw [hh10, gI_rI, if_pos rfl, cpy_at, if_pos hl, sq.2.2.2, sqB.2.2.1]
  have C0 : Cy h10 h10 c q [] [] := Cy.rfl
  have L4 : L ≤ ln h4 (gP h4 c 1) := by rw [← vl]; exact u1
  have K1 : ∃ h', MX8_takeAll h c q = some h' ∧ Cy h10 h' c q [14, 13, 12, 11, 10, 9, 8, 7, 6, 5, 4] [] := by
    have e42 : gI h q 2 = nI L := w2.trans e9
    have kq1 : kd h4 (gP h4 q 1) = 21 := by rw [sq.2.2.2, sqB.1]; exact qB1
    have lq1 : L ≤ ln h4 (gP h4 q 1) := by rw [sq.2.2.2, sqB.2.1, ← ql]; exact wl
    have kch : kd h c = 7 := by rw [hc]; exact (S.2.2.2.2.2.2.2.2.2.2.2.2.2.2.2.2.2.2.2 s cz).1
    unfold MX8_takeAll
    rw [gg_t qk, gg_t kch, e42, k1, ob_some, gg_t (sq.1.trans qk), gg_t v0, gg_t kq1, gg_t vB1, u3]
    simp only [ZL]
    rw [gg_t (cpB_t lq1 L4 (by omega)), lt_eq, nCl (by omega), nCl (by omega), ← hh10]
    refine Cy.numK A10 C0 fun g C => ?_
    refine Cy.numK A10 C fun g C => ?_
    refine Cy.numK A10 C fun g C => ?_
    refine Cy.numK A10 C fun g C => ?_
    refine Cy.numK A10 C fun g C => ?_
    refine Cy.numK A10 C fun g C => ?_
    refine Cy.numK A10 C fun g C => ?_
    refine Cy.numK A10 C fun g C => ?_
    refine Cy.numK A10 C fun g C => ?_
    refine Cy.numK A10 C fun g C => ?_
    rw [gg_t (show zOk (gI g q 14) = true by rw [(C.sr A10).1, gq10]; rcases q14 with z | z <;> (rw [z]; decide))]
    refine Cy.numK A10 C fun g C => ?_
    exact ⟨_, Eq.refl _, C⟩
  obtain ⟨h', y1, C⟩ := K1
  have eP10 : gP h10 = gP h4 := F10.2.2.1
  have F5 : Fr (fun b => b ≠ 0 ∧ [s, 10, x] <:+ tg4 b) h4 h' := by
    refine (F10.mono (fun b hb => ?_)).trans (C.1.mono (fun b hb => ?_))
    · have hb : b = gP h4 c 1 := hb
      rw [hb]
      exact ⟨vB, by rw [tgc K4.1 vB c3, tc4]; exact List.suffix_append [1] _⟩
    · rcases hb with hb | ⟨k, hk, hb⟩
      · rw [hb]; exact ⟨c0, by rw [tc4]; exact List.suffix_refl _⟩
      · rw [eP10] at hk hb
        rw [hb]
        exact ⟨hk, by rw [tgc K4.1 hk c3, tc4]; exact List.suffix_append [k] _⟩
  have hA4 : gP h4 r 10 ≠ 0 := by rw [z2]; exact hA
  have eP' : gP h' = gP h4 := F5.2.2.1
  have cj : ∀ j, j ∈ [14, 13, 12, 11, 10, 9, 8, 7, 6, 5, 4] → gI h' c j = gI h q j := fun j hj => by rw [C.2.1 j hj, gq10]
  have c2 : gI h' c 2 = nI L := by rw [C.2.2.1 2 (by simp), gc10]; exact u3
  have c3' : gI h' c 3 = m (g0 + 3) := by
    rw [C.2.2.1 3 (by simp), gc10, u4, Jl]
    exact congrArg nI (ltC.c _ (fun l hl => (wb l hl).1))
  have b0 : ∀ l, l < L → gI h' (gP h' c 0) l = m (g0 + 12 + l) := fun l hl => by
    have := C.2.2.2.1 0 (by simp) (by rw [eP10]; exact vA)
    rw [eP10] at this
    rw [eP', this, g0c, (u2 l hl).1]
    exact (wb l hl).1
  have b1 : ∀ l, l < L → gI h' (gP h' c 1) l = m (g0 + 432 + l) := fun l hl => by
    have := C.2.2.2.1 1 (by simp) (by rw [eP10]; exact vB)
    rw [eP10] at this
    rw [eP', this, g1c l hl]
    exact (wb l hl).2
  refine ⟨tg4, h', y1, R4.trans (Rx.fr K4.1 F5 (fun b hb => ⟨hb.1, x, rfl, (List.suffix_append [s, 10] [x]).trans hb.2⟩)), ?_, Z4.trans (Of.fr K4 F5 hA4 (fun b hb => hb)) R4.2.1 (fun y hy => (R4.2.2.1 y hy).1), ⟨by rw [F5.1]; exact v0, by rw [eP', F5.1]; exact ⟨vA, vA1⟩, by rw [eP', F5.1]; exact ⟨vB, vB1⟩, by rw [eP', F5.2.1]; exact vl, by rw [eP', F5.2.1]; exact vz, by rw [cj 14 (by simp)]; exact q14⟩, ⟨by rw [cj 5 (by simp)]; exact w5, by rw [cj 8 (by simp)]; exact w8, by rw [cj 9 (by simp)]; exact w9, c3', by rw [cj 10 (by simp)]; exact w10, by rw [cj 11 (by simp)]; exact w11, by rw [cj 12 (by simp)]; exact w12, by rw [cj 14 (by simp)]; exact w14, by rw [cj 7 (by simp)]; exact w7, by rw [c2]; exact e9.symm, by rw [cj 13 (by simp)]; exact w13, by rw [cj 6 (by simp)]; exact w6, by rw [← hL, eP', F5.2.1]; exact u1, fun l hl => ?_, by rw [cj 4 (by simp), ← hL]; exact w4⟩, ?_⟩
  · rw [(rmP_fr F5).1, (rmP_fr (r := r) F5).2]
    exact c4
  · rw [← hL] at hl
    exact ⟨b0 l hl, b1 l hl⟩
  · rw [eP']
    exact u8
end
