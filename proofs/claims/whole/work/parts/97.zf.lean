/-! rows of a desk -/
def RC (h : Hp) (d q n : Nat) (w : Nat → Int32) : Prop := gI h (gP h d 5) q = nI n ∧ (n ≠ 0 → gP h (gP h d 4) q ≠ 0) ∧ ∀ l, l < n → gI h (gP h (gP h d 4) q) l = w l
def Dx (tg : Nat → List Nat) (h h' : Hp) (d y row : Nat) : Prop := (∀ b, b ≤ sz h → b ≠ gP h d 4 → b ≠ gP h d 5 → (b = 0 ∨ tg b ≠ [row, 4, y]) → sm h h' b) ∧ ∀ q, q ≠ row → gI h' (gP h d 5) q = gI h (gP h d 5) q ∧ gP h' (gP h d 4) q = gP h (gP h d 4) q
/-- what is left after rows of a desk were written -/
def Dy (tg : Nat → List Nat) (h : Hp) (tg' : Nat → List Nat) (h' : Hp) (d y : Nat) : Prop := Rx tg h tg' h' (fun z => z = y) ∧ cst h' + dkP h' d ≤ cst h + dkP h d ∧ DkS h' d ∧ gP h' d = gP h d
section
variable {tg tg' tg1 tg2 : Nat → List Nat} {h h' h1 h2 : Hp} {w : Nat → Int32} {v v3 : Int32} {D : Nat → Prop} {d y row q n c : Nat}
theorem DkS.f (S : DkS h d) : kd h d = 1 ∧ (gP h d 4 ≠ 0 ∧ kd h (gP h d 4) = 24 ∧ ln h (gP h d 4) = 54) ∧ (gP h d 5 ≠ 0 ∧ kd h (gP h d 5) = 20 ∧ ln h (gP h d 5) = 54) ∧ ∀ r, gP h (gP h d 4) r ≠ 0 → kd h (gP h (gP h d 4) r) = 20 ∧ ln h (gP h (gP h d 4) r) = 180 := ⟨S.1, S.2.2.2.2.2.1, S.2.2.2.2.2.2.1, S.2.2.2.2.2.2.2.2.2.2.2⟩
theorem dks_fr (S : DkS h d) (F : Fr D h h') : DkS h' d := by
  obtain ⟨e1, e2, e3, -⟩ := F
  unfold DkS ar
  rw [e1, e2, e3]
  exact S
theorem dkP_fr (F : Fr D h h') : dkP h' d = dkP h d := by
  unfold dkP
  rw [F.2.2.1]
theorem Dy.trans (a : Dy tg h tg1 h1 d y) (b : Dy tg1 h1 tg2 h2 d y) : Dy tg h tg2 h2 d y := ⟨a.1.trans b.1, Nat.le_trans b.2.1 a.2.1, b.2.2.1, b.2.2.2.trans a.2.2.2⟩
theorem Dy.rfl (O : Own tg h) (S : DkS h d) : Dy tg h tg h d y := ⟨Rx.rfl O, Nat.le_refl _, S, Eq.refl _⟩
theorem Dx.rfl : Dx tg h h d y row := ⟨fun _ _ _ _ _ => ⟨Eq.refl _, Eq.refl _, Eq.refl _, Eq.refl _⟩, fun _ _ => ⟨Eq.refl _, Eq.refl _⟩⟩
theorem Dx.trans (a : Dx tg h h1 d y row) (b : Dx tg1 h1 h2 d y row) (hz : sz h ≤ sz h1) (ht : ∀ x, x ≤ sz h → tg1 x = tg x) (e : gP h1 d = gP h d) : Dx tg h h2 d y row := by
  refine ⟨fun x hx n4 n5 hn => (a.1 x hx n4 n5 hn).tr (b.1 x (by omega) (by rw [e]; exact n4) (by rw [e]; exact n5) (by rw [ht x hx]; exact hn)), fun q hq => ?_⟩
  obtain ⟨a1, a2⟩ := a.2 q hq
  obtain ⟨b1, b2⟩ := b.2 q hq
  rw [e] at b1 b2
  exact ⟨b1.trans a1, b2.trans a2⟩
theorem RC.keep (K : Rt tg h d y) (S : DkS h d) (X : Dx tg h h' d y row) (e : gP h' d = gP h d) (hq : q ≠ row) (A : RC h d q n w) : RC h' d q n w := by
  obtain ⟨a1, a2, a3⟩ := A
  obtain ⟨x1, x2⟩ := X
  obtain ⟨u1, u2⟩ := x2 q hq
  obtain ⟨-, s4, s5, s6⟩ := S.f
  unfold RC
  rw [e, u1, u2]
  refine ⟨a1, a2, fun l hl => ?_⟩
  have cz := a2 (by omega)
  have tc := K.o cz
  have s := x1 (gP h (gP h d 4) q) (K.1.2.2.2.2.2 _ _) (fun z => by
    have := K.a s4.1
    rw [← z, tc] at this
    have := congrArg List.length this
    simp at this) (fun z => by
    have := K.a s5.1
    rw [← z, tc] at this
    have := congrArg List.length this
    simp at this) (Or.inr (by
    rw [tc]
    exact fun z => hq (List.cons.inj z).1))
  rw [s.2.2.1]
  exact a3 l hl
/-- the write itself, where the row is there -/
theorem c_addSl1 (K : Rt tg h d y) (S : DkS h d) (hrow : row < 54) (hn : n < 180) (hc : gP h (gP h d 4) row ≠ 0) (A : RC h d row n w) : ∃ h', MX2_addSlug_20 h d (nI row) v = some h' ∧ Fr (fun x => x = gP h (gP h d 4) row ∨ x = gP h d 5) h h' ∧ (∀ q, q ≠ row → gI h' (gP h d 5) q = gI h (gP h d 5) q) ∧ RC h' d row (n + 1) (va_up w n v) := by
  obtain ⟨k1, ⟨s4, s4a, s4b⟩, ⟨s5, s5a, s5b⟩, s6⟩ := S.f
  obtain ⟨c1, c2⟩ := s6 row hc
  obtain ⟨a1, a2, a3⟩ := A
  obtain ⟨c, hcc⟩ : ∃ c, c = gP h (gP h d 4) row := ⟨_, Eq.refl _⟩
  have tc := K.o hc
  have t5 := K.a s5
  rw [← hcc] at c1 c2 a3 tc hc ⊢
  have n5 : gP h d 5 ≠ c := fun z => by
    rw [z, tc] at t5
    have := congrArg List.length t5
    simp at this
  have nl : ¬ nI 180 ≤ nI n := nI_ge hn (by omega)
  refine ⟨sI (sI h c n v) (gP h d 5) row (nI (n + 1)), ?_, ?_, fun q hq => ?_, ?_, fun _ => ?_, fun l hl => ?_⟩
  · have g5 : gI (sI h c n v) (gP h d 5) row = nI n := by rw [gI2, if_neg (fun z => n5 z.1)]; exact a1
    unfold MX2_addSlug_20
    simp only [ZL]
    rw [gg_t k1, gg_t s5a, s5b, gg_in hrow (by omega), nCl (by omega), a1, if_neg nl, gg_t s4a, s4b, gg_in hrow (by omega), ← hcc, gg_t c1, c2, gg_in hn (by omega), lt_eq, nCl (by omega), g5, nAdd, lt_eq]
  · exact (Fr.sI (S := fun x => x = c ∨ x = gP h d 5) (Or.inl (Eq.refl _))).trans (Fr.sI (S := fun x => x = c ∨ x = gP h d 5) (Or.inr (Eq.refl _)))
  · rw [gI2, if_neg (fun z => hq z.2), gI2, if_neg (fun z => n5 z.1)]
  · show gI (sI (sI h c n v) (gP h d 5) row (nI (n + 1))) (gP h d 5) row = nI (n + 1)
    rw [gI2, if_pos ⟨Eq.refl _, Eq.refl _⟩]
  · show gP h (gP h d 4) row ≠ 0
    rw [← hcc]
    exact hc
  · show gI (sI (sI h c n v) (gP h d 5) row (nI (n + 1))) (gP h (gP h d 4) row) l = va_up w n v l
    rw [← hcc, gI2, if_neg (fun z => n5 z.1.symm), gI2, up_at]
    by_cases z : l = n
    · rw [if_pos ⟨Eq.refl _, z⟩, if_pos z]
    · rw [if_neg (fun q => z q.2), if_neg z]
      exact a3 l (by omega)
theorem c_addSlug (K : Rt tg h d y) (hd : d ≤ sz h) (h9 : 109 ≤ sz h) (S : DkS h d) (hrow : row < 54) (hn : n < 180) (A : RC h d row n w) : ∃ tg' h', MX2_addSlug h d (nI row) v = some h' ∧ Dy tg h tg' h' d y ∧ Dx tg h h' d y row ∧ RC h' d row (n + 1) (va_up w n v) := by
  obtain ⟨k1, ⟨s4, s4a, s4b⟩, ⟨s5, s5a, s5b⟩, s6⟩ := S.f
  have t4 := K.a s4
  have t5 := K.a s5
  by_cases z : gP h (gP h d 4) row = 0
  · obtain ⟨X, N, e1, e2⟩ := (Bl.start (K := 20) (n := 180) (T := row :: tg (gP h d 4)) K.1 h9).fl K.le s4
    obtain ⟨h1, hh1⟩ : ∃ h1, h1 = sP (alc h 20 180) (gP h d 4) row (sz h + 1) := ⟨_, Eq.refl _⟩
    have N0 := N.1
    have N1 := N.2.2.1
    have lp : ln h1 (sz h + 1) = 180 := by
      rw [hh1]
      exact (alc_new (h := h) (k := 20) (n := 180)).2.1
    rw [← hh1] at X N0 N1 e1 e2
    obtain ⟨tg1, htg⟩ : ∃ tg1, tg1 = va_up tg (sz h + 1) (row :: tg (gP h d 4)) := ⟨_, Eq.refl _⟩
    rw [← htg] at X
    have K1 := X.rt K hd h9
    obtain ⟨z0, z1, z2, z3⟩ := X.cells K hd s4
    obtain ⟨-, x2, x3, x4, x5, ⟨x6, x6', x6''⟩, x7⟩ := id X
    have eP : gP h1 d = gP h d := z0.2.2.2
    have cP : gP h1 (gP h1 d 4) row = sz h + 1 := by rw [eP, x7, if_pos (Eq.refl _)]
    have S1 : DkS h1 d := by
      obtain ⟨a0, a1, a2, a3, a4, a5, a6, a7, a8, a9, a10, a11⟩ := S
      have ark : ∀ k c l, ar h d k c l → ar h1 d k c l := fun k c l ⟨q1, q2, q3⟩ => by
        unfold ar
        rw [eP]
        by_cases zk : k = 4
        · rw [zk] at q1 q2 q3 ⊢
          rw [x6, x6']
          exact ⟨q1, q2, q3⟩
        · rw [(z1 k zk).1, (z1 k zk).2.1]
          exact ⟨q1, q2, q3⟩
      refine ⟨by rw [z0.1]; exact a0, ark _ _ _ a1, ark _ _ _ a2, ark _ _ _ a3, ark _ _ _ a4, ark _ _ _ a5, ark _ _ _ a6, ark _ _ _ a7, ark _ _ _ a8, ark _ _ _ a9, ark _ _ _ a10, fun r hr => ?_⟩
      rw [eP, x7] at hr ⊢
      by_cases zr : r = row
      · rw [if_pos zr]
        exact ⟨N0, lp⟩
      · rw [if_neg zr] at hr ⊢
        rw [(z2 4 r).1, (z2 4 r).2.1]
        exact a11 r hr
    have n0 : n = 0 := by
      by_cases q : n = 0
      · exact q
      · exact absurd z (A.2.1 q)
    subst n0
    have A1 : RC h1 d row 0 w := ⟨by rw [eP, (z1 5 (by omega)).2.2.1]; exact A.1, fun q => absurd (Eq.refl _) q, fun l hl => absurd hl (by omega)⟩
    obtain ⟨h2, w1, w2, w3, w4⟩ := c_addSl1 (v := v) K1 S1 hrow hn (by rw [cP]; omega) A1
    have D2 : ∀ b, (b = gP h1 (gP h1 d 4) row ∨ b = gP h1 d 5) → b ≠ 0 ∧ ∃ x, x = y ∧ [x] <:+ tg1 b := fun b hb => by
      rcases hb with hb | hb
      · refine ⟨by rw [hb, cP]; omega, y, Eq.refl _, ?_⟩
        rw [hb, K1.o (by rw [cP]; omega)]
        exact List.suffix_append [row, 4] [y]
      · refine ⟨by rw [hb, eP]; exact s5, y, Eq.refl _, ?_⟩
        rw [hb, K1.a (by rw [eP]; exact s5)]
        exact List.suffix_append [5] [y]
    refine ⟨tg1, h2, ?_, ⟨(Rx.fl (W := fun z => z = y) X (x := y) (Eq.refl _) (by rw [t4]; exact List.suffix_append [4] [y]) s4).trans (Rx.fr K1.1 w2 D2), ?_, dks_fr S1 w2, by rw [w2.2.2.1]; exact eP⟩, ⟨fun b hb n4 n5 hn => (x5 b hb n4).tr (w2.sm (fun q => ?_)), fun q hq => ?_⟩, w4⟩
    · have k24 : kd (alc h 20 180) (gP h d 4) = 24 := (alc_sm K.le).1.trans s4a
      have l54 : ln (alc h 20 180) (gP h d 4) = 54 := (alc_sm K.le).2.1.trans s4b
      unfold MX2_addSlug
      rw [gg_t k1, gg_t s4a, s4b, gg_in hrow (by omega), nCl (by omega), if_pos z, lt_eq, gg_t k24, l54, gg_in hrow (by omega), lt_eq, ← hh1, w1]
    · rw [dkP_fr w2, (rmP_fr (r := 0) w2).2]
      have : dkP h1 d + 255 = dkP h d := by
        unfold dkP
        rw [eP]
        have q := sumN_1 (g := fun i => if gP h1 (gP h d 4) i = 0 then 255 else 0) (q := fun i => if gP h (gP h d 4) i = 0 then 255 else 0) 54 hrow (fun i _ hi => by
          show (if gP h1 (gP h d 4) i = 0 then 255 else 0) = (if gP h (gP h d 4) i = 0 then 255 else 0)
          rw [x7, if_neg hi])
        have w1 : (if gP h (gP h d 4) row = 0 then 255 else 0) = 255 := if_pos z
        have w2 : (if gP h1 (gP h d 4) row = 0 then 255 else 0) = 0 := if_neg (by rw [x7, if_pos (Eq.refl _)]; omega)
        have q : sumN (fun i => if gP h1 (gP h d 4) i = 0 then 255 else 0) 54 + (if gP h (gP h d 4) row = 0 then 255 else 0) = sumN (fun i => if gP h (gP h d 4) i = 0 then 255 else 0) 54 + (if gP h1 (gP h d 4) row = 0 then 255 else 0) := q
        rw [w1, w2] at q
        omega
      have e1 : nc h1 = nc h + 1 := e1
      have e2 : ns h1 = ns h + 180 := e2
      unfold cst
      omega
    · rcases q with q | q
      · rw [cP] at q
        omega
      · rw [eP] at q
        exact n5 q
    · have := w3 q hq
      rw [eP] at this
      rw [this, (z1 5 (by omega)).2.2.1, w2.2.2.1, x7, if_neg hq]
      exact ⟨Eq.refl _, Eq.refl _⟩
  · obtain ⟨h2, w1, w2, w3, w4⟩ := c_addSl1 (v := v) K S hrow hn z A
    have tc := K.o z
    have D2 : ∀ b, (b = gP h (gP h d 4) row ∨ b = gP h d 5) → b ≠ 0 ∧ ∃ x, x = y ∧ [x] <:+ tg b := fun b hb => by
      rcases hb with hb | hb
      · refine ⟨by rw [hb]; exact z, y, Eq.refl _, ?_⟩
        rw [hb, tc]
        exact List.suffix_append [row, 4] [y]
      · refine ⟨by rw [hb]; exact s5, y, Eq.refl _, ?_⟩
        rw [hb, t5]
        exact List.suffix_append [5] [y]
    refine ⟨tg, h2, ?_, ⟨Rx.fr K.1 w2 D2, ?_, dks_fr S w2, by rw [w2.2.2.1]⟩, ⟨fun b hb n4 n5 hn => w2.sm (fun q => ?_), fun q hq => ⟨w3 q hq, by rw [w2.2.2.1]⟩⟩, w4⟩
    · unfold MX2_addSlug
      rw [gg_t k1, gg_t s4a, s4b, gg_in hrow (by omega), nCl (by omega), if_neg z, w1]
    · rw [dkP_fr w2, (rmP_fr (r := 0) w2).2]
      exact Nat.le_refl _
    · rcases q with q | q
      · rcases hn with hn | hn
        · exact z (q.symm.trans hn)
        · exact hn (by rw [q, tc])
      · exact n5 q
theorem RC.cg {w' : Nat → Int32} (A : RC h d q n w) (e : ∀ l, l < n → w l = w' l) : RC h d q n w' := ⟨A.1, A.2.1, fun l hl => (A.2.2 l hl).trans (e l hl)⟩
theorem cl_le (v3 : Int32) {j : Nat} (hj : j < 2147483648) : v3 ≤ nI j ↔ v3.toNatClampNeg ≤ j := by
  rcases arg2 v3 with z | ⟨k, hk, rfl⟩
  · have e : v3.toNatClampNeg = 0 := by
      rw [Int32.lt_iff_toInt_lt] at z
      have z : v3.toInt < 0 := z
      show v3.toInt.toNat = 0
      omega
    rw [e]
    refine ⟨fun _ => Nat.zero_le _, fun _ => ?_⟩
    rw [Int32.le_iff_toInt_le, nI_toInt hj]
    rw [Int32.lt_iff_toInt_lt] at z
    have z : v3.toInt < 0 := z
    omega
  · rw [nLe hk hj, nCl hk]
/-- a row is taken from a cell -/
def rwK (c : Nat) (v3 : Int32) : Nat := if c = 0 then 0 else min v3.toNatClampNeg 180
theorem c_takeRow (K : Rt tg h d y) (hd : d ≤ sz h) (h9 : 109 ≤ sz h) (S : DkS h d) (hrow : row < 54) (hc : c ≤ sz h) (hk : c ≠ 0 → kd h c = 20 ∧ ln h c = 180 ∧ c ≠ gP h d 5 ∧ tg c ≠ [row, 4, y]) : ∃ tg' h', MX2_takeRow h d (nI row) c v3 = some h' ∧ Dy tg h tg' h' d y ∧ Dx tg h h' d y row ∧ RC h' d row (rwK c v3) (gI h c) := by
  obtain ⟨k1, ⟨s4, s4a, s4b⟩, ⟨s5, s5a, s5b⟩, s6⟩ := S.f
  obtain ⟨L, hL⟩ : ∃ L, L = rwK c v3 := ⟨_, Eq.refl _⟩
  have L180 : L ≤ 180 := by
    rw [hL]
    unfold rwK
    by_cases z : c = 0
    · rw [if_pos z]; omega
    · rw [if_neg z]; omega
  have t5 := K.a s5
  obtain ⟨h0, hh0⟩ : ∃ h0, h0 = sI h (gP h d 5) row (nI 0) := ⟨_, Eq.refl _⟩
  have F0 : Fr (fun x => x = gP h d 5) h h0 := by rw [hh0]; exact Fr.sI (Eq.refl _)
  have g5 : ∀ q, gI h0 (gP h d 5) q = if q = row then nI 0 else gI h (gP h d 5) q := fun q => by
    rw [hh0, gI2]
    by_cases z : q = row
    · rw [if_pos ⟨Eq.refl _, z⟩, if_pos z]
    · rw [if_neg (fun w => z w.2), if_neg z]
  have hc5 : c ≠ 0 → c ≠ gP h d 4 := fun z e => by
    have := (hk z).1
    rw [e, s4a] at this
    exact absurd this (by omega)
  have K0 : ∃ z, it (fun q : Int32 × Hp => BX2_takeRow_10 q.2 d (nI row) c v3 q.1) (nI 0, h0) = some z ∧ (∃ tg', Dy tg h tg' z d y ∧ Dx tg h z d y row ∧ RC z d row L (gI h c)) := by
    refine it_cnt (fun j s => s.1 = nI j ∧ ∃ tg', Dy tg h tg' s.2 d y ∧ Dx tg h s.2 d y row ∧ RC s.2 d row j (gI h c)) L (fun j s hj pp => ?_) (fun s pp => ?_) ⟨Eq.refl _, tg, ⟨Rx.fr K.1 F0 (fun b hb => ?_), ?_, dks_fr S F0, by rw [F0.2.2.1]⟩, ⟨fun b hb n4 n5 hn => F0.sm n5, fun q hq => ⟨by rw [g5, if_neg hq], by rw [F0.2.2.1]⟩⟩, ⟨?_, fun q => absurd (Eq.refl _) q, fun l hl => absurd hl (by omega)⟩⟩
    · obtain ⟨u, g⟩ := s
      obtain ⟨p1, tg1, p2, p3, p4⟩ := pp
      replace p1 : u = nI j := p1
      replace p2 : Dy tg h tg1 g d y := p2
      replace p3 : Dx tg h g d y row := p3
      replace p4 : RC g d row j (gI h c) := p4
      subst p1
      obtain ⟨r1, r2, r3, r4⟩ := p2
      have K1 := r1.rt K hd h9
      have cz : c ≠ 0 := fun z => by
        rw [hL] at hj
        unfold rwK at hj
        rw [if_pos z] at hj
        omega
      obtain ⟨q1, q2, q3, q4⟩ := hk cz
      have sc : sm h g c := p3.1 c hc (hc5 cz) q3 (Or.inr q4)
      have hj3 : j < v3.toNatClampNeg := by
        rw [hL] at hj
        unfold rwK at hj
        rw [if_neg cz] at hj
        omega
      obtain ⟨tg2, g2, y1, y2, y3, y4⟩ := c_addSlug (v := gI h c j) K1 (by have := r1.2.1; omega) (by have := r1.2.1; omega) r3 hrow (by omega : j < 180) p4
      refine ⟨(nI (j + 1), g2), ?_, Eq.refl _, tg2, Dy.trans ⟨r1, r2, r3, r4⟩ y2, Dx.trans p3 y3 r1.2.1 (fun x hx => (r1.2.2.1 x hx).1) r4, y4.cg (fun l hl => ?_)⟩
      · show BX2_takeRow_10 g d (nI row) c v3 (nI j) = _
        have n1 : ¬ v3 ≤ nI j := fun z => by
          rw [cl_le v3 (by omega)] at z
          omega
        have kc : kd g c = 20 := sc.1.trans q1
        have lc : ln g c = 180 := sc.2.1.trans q2
        unfold BX2_takeRow_10
        rw [if_neg n1, if_neg cz, gg_t kc, lc, if_neg (nI_ge (by omega) (by omega)), gg_in (by omega) (by omega), gg_t r3.1, nCl (by omega), sc.2.2.1, y1, ob_some]
        simp only [ZL, nAdd]
      · rw [up_at]
        by_cases z : l = j
        · rw [if_pos z, z]
        · rw [if_neg z]
    · obtain ⟨u, g⟩ := s
      obtain ⟨p1, tg1, p2, p3, p4⟩ := pp
      replace p1 : u = nI L := p1
      replace p2 : Dy tg h tg1 g d y := p2
      replace p3 : Dx tg h g d y row := p3
      replace p4 : RC g d row L (gI h c) := p4
      subst p1
      refine ⟨g, ?_, tg1, p2, p3, p4⟩
      show BX2_takeRow_10 g d (nI row) c v3 (nI L) = _
      unfold BX2_takeRow_10
      by_cases z3 : v3 ≤ nI L
      · rw [if_pos z3]
      · rw [if_neg z3]
        by_cases cz : c = 0
        · rw [if_pos cz]
        · obtain ⟨q1, q2, q3, q4⟩ := hk cz
          have sc : sm h g c := p3.1 c hc (hc5 cz) q3 (Or.inr q4)
          have kc : kd g c = 20 := sc.1.trans q1
          have lc : ln g c = 180 := sc.2.1.trans q2
          have z4 : L = 180 := by
            rw [cl_le v3 (by omega)] at z3
            rw [hL] at z3 ⊢
            unfold rwK at z3 ⊢
            rw [if_neg cz] at z3 ⊢
            omega
          rw [if_neg cz, gg_t kc, lc, z4, if_pos (nI_le (Nat.le_refl _) (by omega))]
    · have hb : b = gP h d 5 := hb
      rw [hb]
      exact ⟨s5, y, Eq.refl _, by rw [t5]; exact List.suffix_append [5] [y]⟩
    · show cst h0 + dkP h0 d ≤ cst h + dkP h d
      rw [dkP_fr F0, (rmP_fr (r := 0) F0).2]
      exact Nat.le_refl _
    · show gI h0 (gP h0 d 5) row = nI 0
      rw [F0.2.2.1, g5, if_pos (Eq.refl _)]
  obtain ⟨z, y1, tg', y2, y3, y4⟩ := K0
  rw [hL] at y4
  refine ⟨tg', z, ?_, y2, y3, y4⟩
  unfold MX2_takeRow MX2_takeRow_10
  simp only [ZL]
  rw [gg_t k1, gg_t s5a, s5b, gg_in hrow (by omega), lt_eq, nCl (by omega), ← hh0, y1]
end
