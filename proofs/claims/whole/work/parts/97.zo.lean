/-! all of a room is taken: the loops -/
def FinT (tg : Nat → List Nat) (g : Hp) (r x : Nat) (m : Nat → Int32) (z : Hp) : Prop := ∃ tg', Rx tg g tg' z (fun y => y = x) ∧ cst z + rmP z r ≤ cst g + rmP g r ∧ RmS z r ∧ RmV z r m
section
variable {tg tg' tg1 : Nat → List Nat} {h h' g g' : Hp} {m : Nat → Int32} {r x F q y N : Nat}
theorem tk_it (body : Hp → Int32 → Option ((Int32 × Hp) ⊕ Hp)) (V : Hp → Nat → Prop) (E : Hp → Prop) (T : TKS tg g r x q y m) (hA : gP g r F ≠ 0) (E0 : E g)
    (st : ∀ tg1 g1 j, j < N → TKS tg1 g1 r x q y m → E g1 → ∃ tg' g', body g1 (nI j) = some (.inl (nI (j + 1), g')) ∧ TkSt tg1 g1 tg' g' r x F j ∧ V g' j)
    (ke : ∀ tg1 g1 g' j, TKS tg1 g1 r x q y m → gP g1 r F ≠ 0 → Of tg1 g1 g' r x F j → E g1 → E g')
    (kv : ∀ tg1 g1 g' i j, TKS tg1 g1 r x q y m → gP g1 r F ≠ 0 → Of tg1 g1 g' r x F j → i ≠ j → V g1 i → V g' i)
    (fn : ∀ tg1 g1, TKS tg1 g1 r x q y m → E g1 → (∀ i, i < N → V g1 i) → ∃ z, body g1 (nI N) = some (.inr z) ∧ FinT tg1 g1 r x m z) :
    ∃ z, it (fun q0 : Int32 × Hp => body q0.2 q0.1) (nI 0, g) = some z ∧ FinT tg g r x m z := by
  refine it_cnt (fun j s => s.1 = nI j ∧ ∃ tg1, Rx tg g tg1 s.2 (fun y => y = x) ∧ cst s.2 + rmP s.2 r ≤ cst g + rmP g r ∧ TKS tg1 s.2 r x q y m ∧ gP s.2 r = gP g r ∧ E s.2 ∧ ∀ i, i < j → V s.2 i) N (fun j s hj pp => ?_) (fun s pp => ?_) ⟨Eq.refl _, tg, Rx.rfl T.1.1, Nat.le_refl _, T, Eq.refl _, E0, fun i hi => absurd hi (by omega)⟩
  · obtain ⟨u, g1⟩ := s
    obtain ⟨p1, tg1, p2, p3, p4, p5, p6, p7⟩ := pp
    replace p1 : u = nI j := p1
    replace p2 : Rx tg g tg1 g1 (fun y => y = x) := p2
    replace p3 : cst g1 + rmP g1 r ≤ cst g + rmP g r := p3
    replace p4 : TKS tg1 g1 r x q y m := p4
    replace p5 : gP g1 r = gP g r := p5
    replace p6 : E g1 := p6
    replace p7 : ∀ i, i < j → V g1 i := p7
    subst p1
    obtain ⟨tg2, g2, y1, ⟨z1, z2, z3, z4⟩, y3⟩ := st tg1 g1 j hj p4 p6
    have hA1 : gP g1 r F ≠ 0 := by rw [p5]; exact hA
    refine ⟨(nI (j + 1), g2), y1, Eq.refl _, tg2, p2.trans z1, Nat.le_trans z2 p3, p4.next z1 z4, z3.2.1.trans p5, ke tg1 g1 g2 j p4 hA1 z3 p6, fun i hi => ?_⟩
    by_cases e : i = j
    · rw [e]; exact y3
    · exact kv tg1 g1 g2 i j p4 hA1 z3 e (p7 i (by omega))
  · obtain ⟨u, g1⟩ := s
    obtain ⟨p1, tg1, p2, p3, p4, p5, p6, p7⟩ := pp
    replace p1 : u = nI N := p1
    replace p2 : Rx tg g tg1 g1 (fun y => y = x) := p2
    replace p3 : cst g1 + rmP g1 r ≤ cst g + rmP g r := p3
    replace p4 : TKS tg1 g1 r x q y m := p4
    replace p6 : E g1 := p6
    replace p7 : ∀ i, i < N → V g1 i := p7
    subst p1
    obtain ⟨z, y1, tg2, y2, y3, y4, y5⟩ := fn tg1 g1 p4 p6 p7
    exact ⟨z, y1, tg2, p2.trans y2, Nat.le_trans y3 p3, y4, y5⟩
theorem tk_L5 (T : TKS tg g r x q y m) (I : MI m) (B : RB g r m) (vy : ∀ i, i < Nn m 2 → VY g r m i) (vm : ∀ i, i < Nn m 3 → VM g r m i) (vl : ∀ i, i < Nn m 4 → VL g r m i) : ∃ z, MX7_takeAll_201 g r q (nI 0) = some z ∧ FinT tg g r x m z := by
  unfold MX7_takeAll_201
  refine tk_it (F := 5) (N := 100) (q := q) (y := y) (fun a b => BX7_takeAll_201 a r q b) (fun a i => vP m i → VP a r m i) (fun a => RB a r m ∧ (∀ i, i < Nn m 2 → VY a r m i) ∧ (∀ i, i < Nn m 3 → VM a r m i) ∧ ∀ i, i < Nn m 4 → VL a r m i) T T.2.2.2.1.2.2.2.1.1 ⟨B, vy, vm, vl⟩ (fun tg1 g1 j hj T1 _ => stp5 T1 I hj) (fun tg1 g1 g' j T1 hA Z ⟨e1, e2, e3, e4⟩ => ⟨e1.of T1.1 T1.2.1 Z hA (by omega), fun i hi => (e2 i hi).of T1.1 T1.2.1 Z hA (by omega), fun i hi => (e3 i hi).of T1.1 T1.2.1 Z hA (by omega), fun i hi => (e4 i hi).of T1.1 T1.2.1 Z hA (by omega)⟩) (fun tg1 g1 g' i j T1 hA Z hn v vq => (v vq).of T1.1 T1.2.1 Z hA (by omega)) (fun tg1 g1 T1 ⟨e1, e2, e3, e4⟩ v => ?_)
  obtain ⟨t1, t2, t3, t4, -⟩ := id T1
  obtain ⟨a1, a2, a3⟩ := t4.2.2.2.1
  refine ⟨g1, ?_, tg1, Rx.rfl t1.1, Nat.le_refl _, t4, rv_split.mpr ⟨e1, fun q' hq' => v q' hq'.1 hq', e3, e4, e2⟩⟩
  unfold BX7_takeAll_201
  rw [gg_t t4.1, gg_t a2, a3, if_pos (nI_le (Nat.le_refl _) (by omega))]
theorem tk_L10 (T : TKS tg g r x q y m) (I : MI m) (B : RB g r m) (vy : ∀ i, i < Nn m 2 → VY g r m i) (vm : ∀ i, i < Nn m 3 → VM g r m i) : ∃ z, MX7_takeAll_172 g r q (nI 0) = some z ∧ FinT tg g r x m z := by
  obtain ⟨-, -, -, -, ⟨b4, b4'⟩, -⟩ := I.1.f
  unfold MX7_takeAll_172
  refine tk_it (F := 10) (N := Nn m 4) (q := q) (y := y) (fun a b => BX7_takeAll_172 a r q b) (fun a i => VL a r m i) (fun a => RB a r m ∧ (∀ i, i < Nn m 2 → VY a r m i) ∧ ∀ i, i < Nn m 3 → VM a r m i) T T.2.2.2.1.2.2.2.2.2.2.1.1 ⟨B, vy, vm⟩ (fun tg1 g1 j hj T1 e => stp10 T1 I hj e.1.2.2.2.2.1) (fun tg1 g1 g' j T1 hA Z ⟨e1, e2, e3⟩ => ⟨e1.of T1.1 T1.2.1 Z hA (by omega), fun i hi => (e2 i hi).of T1.1 T1.2.1 Z hA (by omega), fun i hi => (e3 i hi).of T1.1 T1.2.1 Z hA (by omega)⟩) (fun tg1 g1 g' i j T1 hA Z hn v => v.of T1.1 T1.2.1 Z hA (by omega)) (fun tg1 g1 T1 ⟨e1, e2, e3⟩ v => ?_)
  obtain ⟨z, y1, y2⟩ := tk_L5 T1 I e1 e2 e3 v
  refine ⟨z, ?_, y2⟩
  unfold BX7_takeAll_172 MX7_takeAll_199
  rw [gg_t T1.2.2.2.1.1, e1.2.2.2.2.1, b4, if_pos (nI_le (Nat.le_refl _) (by omega))]
  simp only [ZL]
  rw [y1, up1_some]
theorem tk_L8 (T : TKS tg g r x q y m) (I : MI m) (B : RB g r m) (vy : ∀ i, i < Nn m 2 → VY g r m i) : ∃ z, MX7_takeAll_143 g r q (nI 0) = some z ∧ FinT tg g r x m z := by
  obtain ⟨-, -, -, ⟨b4, b4'⟩, -⟩ := I.1.f
  unfold MX7_takeAll_143
  refine tk_it (F := 8) (N := Nn m 3) (q := q) (y := y) (fun a b => BX7_takeAll_143 a r q b) (fun a i => VM a r m i) (fun a => RB a r m ∧ ∀ i, i < Nn m 2 → VY a r m i) T T.2.2.2.1.2.2.2.2.2.1.1 ⟨B, vy⟩ (fun tg1 g1 j hj T1 e => stp8 T1 I hj e.1.2.2.2.1) (fun tg1 g1 g' j T1 hA Z ⟨e1, e2⟩ => ⟨e1.of T1.1 T1.2.1 Z hA (by omega), fun i hi => (e2 i hi).of T1.1 T1.2.1 Z hA (by omega)⟩) (fun tg1 g1 g' i j T1 hA Z hn v => v.of T1.1 T1.2.1 Z hA (by omega)) (fun tg1 g1 T1 ⟨e1, e2⟩ v => ?_)
  obtain ⟨z, y1, y2⟩ := tk_L10 T1 I e1 e2 v
  refine ⟨z, ?_, y2⟩
  unfold BX7_takeAll_143 MX7_takeAll_170
  rw [gg_t T1.2.2.2.1.1, e1.2.2.2.1, b4, if_pos (nI_le (Nat.le_refl _) (by omega))]
  simp only [ZL]
  rw [y1, up1_some]
theorem tk_L2 (T : TKS tg g r x q y m) (I : MI m) (B : RB g r m) : ∃ z, MX7_takeAll_114 g r q (nI 0) = some z ∧ FinT tg g r x m z := by
  obtain ⟨-, -, ⟨b4, b4'⟩, -⟩ := I.1.f
  unfold MX7_takeAll_114
  refine tk_it (F := 2) (N := Nn m 2) (q := q) (y := y) (fun a b => BX7_takeAll_114 a r q b) (fun a i => VY a r m i) (fun a => RB a r m) T T.2.2.2.1.2.2.1.1 B (fun tg1 g1 j hj T1 e => stp2 T1 I hj e.2.2.1) (fun tg1 g1 g' j T1 hA Z e1 => e1.of T1.1 T1.2.1 Z hA (by omega)) (fun tg1 g1 g' i j T1 hA Z hn v => v.of T1.1 T1.2.1 Z hA (by omega)) (fun tg1 g1 T1 e1 v => ?_)
  obtain ⟨z, y1, y2⟩ := tk_L8 T1 I e1 v
  refine ⟨z, ?_, y2⟩
  unfold BX7_takeAll_114 MX7_takeAll_141
  rw [gg_t T1.2.2.2.1.1, e1.2.2.1, b4, if_pos (nI_le (Nat.le_refl _) (by omega))]
  simp only [ZL]
  rw [y1, up1_some]
theorem c_tkRoom (T : TKS tg h r x q y m) (I : MI m) : ∃ z, MX7_takeAll h r q = some z ∧ FinT tg h r x m z := by
  obtain ⟨t1, t2, t3, t4, t5, t6, t7, t8, t9⟩ := id T
  have A : AP h r q := AP.of t1.1 t1.2.2.2.2 t1.n3 t5.n3 t1.2.2.1 t5.2.2.1 (by intro z; exact t9 (by simpa using z.symm)) (fun k z => by simpa using congrArg List.length z) (fun k z => by simpa using congrArg List.length z)
  have C : Cy h h r q [] [] := Cy.rfl
  have qk := t7.1
  obtain ⟨p0, p1, -, -, p6, -, -, p12, p13, -⟩ := id t4
  obtain ⟨-, q1, -, -, q6, -, -, q12, q13, -⟩ := id t7
  unfold MX7_takeAll
  rw [gg_t qk, gg_t p0]
  refine Cy.numK A C fun g C => ?_
  refine Cy.arrK A C p1 q1 (by omega) (by simp) fun g C => ?_
  refine Cy.arrK A C p6 q6 (by omega) (by simp) fun g C => ?_
  refine Cy.arrK A C p12 q12 (by omega) (by simp) fun g C => ?_
  refine Cy.arrK A C p13 q13 (by omega) (by simp) fun g C => ?_
  refine Cy.numK A C fun g C => ?_
  refine Cy.numK A C fun g C => ?_
  refine Cy.numK A C fun g C => ?_
  refine Cy.numK A C fun g C => ?_
  have hD : ∀ b, (b = r ∨ ∃ k, gP h r k ≠ 0 ∧ b = gP h r k) → b ≠ 0 ∧ ∃ z, z = x ∧ [z] <:+ tg b := fun b hb => by
    rcases hb with hb | ⟨k, hk, hb⟩
    · rw [hb]; exact ⟨t1.2.2.2.2, x, rfl, by rw [t1.2.2.1]; exact List.suffix_refl _⟩
    · rw [hb]; exact ⟨hk, x, rfl, by rw [t1.a hk]; exact List.suffix_append [k] [x]⟩
  have R1 : Rx tg h tg g (fun z => z = x) := Rx.fr t1.1 C.1 hD
  have eP : gP g = gP h := C.1.2.2.1
  have deep : ∀ k j, gI g (gP h (gP h r k) j) = gI h (gP h (gP h r k) j) ∧ ∀ l, gI g (gP h (gP h (gP h r k) j) l) = gI h (gP h (gP h (gP h r k) j) l) := fun k j => by
    refine ⟨C.1.2.2.2.2.2.2 _ (fun hb => ?_), fun l => C.1.2.2.2.2.2.2 _ (fun hb => ?_)⟩
    · rcases hb with hb | ⟨k', hk, hb⟩
      · have := t1.o (k := k) (j := j) (by rw [hb]; exact t1.2.2.2.2)
        rw [hb, t1.2.2.1] at this
        have := congrArg List.length this
        simp at this
      · have := t1.o (k := k) (j := j) (by rw [hb]; exact hk)
        rw [hb, t1.a hk] at this
        have := congrArg List.length this
        simp at this
    · rcases hb with hb | ⟨k', hk, hb⟩
      · have := t1.q (k := k) (j := j) (i := l) (by rw [hb]; exact t1.2.2.2.2)
        rw [hb, t1.2.2.1] at this
        have := congrArg List.length this
        simp at this
      · have := t1.q (k := k) (j := j) (i := l) (by rw [hb]; exact hk)
        rw [hb, t1.a hk] at this
        have := congrArg List.length this
        simp at this
  have S1 : RmS g r := by
    refine t4.of C.1 ?_
    obtain ⟨n1, n2, n3, n4, n5⟩ := t4.n
    unfold RmN
    rw [eP]
    have k4 : gI g (gP h r 4) = gI h (gP h r 4) := C.2.2.2.1 4 (by simp) t4.2.2.2.2.2.2.2.2.2.2.2.2.2.2.1.1
    refine ⟨by rw [k4]; exact n1, by rw [(deep 14 8).1, (deep 14 9).1]; exact n2, fun q hq => ?_, fun q hq => ?_, fun q hq => ?_⟩
    · rw [(deep 5 q).2, (deep 5 q).1, (deep 5 q).2]
      exact n3 q hq
    · rw [(deep 8 q).1, (deep 8 q).2]
      exact n4 q hq
    · rw [(deep 10 q).1]
      exact n5 q hq
  have T1 := T.next R1 S1
  obtain ⟨⟨b0, b0'⟩, ⟨b1, b1'⟩, -, -, -, -, -, ⟨b7, b7'⟩⟩ := I.1.f
  have B : RB g r m := by
    obtain ⟨a1, a2, a3, a4, a5, a6, a7, -, -, -, -, d⟩ := t8
    unfold RB
    rw [eP, C.2.1 0 (by simp), C.2.1 7 (by simp), C.2.1 3 (by simp), C.2.1 9 (by simp), C.2.1 11 (by simp)]
    refine ⟨a1, a2, a3, a4, a5, fun i hi => ?_, fun s hs => ?_, fun i hi k hk => ?_⟩
    · rw [C.2.2.2.2 1 (by simp), if_pos (by rw [p1.2.2]; omega)]
      exact a6 i hi
    · rw [C.2.2.2.2 6 (by simp), if_pos (by rw [p6.2.2]; omega)]
      exact a7 s hs
    · rw [C.2.2.2.2 12 (by simp), if_pos (by rw [p12.2.2]; omega), C.2.2.2.2 13 (by simp), if_pos (by rw [p13.2.2]; omega)]
      exact d i hi k hk
  obtain ⟨z, y1, tg2, y2, y3, y4, y5⟩ := tk_L2 T1 I B
  refine ⟨z, ?_, tg2, R1.trans y2, ?_, y4, y5⟩
  · simp only [ZL]
    exact y1
  · rw [(rmP_fr C.1).1, (rmP_fr (r := r) C.1).2] at y3
    exact y3
end
