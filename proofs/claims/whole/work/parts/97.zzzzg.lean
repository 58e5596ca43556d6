/-! a story: the class's room behind it -/
section
variable {tg : Nat → List Nat} {g g' h2 : Hp} {r x q k S : Nat} {m M : Nat → Int32}
theorem rv_of5 (K : Rt tg g r x) (hr : r ≤ sz g) (S : RmS g r) (V : RmV g r m) (Z : Of tg g g' r x 5 q) (hq : ¬ vP m q) : RmV g' r m := by
  obtain ⟨B, v1, v2, v3, v4⟩ := rv_split.mp V
  have hA : gP g r 5 ≠ 0 := S.2.2.2.1.1
  refine rv_split.mpr ⟨RB.of K hr Z hA (by omega) B, fun i hi => ?_, fun i hi => ?_, fun i hi => ?_, fun i hi => ?_⟩
  · exact VP.of K hr Z hA (fun z => hq (by rw [← z.2]; exact hi)) (v1 i hi)
  · exact VM.of K hr Z hA (fun z => by omega) (v2 i hi)
  · exact VL.of K hr Z hA (fun z => by omega) (v3 i hi)
  · exact VY.of K hr Z hA (fun z => by omega) (v4 i hi)
/-- the count of stories and the row of sizes are written -/
theorem rv_sy (K : Rt tg g r x) (RS0 : RmS g r) (I : MI m) (V : RmV g r m) (hS : S = Nn m 1) (S20 : S < 20) (k5 : k < 5) (VN : ∀ j, j ≤ k → VP g r M (5 * S + j)) (L : ∀ y, y ≠ 1 → y ≠ 70 + S → y ≠ 90 + S → y ≠ 110 + S → (y < 130 + 645 * (5 * S) ∨ 3355 + 3225 * S ≤ y) → M y = m y) (H1 : M 1 = nI (S + 1)) (H110 : M (110 + S) = nI (k + 1)) (hh : h2 = sI (sI g (gP g r 6) S (nI (k + 1))) r 7 (nI (S + 1))) : RmS h2 r ∧ RmV h2 r M ∧ Fr (fun y => y = gP g r 6 ∨ y = r) g h2 := by
  obtain ⟨B, Ip, Is, Im, Ih, Iy, Iz, Iq⟩ := I
  obtain ⟨⟨-, f0⟩, ⟨-, f1⟩, ⟨-, f2⟩, ⟨-, f3⟩, ⟨-, f4⟩, -⟩ := B.f
  have F : Fr (fun y => y = gP g r 6 ∨ y = r) g h2 := by rw [hh]; exact (Fr.sI (S := fun y => y = gP g r 6 ∨ y = r) (Or.inl rfl)).trans (Fr.sI (Or.inr rfl))
  have r0 := K.2.2.2.2
  have a6 : gP g r 6 ≠ 0 := RS0.2.2.2.2.1.1
  have t6 := K.a a6
  have k1 : ∀ k, gP g r k ≠ r := fun k e => by
    have := K.a (k := k) (by rw [e]; exact r0)
    rw [e, K.2.2.1] at this
    have := congrArg List.length this
    simp at this
  have k2 : ∀ k j, gP g (gP g r k) j ≠ r := fun k j e => by
    have := K.o (k := k) (j := j) (by rw [e]; exact r0)
    rw [e, K.2.2.1] at this
    have := congrArg List.length this
    simp at this
  have k3 : ∀ k j l, gP g (gP g (gP g r k) j) l ≠ r := fun k j l e => by
    have := K.q (k := k) (j := j) (i := l) (by rw [e]; exact r0)
    rw [e, K.2.2.1] at this
    have := congrArg List.length this
    simp at this
  have l1 : ∀ k, k ≠ 6 → gP g r k ≠ gP g r 6 := fun k hk e => by
    have := K.a (k := k) (by rw [e]; exact a6)
    rw [e, t6] at this
    have := congrArg List.head? this
    simp at this
    omega
  have l2 : ∀ k j, gP g (gP g r k) j ≠ gP g r 6 := fun k j e => by
    have := K.o (k := k) (j := j) (by rw [e]; exact a6)
    rw [e, t6] at this
    have := congrArg List.length this
    simp at this
  have l3 : ∀ k j l, gP g (gP g (gP g r k) j) l ≠ gP g r 6 := fun k j l e => by
    have := K.q (k := k) (j := j) (i := l) (by rw [e]; exact a6)
    rw [e, t6] at this
    have := congrArg List.length this
    simp at this
  have f : ∀ y, y ≠ r → y ≠ gP g r 6 → gI h2 y = gI g y := fun y h1 h2' => F.2.2.2.2.2.2 y (fun z => z.elim h2' h1)
  have eP : gP h2 = gP g := F.2.2.1
  have sm' : ∀ y, y ≠ r → y ≠ gP g r 6 → sm g h2 y := fun y h1 h2' => F.sm (fun z => z.elim h2' h1)
  have gr : ∀ j, gI h2 r j = if j = 7 then nI (S + 1) else gI g r j := fun j => by
    rw [hh, gI_sI, if_pos rfl, gI_sI, if_neg (show ¬ r = gP g r 6 from fun e => k1 6 e.symm), up_at]
  have g6 : ∀ j, gI h2 (gP g r 6) j = if j = S then nI (k + 1) else gI g (gP g r 6) j := fun j => by
    rw [hh, gI_sI, if_neg (k1 6), gI_sI, if_pos rfl, up_at]
  have s1 := fun k hk => sm' _ (k1 k) (l1 k hk)
  have s2 := fun k j => sm' _ (k2 k j) (l2 k j)
  have s3 := fun k j l => sm' _ (k3 k j l) (l3 k j l)
  refine ⟨?_, ?_, F⟩
  · refine RS0.of F ?_
    obtain ⟨n1, n2, n3, n4, n5⟩ := RS0.n
    unfold RmN
    rw [eP]
    refine ⟨by rw [f _ (k1 4) (l1 4 (by omega))]; exact n1, by rw [f _ (k2 14 8) (l2 14 8), f _ (k2 14 9) (l2 14 9)]; exact n2, fun q hq => ?_, fun q hq => ?_, fun q hq => ?_⟩
    · rw [f _ (k3 5 q 1) (l3 5 q 1), f _ (k2 5 q) (l2 5 q), f _ (k3 5 q 2) (l3 5 q 2)]
      exact n3 q hq
    · rw [f _ (k2 8 q) (l2 8 q), f _ (k3 8 q 10) (l3 8 q 10)]
      exact n4 q hq
    · rw [f _ (k2 10 q) (l2 10 q)]
      exact n5 q hq
  · obtain ⟨a1, a2, a3, a4, a5, a6', a7, c1, c2, c3, c4, d⟩ := V
    have n1 : Nn M 1 = S + 1 := by unfold Nn; rw [H1, nCl (by omega)]
    have lo : ∀ y, y ≠ 1 → y < 70 → M y = m y := fun y h1 h2 => L y h1 (by omega) (by omega) (by omega) (by omega)
    have hi' : ∀ y, 64630 ≤ y → M y = m y := fun y h1 => L y (by omega) (by omega) (by omega) (by omega) (by omega)
    have old : ∀ q, q / 5 < S → ∀ y, (y = 70 + q / 5 ∨ y = 90 + q / 5 ∨ y = 110 + q / 5 ∨ (130 + 645 * q ≤ y ∧ y < 130 + 645 * q + 645)) → M y = m y := fun q hq y hy => by
      have : q < 5 * S := by omega
      exact L y (by omega) (by omega) (by omega) (by omega) (by omega)
    unfold RmV
    rw [eP, gr 0, gr 7, gr 3, gr 9, gr 11, if_neg (by decide), if_pos rfl, if_neg (by decide), if_neg (by decide), if_neg (by decide), n1, H1, (s1 1 (by omega)).2.2.1, (s1 12 (by omega)).2.2.1, (s1 13 (by omega)).2.2.1, lo 0 (by omega) (by omega), lo 2 (by omega) (by omega), lo 3 (by omega) (by omega), lo 4 (by omega) (by omega)]
    refine ⟨a1, rfl, a3, a4, a5, fun j hj => by rw [lo _ (by omega) (by omega)]; exact a6' j hj, fun s hs => ?_, fun q hq => ?_, fun j hj => ?_, fun s hs => ?_, fun y hy => ?_, ?_⟩
    · rw [g6]
      by_cases z : s = S
      · rw [if_pos z, z, H110]
      · rw [if_neg z, old (5 * s) (by omega) _ (Or.inr (Or.inr (Or.inl (by omega))))]
        exact a7 s (by omega)
    · by_cases z : q / 5 < S
      · have hq' : vP m q := by
          obtain ⟨q1, q2, q3⟩ := hq
          have e := old q z (110 + q / 5) (Or.inr (Or.inr (Or.inl rfl)))
          exact ⟨q1, by omega, by rw [← Nn.c e]; exact q3⟩
        refine ⟨(c1 q hq').1, ((c1 q hq').2.congr (s2 5 q) (s3 5 q)).mc (fun y hy => ?_) (Ip q hq')⟩
        rcases hy with h | h | h
        · exact old q z y (Or.inl h)
        · exact old q z y (Or.inr (Or.inl h))
        · exact old q z y (Or.inr (Or.inr (Or.inr h)))
      · obtain ⟨q1, q2, q3⟩ := hq
        rw [n1] at q2
        have qS : q / 5 = S := by omega
        have e110 : Nn M (110 + q / 5) = k + 1 := by
          unfold Nn
          rw [qS, H110, nCl (by omega)]
        rw [e110] at q3
        obtain ⟨v1, v2⟩ := VN (q % 5) (by omega)
        rw [show 5 * S + q % 5 = q by omega] at v1 v2
        exact ⟨v1, v2.congr (s2 5 q) (s3 5 q)⟩
    · rw [Nn.c (lo 3 (by omega) (by omega))] at hj
      obtain ⟨-, -, -, i3, ij⟩ := Im j hj
      refine ⟨(c2 j hj).1, ((c2 j hj).2.congr (s2 8 j) (s3 8 j)).mc (fun y hy => ?_) i3⟩
      rcases hy with ⟨h1, h2⟩ | ⟨l, hl, hx⟩
      · exact hi' y (by omega)
      · obtain ⟨hb, hb2, -⟩ := (ij l hl).2.1
        exact old _ (by rw [hS]; exact hb2) y (Or.inr (Or.inr (Or.inr (by omega))))
    · rw [Nn.c (lo 4 (by omega) (by omega))] at hs
      have hi := Is s hs
      obtain ⟨hb, hb2, -⟩ := hi.2.1
      refine ⟨(c3 s hs).1, ((c3 s hs).2.congr (s2 10 s) (s3 10 s)).mc (fun y hy => ?_) hi.2.2.2.2.2.2.2.2.2.2.2.1⟩
      rcases hy with ⟨h1, h2⟩ | h
      · exact hi' y (by omega)
      · exact old _ (by rw [hS]; exact hb2) y (Or.inl h)
    · rw [Nn.c (lo 2 (by omega) (by omega))] at hy
      exact ⟨(c4 y hy).1, ((c4 y hy).2.congr (s2 2 y) (s3 2 y)).mc (fun z hz => hi' _ (by omega)) (Iy y hy).2.1⟩
    · exact rows.mc B ⟨lo 0 (by omega) (by omega), lo 4 (by omega) (by omega), lo 7 (by omega) (by omega)⟩ (fun y h1 h2 => hi' y (by omega)) (fun s hs => ⟨hi' _ (by omega), hi' _ (by omega)⟩) d
end
