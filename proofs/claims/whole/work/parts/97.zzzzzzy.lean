/-! style: the class's room with a style more -/
/-- the style y holds the rules R -/
def CoS (h : Hp) (y : Nat) (R : List Rl) : Prop := gI h y 1 = nI R.length ∧ ∀ r, r < R.length → gI h (gP h y 2) r = nI (R.getD r dRl).1.1 ∧ gI h (gP h y 3) r = nI (R.getD r dRl).1.2.1 ∧ gI h (gP h y 4) r = nI (R.getD r dRl).1.2.2 ∧ gI h (gP h y 5) r = nI (ceL R (r + 1)) ∧ ∀ i, i < (R.getD r dRl).2.length → gI h (gP h y 6) (ceL R r + i) = nI (encC ((R.getD r dRl).2.getD i (0, 0, 0)))
section
variable {tg tg' : Nat → List Nat} {g g' h h0 h1 h2 h' : Hp} {m M : Nat → Int32} {r x c y a S du : Nat} {d d0 : Nat → Int32} {R : List Rl} {b : Nat → Nat} {e : Nat}
theorem KS.co (K : KS h0 h a R) : CoS h 5 R := ⟨K.2.2.2.1, fun r hr => by
  rw [K.1.2.2.1]
  exact K.2.2.2.2.2 r hr⟩
theorem CoS.cy (C : CoS h 5 R) (G : GdR R 400) (Y : Cy h h1 c 5 [1, 0] [6, 5, 4, 3, 2]) (S : StyS h c) : CoS h1 c R := by
  obtain ⟨F, y1, y2, y3, y4⟩ := Y
  obtain ⟨c1, c2⟩ := C
  obtain ⟨s1, s2, s3, s4, s5, s6, -⟩ := S
  obtain ⟨G1, G2, -⟩ := G
  refine ⟨by rw [y1 1 (by decide)]; exact c1, fun r hr => ?_⟩
  obtain ⟨b1, b2, b3, b4, b5⟩ := c2 r hr
  rw [F.2.2.1, y4 2 (by decide), y4 3 (by decide), y4 4 (by decide), y4 5 (by decide), s2.2.2, s3.2.2, s4.2.2, s5.2.2, if_pos (by omega), if_pos (by omega), if_pos (by omega), if_pos (by omega)]
  refine ⟨b1, b2, b3, b4, fun i hi => ?_⟩
  have m1 : ceL R (r + 1) ≤ ceL R R.length := ceL_mono _ (by omega)
  have m2 : ceL R (r + 1) = ceL R r + (R.getD r dRl).2.length := rfl
  rw [y4 6 (by decide), s6.2.2, if_pos (by omega)]
  exact b5 i hi
theorem CoS.v (C : CoS h y R) (e0 : gI h y 0 = nI du) (D : DrD d0 R d) (G : GdR R 400) (hS : S < 10) : StyV h y (styM m S du R.length (poL R R.length) d) (320962 + 562 * S) := by
  obtain ⟨c1, c2⟩ := C
  obtain ⟨G1, G2, G3, G4⟩ := G
  have p62 := poL_62 (rs := R) R.length
  obtain ⟨M, hM⟩ : ∃ M, M = styM m S du R.length (poL R R.length) d := ⟨_, rfl⟩
  rw [← hM]
  have z0 : M (320962 + 562 * S) = nI du := by rw [hM]; unfold styM; rw [if_neg (by omega), if_pos rfl]
  have z1 : M (320962 + 562 * S + 1) = nI R.length := by rw [hM]; unfold styM; rw [if_neg (by omega), if_neg (by omega), if_pos rfl]
  have n1 : Nn M (320962 + 562 * S + 1) = R.length := by unfold Nn; rw [z1, nCl (by omega)]
  have at' : ∀ j, 2 ≤ j → j < poL R R.length → M (320962 + 562 * S + j) = d j := fun j h1 h2 => by rw [hM]; exact styM_d h1 h2
  refine ⟨by rw [z0]; exact e0, by rw [z1]; exact c1, fun r => (R.getD r dRl).2, ceL R, rfl, fun r hr => ?_⟩
  rw [n1] at hr
  obtain ⟨b1, b2, b3, b4, b5⟩ := c2 r hr
  obtain ⟨a1, a2, a3, a4, a5, a6⟩ := D.1 r hr
  obtain ⟨-, -, -, o4, o5⟩ := G4 r hr
  have m1 : ceL R (r + 1) ≤ ceL R R.length := ceL_mono _ (by omega)
  have m2 : poL R (r + 1) ≤ poL R R.length := poL_mono _ (by omega)
  have m3 : poL R (r + 1) = poL R r + ((R.getD r dRl).2.flatMap encR).length := rfl
  have m4 : 62 ≤ poL R r := poL_62 r
  have k : ∀ j, j < 5 → M (320962 + 562 * S + 2 + 5 * r + j) = d (2 + 5 * r + j) := fun j hj => by
    rw [Nat.add_assoc (320962 + 562 * S), Nat.add_assoc (320962 + 562 * S)]
    exact at' (2 + 5 * r + j) (by omega) (by omega)
  have k0 : M (320962 + 562 * S + 2 + 5 * r) = d (2 + 5 * r) := k 0 (by omega)
  refine ⟨by rw [k0, a1]; exact b1, by rw [k 1 (by omega), a2]; exact b2, by rw [k 2 (by omega), a3]; exact b3, b4, rfl, by omega, b5, o4, o5, (if (R.getD r dRl).2.length = 0 then 0 else poL R r), ?_, by rw [k 3 (by omega)]; exact a4, by rw [k 4 (by omega)]; exact a5, fun j hj => ?_⟩
  · show (if (R.getD r dRl).2.length = 0 then 0 else poL R r) + ((R.getD r dRl).2.flatMap encR).length ≤ 562
    split <;> omega
  · have hj : j < ((R.getD r dRl).2.flatMap encR).length := hj
    have ne : ¬ (R.getD r dRl).2.length = 0 := fun z => by
      rw [List.length_eq_zero_iff.mp z] at hj
      exact absurd hj (Nat.not_lt_zero j)
    rw [if_neg ne, Nat.add_assoc (320962 + 562 * S), at' (poL R r + j) (by omega) (by omega)]
    exact a6 j hj
/-- the count of styles is written -/
theorem rv_st (K : Rt tg g r x) (RS0 : RmS g r) (I : MI m) (V : RmV g r m) (hS : S = Nn m 2) (S10 : S < 10) (VN : VY g r M S) (L : ∀ y, y ≠ 2 → (y < 320962 + 562 * S ∨ 320962 + 562 * S + 562 ≤ y) → M y = m y) (H2 : M 2 = nI (S + 1)) (hh : h2 = sI g r 3 (nI (S + 1))) : RmS h2 r ∧ RmV h2 r M ∧ Fr (fun y => y = r) g h2 := by
  obtain ⟨B, Ip, Is, Im, Ih, Iy, Iz, Iq⟩ := I
  obtain ⟨⟨-, f0⟩, ⟨-, f1⟩, ⟨-, f2⟩, ⟨-, f3⟩, ⟨-, f4⟩, -⟩ := B.f
  have F : Fr (fun y => y = r) g h2 := by rw [hh]; exact Fr.sI (S := fun y => y = r) rfl
  have r0 := K.2.2.2.2
  have k1 : ∀ k, gP g r k ≠ r := fun k e => by
    have := K.a (k := k) (by rw [e]; exact r0)
    rw [e, K.2.2.1] at this
    have := congrArg List.length this
    simp at this
  have k2 : ∀ k j, gP g (gP g r k) j ≠ r := fun k j e => by
    have := K.o (k := k) (j := j) (by rw [e]; exact r0)
    rw [e, K.2.2.1] at this
    have := congrArg List.length this
    simp at this
  have k3 : ∀ k j l, gP g (gP g (gP g r k) j) l ≠ r := fun k j l e => by
    have := K.q (k := k) (j := j) (i := l) (by rw [e]; exact r0)
    rw [e, K.2.2.1] at this
    have := congrArg List.length this
    simp at this
  have f : ∀ y, y ≠ r → gI h2 y = gI g y := fun y h1 => F.2.2.2.2.2.2 y h1
  have eP : gP h2 = gP g := F.2.2.1
  have sm' : ∀ y, y ≠ r → sm g h2 y := fun y h1 => F.sm h1
  have gr : ∀ j, gI h2 r j = if j = 3 then nI (S + 1) else gI g r j := fun j => by
    rw [hh, gI_sI, if_pos rfl, up_at]
  have s1 := fun k => sm' _ (k1 k)
  have s2 := fun k j => sm' _ (k2 k j)
  have s3 := fun k j l => sm' _ (k3 k j l)
  refine ⟨?_, ?_, F⟩
  · refine RS0.of F ?_
    obtain ⟨n1, n2, n3, n4, n5⟩ := RS0.n
    unfold RmN
    rw [eP]
    refine ⟨by rw [f _ (k1 4)]; exact n1, by rw [f _ (k2 14 8), f _ (k2 14 9)]; exact n2, fun q hq => ?_, fun q hq => ?_, fun q hq => ?_⟩
    · rw [f _ (k3 5 q 1), f _ (k2 5 q), f _ (k3 5 q 2)]
      exact n3 q hq
    · rw [f _ (k2 8 q), f _ (k3 8 q 10)]
      exact n4 q hq
    · rw [f _ (k2 10 q)]
      exact n5 q hq
  · obtain ⟨a1, a2, a3, a4, a5, a6', a7, c1, c2, c3, c4, d⟩ := V
    have n2 : Nn M 2 = S + 1 := by unfold Nn; rw [H2, nCl (by omega)]
    have Hb : ∀ x, x < 130 → x ≠ 2 → M x = m x := fun x hx h2 => L x h2 (by omega)
    have lo : ∀ x, 3 ≤ x → x < 320962 → M x = m x := fun x h1 h2 => L x (by omega) (by omega)
    have hi' : ∀ x, 326582 ≤ x → M x = m x := fun x h1 => L x (by omega) (by omega)
    unfold RmV
    rw [eP, gr 0, gr 7, gr 3, gr 9, gr 11, if_neg (by decide), if_neg (by decide), if_pos rfl, if_neg (by decide), if_neg (by decide), n2, H2, (s1 1).2.2.1, (s1 6).2.2.1, (s1 12).2.2.1, (s1 13).2.2.1, Hb 0 (by omega) (by omega), Hb 1 (by omega) (by omega), lo 3 (by omega) (by omega), lo 4 (by omega) (by omega), Nn.c (Hb 1 (by omega) (by omega)), Nn.c (lo 3 (by omega) (by omega)), Nn.c (lo 4 (by omega) (by omega))]
    refine ⟨a1, a2, rfl, a4, a5, fun j hj => by rw [lo _ (by omega) (by omega)]; exact a6' j hj, fun s hs => by rw [lo _ (by omega) (by omega)]; exact a7 s hs, fun q hq => ?_, fun j hj => ?_, fun s hs => ?_, fun y hy => ?_, ?_⟩
    · have hq' : vP m q := hq.c2 (fun x hx h2 => (Hb x hx h2).symm)
      have hb := hq'.1
      refine ⟨(c1 q hq').1, ((c1 q hq').2.congr (s2 5 q) (s3 5 q)).mc (fun y hy => ?_) (Ip q hq')⟩
      rcases hy with h | h | h
      · exact lo y (by omega) (by omega)
      · exact lo y (by omega) (by omega)
      · exact lo y (by omega) (by omega)
    · obtain ⟨-, -, -, i3, ij⟩ := Im j hj
      refine ⟨(c2 j hj).1, ((c2 j hj).2.congr (s2 8 j) (s3 8 j)).mc (fun y hy => ?_) i3⟩
      have i30 := (i3.eq (by omega)).2
      rcases hy with ⟨h1, h2⟩ | ⟨l, hl, hx⟩
      · exact lo y (by omega) (by omega)
      · obtain ⟨hb, hb2, -⟩ := (ij l hl).2.1
        exact lo y (by omega) (by omega)
    · have hi := Is s hs
      obtain ⟨hb, hb2, -⟩ := hi.2.1
      refine ⟨(c3 s hs).1, ((c3 s hs).2.congr (s2 10 s) (s3 10 s)).mc (fun y hy => ?_) hi.2.2.2.2.2.2.2.2.2.2.2.1⟩
      rcases hy with ⟨h1, h2⟩ | h
      · exact lo y (by omega) (by omega)
      · exact lo y (by omega) (by omega)
    · by_cases z : y = S
      · subst z
        exact ⟨VN.1, VN.2.congr (s2 2 y) (s3 2 y)⟩
      · have hy' : y < Nn m 2 := by omega
        exact ⟨(c4 y hy').1, ((c4 y hy').2.congr (s2 2 y) (s3 2 y)).mc (fun z hz => L _ (by omega) (by omega)) (Iy y hy').2.1⟩
    · rw [← Nn.c (lo 4 (by omega) (by omega))]
      exact rows.mc B ⟨Hb 0 (by omega) (by omega), lo 4 (by omega) (by omega), lo 7 (by omega) (by omega)⟩ (fun y h1 h2 => hi' y (by omega)) (fun s hs => ⟨lo _ (by omega) (by omega), lo _ (by omega) (by omega)⟩) d
end
