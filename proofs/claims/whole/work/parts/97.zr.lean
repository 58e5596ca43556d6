/-! what hangs at the object itself; the room alone, the desk alone, and so on -/
section
variable {tg tg' tg1 tg2 : Nat → List Nat} {h h' h1 h2 : Hp} {m m' k k' t : Nat → Int32} {i i' n f : Int32} {W : Nat → Prop} {A p j r y d l : Nat} {T : List Nat}
theorem rx_b (O : Own tg h) (Y : XS h) (Y2 : XS2 h) (T : TpV h t n f) (h9 : 109 ≤ sz h) (X : Rx tg h tg' h' W) (hW : ∀ y, W y → y = 5 ∨ y = 6 ∨ y = 9 ∨ y = 10 ∨ y = 11) : XS h' ∧ XS2 h' ∧ TpV h' t n f := by
  obtain ⟨t1, t2, t3, t4, t5, t13, t19, t48, t59, t68⟩ := tgs O Y
  have kl : ∀ b, b ≤ 109 → kd h' b = kd h b ∧ ln h' b = ln h b := fun b hb => (X.2.2.1 b (by omega)).2
  have w : ∀ y, y ≠ 5 ∧ y ≠ 6 ∧ y ≠ 9 ∧ y ≠ 10 ∧ y ≠ 11 → ¬ W y := fun y hy z => by
    have := hW y z
    omega
  have s3 : sm h h' 3 := rx_sm X (by omega) (Or.inr (by rw [t3]; exact nsx (w 3 (by omega)) (List.suffix_refl _)))
  have s2 : sm h h' 2 := rx_sm X (by omega) (Or.inr (by rw [t2]; exact nsx (w 0 (by omega)) (List.suffix_refl _)))
  have s1 : sm h h' 1 := rx_sm X (by omega) (Or.inr (by rw [t1]; exact nsx0))
  have s5 : sm h h' 5 := rx_sm X (by omega) (Or.inr (by rw [t5]; exact nsx (w 3 (by omega)) (List.suffix_append [5] [3])))
  have s5k : ∀ k, sm h h' (gP h 5 k) := fun k => rx_sm X (O.2.2.2.2.2 _ _) (by
    by_cases z : gP h 5 k = 0
    · exact Or.inl z
    · refine Or.inr (nsx (w 3 (by omega)) ?_)
      rw [tgc O z (by omega), t5]
      exact List.suffix_append [k, 5] [3])
  have r59 := rx_sm3 X (⟨O, t3, t59, by omega, by omega⟩ : Rt tg h 59 7) (by omega) (w 7 (by omega))
  have r68 := rx_sm3 X (⟨O, t3, t68, by omega, by omega⟩ : Rt tg h 68 8) (by omega) (w 8 (by omega))
  have r13 := rx_sm3 X (⟨O, t3, t13, by omega, by omega⟩ : Rt tg h 13 4) (by omega) (w 4 (by omega))
  have arx : ∀ a k c l, sm3 h h' a → ar h a k c l → ar h' a k c l := fun a k c l s q => by
    obtain ⟨q1, q2, q3⟩ := q
    unfold ar
    rw [s.1.2.2.2, (s.2.1 k).1, (s.2.1 k).2.1]
    exact ⟨q1, q2, q3⟩
  refine ⟨?_, ?_, ?_⟩
  · unfold XS
    rw [s1.2.2.2, s3.2.2.2, (kl 1 (by omega)).1, (kl 2 (by omega)).1, (kl 2 (by omega)).2, (kl 3 (by omega)).1, (kl 4 (by omega)).1, (kl 4 (by omega)).2, (kl 59 (by omega)).1, (kl 68 (by omega)).1, (kl 109 (by omega)).1, (kl 109 (by omega)).2]
    exact Y
  · obtain ⟨y1, y2, y3, y4, y5, y6, y7, y8, y9, y10, y11, y12, y13, y14⟩ := Y2
    exact ⟨arx _ _ _ _ r59 y1, arx _ _ _ _ r59 y2, arx _ _ _ _ r59 y3, arx _ _ _ _ r59 y4, arx _ _ _ _ r59 y5, arx _ _ _ _ r59 y6, arx _ _ _ _ r59 y7, arx _ _ _ _ r59 y8, arx _ _ _ _ r68 y9, arx _ _ _ _ r68 y10, arx _ _ _ _ r68 y11, arx _ _ _ _ r68 y12, y13.congr s5 s5k, y14.congr r13.1 r13.2.1⟩
  · obtain ⟨u1, u2, u3, u4⟩ := T
    exact ⟨by rw [s1.2.2.1]; exact u1, u2, by rw [s1.2.2.1]; exact u3, fun j hj => by rw [s2.2.2.1]; exact u4 j hj⟩
theorem fl_of (O : Own tg1 h1) (hx : ∀ x, x ≤ sz h → sm h h1 x ∧ tg1 x = tg x) (hp : tg1 p = j :: tg A) (h0 : sz h < p) (hs : p ≤ sz h1) (hA : A ≤ sz h) (A0 : A ≠ 0) : Fl tg h tg1 (sP h1 A j p) A j p := by
  have z : sz (sP h1 A j p) = sz h1 := Eq.refl _
  have q := (hx A hA).1
  refine ⟨own_ln O hs A0 (by rw [hp, (hx A hA).2]), by rw [z]; omega, h0, fun x hx' => (hx x hx').2, fun x hx' hn => (hx x hx').1.tr (sP_sm hn), ⟨q.1, q.2.1, q.2.2.1⟩, fun l => ?_⟩
  rw [sP_gP, q.2.2.2]
  by_cases y : l = j
  · rw [if_pos ⟨Eq.refl _, y⟩, if_pos y]
  · rw [if_neg (fun w => y w.2), if_neg y]
theorem rt_n1 (K : Rt tg h r y) : r ≠ 1 ∧ (∀ k, gP h r k ≠ 1) ∧ (∀ k j, gP h (gP h r k) j ≠ 1) ∧ ∀ k j l, gP h (gP h (gP h r k) j) l ≠ 1 := by
  have t1 := K.1.1
  refine ⟨fun e => ?_, fun k e => ?_, fun k j e => ?_, fun k j l e => ?_⟩
  · have := K.2.2.1
    rw [e, t1] at this
    exact absurd this (by simp)
  · have := K.a (k := k) (by rw [e]; omega)
    rw [e, t1] at this
    exact absurd this (by simp)
  · have := K.o (k := k) (j := j) (by rw [e]; omega)
    rw [e, t1] at this
    exact absurd this (by simp)
  · have := K.q (k := k) (j := j) (i := l) (by rw [e]; omega)
    rw [e, t1] at this
    exact absurd this (by simp)
theorem sm3_sP (K : Rt tg h r y) : sm3 h (sP h 1 j p) r := by
  obtain ⟨n1, n2, n3, n4⟩ := rt_n1 K
  exact ⟨sP_sm n1, fun k => sP_sm (n2 k), fun k j => sP_sm (n3 k j), fun k j l => sP_sm (n4 k j l)⟩
theorem fl1_sm3 (X : Fl tg h tg' h' 1 j p) (K : Rt tg h r y) (hr : r ≤ sz h) : sm3 h h' r := by
  obtain ⟨n1, n2, n3, n4⟩ := rt_n1 K
  have o6 := K.1.2.2.2.2.2
  exact ⟨X.2.2.2.2.1 _ hr n1, fun k => X.2.2.2.2.1 _ (o6 _ _) (n2 k), fun k j => X.2.2.2.2.1 _ (o6 _ _) (n3 k j), fun k j l => X.2.2.2.2.1 _ (o6 _ _) (n4 k j l)⟩
theorem fl1_b (O : Own tg h) (Y : XS h) (Y2 : XS2 h) (T : TpV h t n f) (h9 : 109 ≤ sz h) (X : Fl tg h tg' h' 1 j p) (hj : 9 ≤ j) : XS h' ∧ XS2 h' ∧ TpV h' t n f := by
  obtain ⟨t1, t2, t3, t4, t5, t13, t19, t48, t59, t68⟩ := tgs O Y
  have s : ∀ b, b ≤ 109 → b ≠ 1 → sm h h' b := fun b hb hn => X.2.2.2.2.1 b (by omega) hn
  obtain ⟨k1, l1, g1⟩ := X.2.2.2.2.2.1
  have p1 : ∀ l, l < 9 → gP h' 1 l = gP h 1 l := fun l hl => by rw [X.2.2.2.2.2.2, if_neg (by omega)]
  have s3 := s 3 (by omega) (by omega)
  have s2 := s 2 (by omega) (by omega)
  have s5k : ∀ k, sm h h' (gP h 5 k) := fun k => X.2.2.2.2.1 _ (O.2.2.2.2.2 _ _) (fun e => by
    have := tgc O (a := 5) (j := k) (by rw [e]; omega) (by omega)
    rw [e, t1] at this
    exact absurd this (by simp))
  have r59 := fl1_sm3 X (⟨O, t3, t59, by omega, by omega⟩ : Rt tg h 59 7) (by omega)
  have r68 := fl1_sm3 X (⟨O, t3, t68, by omega, by omega⟩ : Rt tg h 68 8) (by omega)
  have r13 := fl1_sm3 X (⟨O, t3, t13, by omega, by omega⟩ : Rt tg h 13 4) (by omega)
  have arx : ∀ a k c l, sm3 h h' a → ar h a k c l → ar h' a k c l := fun a k c l s q => by
    obtain ⟨q1, q2, q3⟩ := q
    unfold ar
    rw [s.1.2.2.2, (s.2.1 k).1, (s.2.1 k).2.1]
    exact ⟨q1, q2, q3⟩
  refine ⟨?_, ?_, ?_⟩
  · unfold XS
    rw [p1 0 (by omega), p1 3 (by omega), p1 4 (by omega), p1 5 (by omega), p1 6 (by omega), p1 7 (by omega), p1 8 (by omega), s3.2.2.2, k1, s2.1, s2.2.1, s3.1, (s 4 (by omega) (by omega)).1, (s 4 (by omega) (by omega)).2.1, (s 59 (by omega) (by omega)).1, (s 68 (by omega) (by omega)).1, (s 109 (by omega) (by omega)).1, (s 109 (by omega) (by omega)).2.1]
    exact Y
  · obtain ⟨y1, y2, y3, y4, y5, y6, y7, y8, y9, y10, y11, y12, y13, y14⟩ := Y2
    exact ⟨arx _ _ _ _ r59 y1, arx _ _ _ _ r59 y2, arx _ _ _ _ r59 y3, arx _ _ _ _ r59 y4, arx _ _ _ _ r59 y5, arx _ _ _ _ r59 y6, arx _ _ _ _ r59 y7, arx _ _ _ _ r59 y8, arx _ _ _ _ r68 y9, arx _ _ _ _ r68 y10, arx _ _ _ _ r68 y11, arx _ _ _ _ r68 y12, y13.congr (s 5 (by omega) (by omega)) s5k, y14.congr r13.1 r13.2.1⟩
  · obtain ⟨u1, u2, u3, u4⟩ := T
    exact ⟨by rw [g1]; exact u1, u2, by rw [g1]; exact u3, fun j hj => by rw [s2.2.2.1]; exact u4 j hj⟩
/-- one of the five roots is changed -/
def muQ (h : Hp) (y : Nat) : Nat := if y = 5 then rmP h 19 else if y = 6 then dkP h 48 else if y = 9 then rmQ h (gP h 1 9) else if y = 10 then dkQ h (gP h 1 10) else rmQ h (gP h 1 11)
theorem mu_y (X : Rx tg h tg' h' (fun z => z = y)) (O : Own tg h) (Y : XS h) (h9 : 109 ≤ sz h) (hy : y = 5 ∨ y = 6 ∨ y = 9 ∨ y = 10 ∨ y = 11) (hl : cst h' + muQ h' y ≤ cst h + muQ h y) : mu h' ≤ mu h := by
  obtain ⟨t1, t2, t3, t4, t5, t13, t19, t48, t59, t68⟩ := tgs O Y
  have g1 := rx_g1 X O h9
  have e5 : y ≠ 5 → rmP h' 19 = rmP h 19 := fun z => rmP_c (rx_sm3 X (⟨O, t3, t19, by omega, by omega⟩ : Rt tg h 19 5) (by omega) (fun w => z w.symm))
  have e6 : y ≠ 6 → dkP h' 48 = dkP h 48 := fun z => dkP_c (rx_sm3 X (⟨O, t3, t48, by omega, by omega⟩ : Rt tg h 48 6) (by omega) (fun w => z w.symm))
  have e9 : y ≠ 9 → rmQ h' (gP h' 1 9) = rmQ h (gP h 1 9) := fun z => by
    rw [g1]
    exact rmQ_c (fun w => rx_sm3 X (rt_1 O Y w (by omega)) (O.2.2.2.2.2 1 9) (fun w => z w.symm))
  have e10 : y ≠ 10 → dkQ h' (gP h' 1 10) = dkQ h (gP h 1 10) := fun z => by
    rw [g1]
    exact dkQ_c (fun w => rx_sm3 X (rt_1 O Y w (by omega)) (O.2.2.2.2.2 1 10) (fun w => z w.symm))
  have e11 : y ≠ 11 → rmQ h' (gP h' 1 11) = rmQ h (gP h 1 11) := fun z => by
    rw [g1]
    exact rmQ_c (fun w => rx_sm3 X (rt_1 O Y w (by omega)) (O.2.2.2.2.2 1 11) (fun w => z w.symm))
  unfold mu
  unfold muQ at hl
  rcases hy with e | e | e | e | e
  · rw [if_pos e, if_pos e] at hl
    rw [e6 (by omega), e9 (by omega), e10 (by omega), e11 (by omega)]
    omega
  · rw [if_neg (by omega), if_pos e, if_neg (by omega), if_pos e] at hl
    rw [e5 (by omega), e9 (by omega), e10 (by omega), e11 (by omega)]
    omega
  · rw [if_neg (by omega), if_neg (by omega), if_pos e, if_neg (by omega), if_neg (by omega), if_pos e] at hl
    rw [e5 (by omega), e6 (by omega), e10 (by omega), e11 (by omega)]
    omega
  · rw [if_neg (by omega), if_neg (by omega), if_neg (by omega), if_pos e, if_neg (by omega), if_neg (by omega), if_neg (by omega), if_pos e] at hl
    rw [e5 (by omega), e6 (by omega), e9 (by omega), e11 (by omega)]
    omega
  · rw [if_neg (by omega), if_neg (by omega), if_neg (by omega), if_neg (by omega), if_neg (by omega), if_neg (by omega), if_neg (by omega), if_neg (by omega)] at hl
    rw [e5 (by omega), e6 (by omega), e9 (by omega), e10 (by omega)]
    omega
/-- a root is hung at the object -/
theorem mu_fl (X : Fl tg h tg' h' 1 j p) (O : Own tg h) (Y : XS h) (h9 : 109 ≤ sz h) (h0 : gP h 1 j = 0) (hj : (j = 9 ∧ rmP h' p = 1509822 ∧ cst h' = cst h + 4483) ∨ (j = 11 ∧ rmP h' p = 1509822 ∧ cst h' = cst h + 4483) ∨ (j = 10 ∧ dkP h' p = 13770 ∧ cst h' = cst h + 1769)) : mu h' = mu h := by
  obtain ⟨t1, t2, t3, t4, t5, t13, t19, t48, t59, t68⟩ := tgs O Y
  have p0 : p ≠ 0 := by have := X.2.2.1; omega
  have e5 : rmP h' 19 = rmP h 19 := rmP_c (fl1_sm3 X (⟨O, t3, t19, by omega, by omega⟩ : Rt tg h 19 5) (by omega))
  have e6 : dkP h' 48 = dkP h 48 := dkP_c (fl1_sm3 X (⟨O, t3, t48, by omega, by omega⟩ : Rt tg h 48 6) (by omega))
  have g1 : ∀ l, l ≠ j → gP h' 1 l = gP h 1 l := fun l hl => by rw [X.2.2.2.2.2.2, if_neg hl]
  have gj : gP h' 1 j = p := by rw [X.2.2.2.2.2.2, if_pos (Eq.refl _)]
  have er : ∀ l, l ≠ j → l ≠ 3 → rmQ h' (gP h' 1 l) = rmQ h (gP h 1 l) := fun l hl h3 => by
    rw [g1 l hl]
    exact rmQ_c (fun w => fl1_sm3 X (rt_1 O Y w h3) (O.2.2.2.2.2 1 l))
  have ed : ∀ l, l ≠ j → l ≠ 3 → dkQ h' (gP h' 1 l) = dkQ h (gP h 1 l) := fun l hl h3 => by
    rw [g1 l hl]
    exact dkQ_c (fun w => fl1_sm3 X (rt_1 O Y w h3) (O.2.2.2.2.2 1 l))
  have rn : rmP h' p = 1509822 → rmQ h' p = 1509822 := fun z => by unfold rmQ; rw [if_neg p0, z]
  have dn : dkP h' p = 13770 → dkQ h' p = 13770 := fun z => by unfold dkQ; rw [if_neg p0, z]
  have r0 : rmQ h 0 = 1514305 := if_pos (Eq.refl _)
  have d0 : dkQ h 0 = 15539 := if_pos (Eq.refl _)
  unfold mu
  rcases hj with ⟨z, z1, z2⟩ | ⟨z, z1, z2⟩ | ⟨z, z1, z2⟩
  · subst z
    rw [e5, e6, gj, rn z1, er 11 (by omega) (by omega), ed 10 (by omega) (by omega), h0, r0, z2]
    omega
  · subst z
    rw [e5, e6, gj, rn z1, er 9 (by omega) (by omega), ed 10 (by omega) (by omega), h0, r0, z2]
    omega
  · subst z
    rw [e5, e6, gj, dn z1, er 9 (by omega) (by omega), er 11 (by omega) (by omega), h0, d0, z2]
    omega
theorem Rp.tr (a : Rp h h1) (b : Rp h1 h2) : Rp h h2 := fun x q1 q2 => (a x q1 q2).tr (b x q1 q2)
theorem fl1_rp (X : Fl tg h tg' h' 1 j p) (h9 : 109 ≤ sz h) : Rp h h' := fun b q1 q2 => X.2.2.2.2.1 b (by omega) (by omega)
/-- a memory that is another one as far as the array goes -/
def cpM (u v : Nat → Int32) : Nat → Int32 := fun j => if j < 337220 then u j else v j
theorem cpM_at {u v : Nat → Int32} {j : Nat} (hj : j < 337220) : cpM u v j = u j := if_pos hj
theorem MI.cp (I : MI m) : MI (cpM m k) := MI.desk (fun x hx => cpM_at (by omega)) I (I.1.2.2.2.2.2.1.c (cpM_at (by omega))) (I.1.2.2.2.2.2.2.1.c (cpM_at (by omega))) (I.2.2.2.2.1.mc I.1 (fun x hx => cpM_at (by omega)) (fun x h1 h2 => cpM_at (by omega)))
theorem RmV.cp (I : MI m) (V : RmV h r m) : RmV h r (cpM m k) := V.mc (fun x hx => by unfold rgRm at hx; exact cpM_at (by omega)) I
theorem DkV.cp (I : MI m) (V : DkV h d m) : DkV h d (cpM m k) := V.mc (fun x hx => by unfold rgDk at hx; exact cpM_at (by omega)) I.1 I.2.2.2.2.1
end
