/-! a new object is put into its row -/
def Fl (tg0 : Nat → List Nat) (h0 : Hp) (tg : Nat → List Nat) (h : Hp) (A j p : Nat) : Prop := Own tg h ∧ sz h0 ≤ sz h ∧ sz h0 < p ∧ (∀ x, x ≤ sz h0 → tg x = tg0 x) ∧ (∀ x, x ≤ sz h0 → x ≠ A → sm h0 h x) ∧ (kd h A = kd h0 A ∧ ln h A = ln h0 A ∧ gI h A = gI h0 A) ∧ ∀ l, gP h A l = if l = j then p else gP h0 A l
section
variable {tg tg0 : Nat → List Nat} {h h0 : Hp} {m : Nat → Int32} {p K A F j r x a b : Nat} {fs : List En} {nm : Nat → Int32}
theorem Bl.fl (B : Bl tg0 h0 tg h p K (j :: tg0 A) fs nm a b) (hA : A ≤ sz h0) (A0 : A ≠ 0) : Fl tg0 h0 tg (sP h A j p) A j p ∧ Nob (sP h A j p) p K fs nm ∧ nc (sP h A j p) = nc h0 + a ∧ ns (sP h A j p) = ns h0 + b := by
  obtain ⟨b1, b2, b3, b4, b5, N, b7, b8⟩ := B
  have z : sz (sP h A j p) = sz h := Eq.refl _
  have q := (b4 A hA).1
  have N2 := N.2.1
  refine ⟨⟨own_ln b1 N2 A0 (by rw [b5, (b4 A hA).2]), by rw [z]; omega, by omega, fun x hx => (b4 x hx).2, fun x hx hn => (b4 x hx).1.tr (sP_sm hn), ⟨q.1, q.2.1, q.2.2.1⟩, fun l => ?_⟩, N.mo (fun x h1 h2 => sP_sm (by omega)) (Nat.le_refl _), b7, b8⟩
  rw [sP_gP, q.2.2.2]
  by_cases y : l = j
  · rw [if_pos ⟨Eq.refl _, y⟩, if_pos y]
  · rw [if_neg (fun w => y w.2), if_neg y]
theorem Rt.le (K : Rt tg0 h0 r x) {k : Nat} : gP h0 r k ≤ sz h0 := K.1.2.2.2.2.2 r k
theorem Fl.cells (K : Rt tg0 h0 r x) (hr : r ≤ sz h0) (X : Fl tg0 h0 tg h (gP h0 r F) j p) (hA : gP h0 r F ≠ 0) : sm h0 h r ∧ (∀ k, k ≠ F → sm h0 h (gP h0 r k)) ∧ (∀ k q, sm h0 h (gP h0 (gP h0 r k) q)) ∧ ∀ k q l, sm h0 h (gP h0 (gP h0 (gP h0 r k) q) l) := by
  obtain ⟨x1, x2, x3, x4, x5, x6, x7⟩ := X
  have o6 := K.1.2.2.2.2.2
  have tA := K.a hA
  refine ⟨x5 r hr (fun e => ?_), fun k hk => x5 _ (o6 _ _) (fun e => ?_), fun k q => x5 _ (o6 _ _) (fun e => ?_), fun k q l => x5 _ (o6 _ _) (fun e => ?_)⟩
  · rw [← e, K.2.2.1] at tA
    have := congrArg List.length tA
    simp at this
  · have := K.a (k := k) (by rw [e]; exact hA)
    rw [e, tA] at this
    exact hk (List.cons.inj this).1.symm
  · have := K.o (k := k) (j := q) (by rw [e]; exact hA)
    rw [e, tA] at this
    have := congrArg List.length this
    simp at this
  · have := K.q (k := k) (j := q) (i := l) (by rw [e]; exact hA)
    rw [e, tA] at this
    have := congrArg List.length this
    simp at this
theorem Fl.rt (K : Rt tg0 h0 r x) (hr : r ≤ sz h0) (h9 : 109 ≤ sz h0) (X : Fl tg0 h0 tg h A j p) : Rt tg h r x :=
  ⟨X.1, by rw [X.2.2.2.1 3 (by omega)]; exact K.2.1, by rw [X.2.2.2.1 r hr]; exact K.2.2.1, K.2.2.2⟩
theorem RmS.fl (K : Rt tg0 h0 r x) (hr : r ≤ sz h0) (S : RmS h0 r) (hF : F ≠ 4 ∧ F ≠ 14) (X : Fl tg0 h0 tg h (gP h0 r F) j p) (hA : gP h0 r F ≠ 0) (sh : (F = 5 → PtS h p) ∧ (F = 2 → StyS h p) ∧ (F = 8 → MaS h p) ∧ (F = 10 → SlS h p)) : RmS h r := by
  obtain ⟨s0, s1, s2, s3⟩ := X.cells K hr hA
  obtain ⟨-, -, -, -, -, ⟨x1, x2, x3⟩, x7⟩ := X
  obtain ⟨a1, a2, a3, a4, a5, a6, a7, a8, a9, a10, a11, a12, a13, a14, ⟨b1, b2, b3, b3'⟩, ⟨b4, b5⟩, c1, c2, c3, c4⟩ := S
  have eP : gP h r = gP h0 r := s0.2.2.2
  have ark : ∀ k c l, ar h0 r k c l → ar h r k c l := fun k c l ⟨q1, q2, q3⟩ => by
    unfold ar
    rw [eP]
    by_cases z : k = F
    · rw [z] at q1 q2 q3 ⊢
      rw [x1, x2]
      exact ⟨q1, q2, q3⟩
    · rw [(s1 k z).1, (s1 k z).2.1]
      exact ⟨q1, q2, q3⟩
  have slot : ∀ k q, gP h (gP h r k) q ≠ 0 → (k = F ∧ gP h (gP h r k) q = p) ∨ (gP h0 (gP h0 r k) q ≠ 0 ∧ gP h (gP h r k) q = gP h0 (gP h0 r k) q) := fun k q hz => by
    rw [eP] at hz ⊢
    by_cases z : k = F
    · rw [z] at hz ⊢
      rw [x7] at hz ⊢
      by_cases y : q = j
      · rw [if_pos y]
        exact Or.inl ⟨Eq.refl _, Eq.refl _⟩
      · rw [if_neg y] at hz ⊢
        exact Or.inr ⟨hz, Eq.refl _⟩
    · rw [(s1 k z).2.2.2] at hz ⊢
      exact Or.inr ⟨hz, Eq.refl _⟩
  have u4 := s1 4 (Ne.symm hF.1)
  have u14 := s1 14 (Ne.symm hF.2)
  refine ⟨by rw [s0.1]; exact a1, ark _ _ _ a2, ark _ _ _ a3, ark _ _ _ a4, ark _ _ _ a5, ark _ _ _ a6, ark _ _ _ a7, ark _ _ _ a8, ark _ _ _ a9, ark _ _ _ a10, ark _ _ _ a11, ark _ _ _ a12, ark _ _ _ a13, ark _ _ _ a14, ?_, ?_, fun q hz => ?_, fun q hz => ?_, fun q hz => ?_, fun q hz => ?_⟩
  · rw [eP, u4.2.2.1]
    exact ⟨b1, b2.congr u4 (fun k => s2 4 k), b3, b3'⟩
  · rw [eP]
    exact ⟨b4, b5.congr u14 (fun k => s2 14 k)⟩
  · rcases slot 5 q hz with ⟨z, e⟩ | ⟨z, e⟩
    · rw [e]; exact sh.1 z.symm
    · rw [e]; exact (c1 q z).congr (s2 5 q) (fun k => s3 5 q k)
  · rcases slot 2 q hz with ⟨z, e⟩ | ⟨z, e⟩
    · rw [e]; exact sh.2.1 z.symm
    · rw [e]; exact (c2 q z).congr (s2 2 q) (fun k => s3 2 q k)
  · rcases slot 8 q hz with ⟨z, e⟩ | ⟨z, e⟩
    · rw [e]; exact sh.2.2.1 z.symm
    · rw [e]; exact (c3 q z).congr (s2 8 q) (fun k => s3 8 q k)
  · rcases slot 10 q hz with ⟨z, e⟩ | ⟨z, e⟩
    · rw [e]; exact sh.2.2.2 z.symm
    · rw [e]; exact (c4 q z).congr (s2 10 q) (fun k => s3 10 q k)
theorem RmV.fl (K : Rt tg0 h0 r x) (hr : r ≤ sz h0) (V : RmV h0 r m) (hF : F ≠ 1 ∧ F ≠ 6 ∧ F ≠ 12 ∧ F ≠ 13) (X : Fl tg0 h0 tg h (gP h0 r F) j p) (hA : gP h0 r F ≠ 0) (hn : gP h0 (gP h0 r F) j = 0) : RmV h r m := by
  obtain ⟨s0, s1, s2, s3⟩ := X.cells K hr hA
  obtain ⟨-, -, -, -, -, ⟨x1, x2, x3⟩, x7⟩ := X
  obtain ⟨a1, a2, a3, a4, a5, a6, a7, c1, c2, c3, c4, d⟩ := V
  have eP : gP h r = gP h0 r := s0.2.2.2
  have slot : ∀ k q, gP h0 (gP h0 r k) q ≠ 0 → gP h (gP h0 r k) q = gP h0 (gP h0 r k) q := fun k q hz => by
    by_cases z : k = F
    · rw [z] at hz ⊢
      rw [x7]
      by_cases y : q = j
      · rw [y] at hz
        exact absurd hn hz
      · rw [if_neg y]
    · rw [(s1 k z).2.2.2]
  unfold RmV
  rw [eP, s0.2.2.1, (s1 1 (Ne.symm hF.1)).2.2.1, (s1 6 (Ne.symm hF.2.1)).2.2.1, (s1 12 (Ne.symm hF.2.2.1)).2.2.1, (s1 13 (Ne.symm hF.2.2.2)).2.2.1]
  refine ⟨a1, a2, a3, a4, a5, a6, a7, fun q hq => ?_, fun q hq => ?_, fun q hq => ?_, fun q hq => ?_, d⟩
  · rw [slot 5 q (c1 q hq).1]
    exact ⟨(c1 q hq).1, (c1 q hq).2.congr (s2 5 q) (fun k => s3 5 q k)⟩
  · rw [slot 8 q (c2 q hq).1]
    exact ⟨(c2 q hq).1, (c2 q hq).2.congr (s2 8 q) (fun k => s3 8 q k)⟩
  · rw [slot 10 q (c3 q hq).1]
    exact ⟨(c3 q hq).1, (c3 q hq).2.congr (s2 10 q) (fun k => s3 10 q k)⟩
  · rw [slot 2 q (c4 q hq).1]
    exact ⟨(c4 q hq).1, (c4 q hq).2.congr (s2 2 q) (fun k => s3 2 q k)⟩
end
/-! frames of roots in which objects are made -/
def Aq (W : Nat → Prop) (l : List Nat) : Prop := ∀ x, W x → ¬ [x] <:+ l
def Rx (tg : Nat → List Nat) (h : Hp) (tg' : Nat → List Nat) (h' : Hp) (W : Nat → Prop) : Prop := Own tg' h' ∧ sz h ≤ sz h' ∧ (∀ b, b ≤ sz h → tg' b = tg b ∧ kd h' b = kd h b ∧ ln h' b = ln h b) ∧ ∀ b, b ≤ sz h → (b = 0 ∨ Aq W (tg b)) → gI h' b = gI h b ∧ gP h' b = gP h b
section
variable {tg tg' tg2 : Nat → List Nat} {h h' h2 : Hp} {m m' k k' t : Nat → Int32} {i i' n f : Int32} {D W U : Nat → Prop} {p A F j r x y d : Nat}
theorem Rx.rfl (O : Own tg h) : Rx tg h tg h W := ⟨O, Nat.le_refl _, fun _ _ => ⟨Eq.refl _, Eq.refl _, Eq.refl _⟩, fun _ _ _ => ⟨Eq.refl _, Eq.refl _⟩⟩
theorem Rx.mono (a : Rx tg h tg' h' W) (hs : ∀ x, W x → U x) : Rx tg h tg' h' U := ⟨a.1, a.2.1, a.2.2.1, fun b hb hn => a.2.2.2 b hb (by
  rcases hn with z | z
  · exact Or.inl z
  · exact Or.inr (fun x hx => z x (hs x hx)))⟩
theorem Rx.trans (a : Rx tg h tg' h' W) (b : Rx tg' h' tg2 h2 W) : Rx tg h tg2 h2 W := by
  obtain ⟨a1, a2, a3, a4⟩ := a
  obtain ⟨b1, b2, b3, b4⟩ := b
  refine ⟨b1, by omega, fun c hc => ?_, fun c hc hn => ?_⟩
  · obtain ⟨q1, q2, q3⟩ := a3 c hc
    obtain ⟨r1, r2, r3⟩ := b3 c (by omega)
    exact ⟨r1.trans q1, r2.trans q2, r3.trans q3⟩
  · obtain ⟨q1, q2⟩ := a4 c hc hn
    obtain ⟨r1, r2⟩ := b4 c (by omega) (by rw [(a3 c hc).1]; exact hn)
    exact ⟨r1.trans q1, r2.trans q2⟩
theorem Rx.fr (O : Own tg h) (F : Fr D h h') (hD : ∀ b, D b → b ≠ 0 ∧ ∃ x, W x ∧ [x] <:+ tg b) : Rx tg h tg h' W := by
  refine ⟨O.fr F, by rw [F.2.2.2.1]; exact Nat.le_refl _, fun b _ => ⟨Eq.refl _, by rw [F.1], by rw [F.2.1]⟩, fun b _ hn => ⟨F.2.2.2.2.2.2 b (fun z => ?_), by rw [F.2.2.1]⟩⟩
  obtain ⟨b0, x, hx, hs⟩ := hD b z
  rcases hn with hn | hn
  · exact b0 hn
  · exact hn x hx hs
theorem Rx.fl (X : Fl tg h tg' h' A j p) (hx : W x) (hA : [x] <:+ tg A) (A0 : A ≠ 0) : Rx tg h tg' h' W := by
  obtain ⟨x1, x2, x3, x4, x5, ⟨x6, x6', x6''⟩, x7⟩ := X
  refine ⟨x1, x2, fun b hb => ?_, fun b hb hn => ?_⟩
  · by_cases z : b = A
    · rw [z] at hb ⊢
      exact ⟨x4 A hb, x6, x6'⟩
    · exact ⟨x4 b hb, (x5 b hb z).1, (x5 b hb z).2.1⟩
  · have z : b ≠ A := fun e => by
      rcases hn with hn | hn
      · exact A0 (e.symm.trans hn)
      · exact hn x hx (by rw [e]; exact hA)
    exact ⟨(x5 b hb z).2.2.1, (x5 b hb z).2.2.2⟩
theorem rx_sm (X : Rx tg h tg' h' W) {b : Nat} (hb : b ≤ sz h) (hn : b = 0 ∨ Aq W (tg b)) : sm h h' b :=
  ⟨(X.2.2.1 b hb).2.1, (X.2.2.1 b hb).2.2, (X.2.2.2 b hb hn).1, (X.2.2.2 b hb hn).2⟩
theorem Rx.rt (X : Rx tg h tg' h' W) (K : Rt tg h r y) (hr : r ≤ sz h) (h9 : 109 ≤ sz h) : Rt tg' h' r y :=
  ⟨X.1, by rw [(X.2.2.1 3 (by omega)).1]; exact K.2.1, by rw [(X.2.2.1 r hr).1]; exact K.2.2.1, K.2.2.2⟩
theorem nsx {l : List Nat} (hn : ¬ W y) (h1 : [y] <:+ l) : Aq W l := fun x hx h2 => hn (by rw [suf1 h1 h2]; exact hx)
theorem nsx0 : Aq W [] := fun x _ h2 => by
  have := h2.length_le
  simp at this
theorem rx_sm3 (X : Rx tg h tg' h' W) (K : Rt tg h r y) (hr : r ≤ sz h) (hn : ¬ W y) : sm3 h h' r := by
  have o6 := K.1.2.2.2.2.2
  refine ⟨rx_sm X hr (Or.inr (nsx hn (by rw [K.2.2.1]; exact List.suffix_refl _))), fun k => rx_sm X (o6 _ _) ?_, fun k j => rx_sm X (o6 _ _) ?_, fun k j i => rx_sm X (o6 _ _) ?_⟩
  · by_cases z : gP h r k = 0
    · exact Or.inl z
    · exact Or.inr (nsx hn (by rw [K.a z]; exact List.suffix_append [k] [y]))
  · by_cases z : gP h (gP h r k) j = 0
    · exact Or.inl z
    · exact Or.inr (nsx hn (by rw [K.o z]; exact List.suffix_append [j, k] [y]))
  · by_cases z : gP h (gP h (gP h r k) j) i = 0
    · exact Or.inl z
    · exact Or.inr (nsx hn (by rw [K.q z]; exact List.suffix_append [i, j, k] [y]))
theorem rx_g1 (X : Rx tg h tg' h' W) (O : Own tg h) (h9 : 109 ≤ sz h) : gP h' 1 = gP h 1 := (X.2.2.2 1 (by omega) (Or.inr (by rw [O.1]; exact nsx0))).2
theorem rt_1 (O : Own tg h) (Y : XS h) (hz : gP h 1 j ≠ 0) (hj : j ≠ 3) : Rt tg h (gP h 1 j) j := by
  obtain ⟨-, -, t3, -⟩ := tgs O Y
  exact ⟨O, t3, tgp O hz, hj, hz⟩
theorem rx_img (X : Rx tg h tg' h' W) (O : Own tg h) (Y : XS h) (h9 : 109 ≤ sz h) (n9 : ¬ W 9) (n10 : ¬ W 10) (J : Img h k i) : Img h' k i := by
  unfold Img at J ⊢
  rw [rx_g1 X O h9]
  rcases J with J | ⟨j0, j1, j2, j3, j4, j5, j6, j7⟩
  · exact Or.inl J
  · have s9 := rx_sm3 X (rt_1 O Y j1 (by omega)) (O.2.2.2.2.2 1 9) n9
    have s10 := rx_sm3 X (rt_1 O Y j2 (by omega)) (O.2.2.2.2.2 1 10) n10
    exact Or.inr ⟨j0, j1, j2, j3.congr s9, j4.congr s9, j5.congr s10, j6.congr s10, j7⟩
theorem rx_tr (X : Rx tg h tg' h' W) (O : Own tg h) (Y : XS h) (h9 : 109 ≤ sz h) (n11 : ¬ W 11) (J : gP h 1 11 ≠ 0 → RmS h (gP h 1 11)) : gP h' 1 11 ≠ 0 → RmS h' (gP h' 1 11) := by
  rw [rx_g1 X O h9]
  intro z
  exact (J z).congr (rx_sm3 X (rt_1 O Y z (by omega)) (O.2.2.2.2.2 1 11) n11)
theorem CSt.rx (C : CSt tg h m k i t n f) (h9 : 109 ≤ sz h) (X : Rx tg h tg' h' W) (hW : ∀ y, W y → y = 5 ∨ y = 6 ∨ y = 9 ∨ y = 10 ∨ y = 11) (S' : RmS h' 19) (V' : RmV h' 19 m') (D' : DkS h' 48) (E' : DkV h' 48 m') (I' : MI m') (J' : Img h' k' i') (T' : gP h' 1 11 ≠ 0 → RmS h' (gP h' 1 11)) : CSt tg' h' m' k' i' t n f := by
  obtain ⟨O, Y, Y2, S, V, DS, DV, I, T, Im, Tr⟩ := C
  obtain ⟨t1, t2, t3, t4, t5, t13, t19, t48, t59, t68⟩ := tgs O Y
  have kl : ∀ b, b ≤ 109 → kd h' b = kd h b ∧ ln h' b = ln h b := fun b hb => (X.2.2.1 b (by omega)).2
  have g1 := rx_g1 X O h9
  have w : ∀ y, y ≠ 5 ∧ y ≠ 6 ∧ y ≠ 9 ∧ y ≠ 10 ∧ y ≠ 11 → ¬ W y := fun y hy z => by
    have := hW y z
    omega
  have s3 : sm h h' 3 := rx_sm X (by omega) (Or.inr (by rw [t3]; exact nsx (w 3 (by omega)) (List.suffix_refl _)))
  have s2 : sm h h' 2 := rx_sm X (by omega) (Or.inr (by rw [t2]; exact nsx (w 0 (by omega)) (List.suffix_refl _)))
  have s1 : sm h h' 1 := rx_sm X (by omega) (Or.inr (by rw [t1]; exact nsx0))
  have s5 : sm h h' 5 := rx_sm X (by omega) (Or.inr (by rw [t5]; exact nsx (w 3 (by omega)) (List.suffix_append [5] [3])))
  have s5k : ∀ k, sm h h' (gP h 5 k) := fun k => rx_sm X (O.2.2.2.2.2 _ _) (by
    by_cases z : gP h 5 k = 0
    · exact Or.inl z
    · refine Or.inr (nsx (w 3 (by omega)) ?_)
      rw [tgc O z (by omega), t5]
      exact List.suffix_append [k, 5] [3])
  have r59 := rx_sm3 X (⟨O, t3, t59, by omega, by omega⟩ : Rt tg h 59 7) (by omega) (w 7 (by omega))
  have r68 := rx_sm3 X (⟨O, t3, t68, by omega, by omega⟩ : Rt tg h 68 8) (by omega) (w 8 (by omega))
  have r13 := rx_sm3 X (⟨O, t3, t13, by omega, by omega⟩ : Rt tg h 13 4) (by omega) (w 4 (by omega))
  have arx : ∀ a k c l, sm3 h h' a → ar h a k c l → ar h' a k c l := fun a k c l s q => by
    obtain ⟨q1, q2, q3⟩ := q
    unfold ar
    rw [s.1.2.2.2, (s.2.1 k).1, (s.2.1 k).2.1]
    exact ⟨q1, q2, q3⟩
  refine ⟨X.1, ?_, ?_, S', V', D', E', I', ?_, J', T'⟩
  · unfold XS
    rw [s1.2.2.2, s3.2.2.2, (kl 1 (by omega)).1, (kl 2 (by omega)).1, (kl 2 (by omega)).2, (kl 3 (by omega)).1, (kl 4 (by omega)).1, (kl 4 (by omega)).2, (kl 59 (by omega)).1, (kl 68 (by omega)).1, (kl 109 (by omega)).1, (kl 109 (by omega)).2]
    exact Y
  · obtain ⟨y1, y2, y3, y4, y5, y6, y7, y8, y9, y10, y11, y12, y13, y14⟩ := Y2
    exact ⟨arx _ _ _ _ r59 y1, arx _ _ _ _ r59 y2, arx _ _ _ _ r59 y3, arx _ _ _ _ r59 y4, arx _ _ _ _ r59 y5, arx _ _ _ _ r59 y6, arx _ _ _ _ r59 y7, arx _ _ _ _ r59 y8, arx _ _ _ _ r68 y9, arx _ _ _ _ r68 y10, arx _ _ _ _ r68 y11, arx _ _ _ _ r68 y12, y13.congr s5 s5k, y14.congr r13.1 r13.2.1⟩
  · obtain ⟨u1, u2, u3, u4⟩ := T
    exact ⟨by rw [s1.2.2.1]; exact u1, u2, by rw [s1.2.2.1]; exact u3, fun j hj => by rw [s2.2.2.1]; exact u4 j hj⟩
theorem Rx.rp (X : Rx tg h tg' h' W) (O : Own tg h) (R : RS h) (h9 : 109 ≤ sz h) (hW : ∀ y, W y → y = 5 ∨ y = 6 ∨ y = 9 ∨ y = 10 ∨ y = 11) : Rp h h' := fun b h1 h2 => rx_sm X (by omega) (Or.inr (fun x hx hs => by
  have := hW x hx
  exact nr O R (x := x) (by omega) (by omega) hs ⟨h1, h2⟩))
theorem Pr.rx {cm : Nat → Nat} {G : Hp → Hp → Prop} {X : Option ((Int32 ⊕ Nat) × Hp)} {Y : Hp → Option (Int32 × Hp)} (C : CSt tg h m k i t n f) (R : RSt h m k i t n f) (h9 : 109 ≤ sz h) (v : Int32) (hX : X = some (.inl v, h')) (F : Rx tg h tg' h' W) (hW : ∀ y, W y → y = 5 ∨ y = 6 ∨ y = 9 ∨ y = 10 ∨ y = 11) (C' : CSt tg' h' m' k' i' t n f) (g : G h h') (hY : ∀ h1, RSt h1 m k i t n f → ∃ h2, Y h1 = some (v, h2) ∧ Fr Rc h1 h2 ∧ RSt h2 m' k' i' t n f ∧ gI h2 73 0 = nI 0) : Pr cm G h X Y := by
  have rp := F.rp C.1 R.1 h9 hW
  refine ⟨.inl v, h', tg', m', k', i', t, n, f, hX, C', rp, g, fun h1 o => ?_⟩
  obtain ⟨h2, e1, e2, e3, e4⟩ := hY h1 ((R.rp rp).ou o)
  exact ⟨v, h2, e1, e2, e3, e4, Eq.refl _⟩
end
/-! what may still be made -/
def sumN (g : Nat → Nat) : Nat → Nat
  | 0 => 0
  | n + 1 => sumN g n + g n
def slP (h : Hp) (s : Nat) : Nat := if s = 0 then 4624 else 9 * (512 - ln h (gP h s 0))
def rmP (h : Hp) (r : Nat) : Nat := sumN (fun i => slP h (gP h (gP h r 10) i)) 300 + sumN (fun i => if gP h (gP h r 5) i = 0 then 1103 else 0) 100 + sumN (fun i => if gP h (gP h r 2) i = 0 then 989 else 0) 10 + sumN (fun i => if gP h (gP h r 8) i = 0 then 608 else 0) 4
def rmQ (h : Hp) (r : Nat) : Nat := if r = 0 then 1514305 else rmP h r
def dkP (h : Hp) (d : Nat) : Nat := sumN (fun i => if gP h (gP h d 4) i = 0 then 255 else 0) 54
def dkQ (h : Hp) (d : Nat) : Nat := if d = 0 then 15539 else dkP h d
def cst (h : Hp) : Nat := 75 * nc h + ns h
def mu (h : Hp) : Nat := cst h + (rmP h 19 + rmQ h (gP h 1 9) + rmQ h (gP h 1 11) + dkP h 48 + dkQ h (gP h 1 10))
def Gm (h h1 : Hp) : Prop := mu h1 ≤ mu h + 81 ∧ sz h ≤ sz h1
section
variable {tg tg' tg2 tg0 : Nat → List Nat} {h h' h0 h1 : Hp} {W : Nat → Prop} {p A F j r x y d n i0 : Nat} {g q : Nat → Nat}
theorem sumN_c : ∀ n, (∀ i, i < n → g i = q i) → sumN g n = sumN q n
  | 0, _ => Eq.refl _
  | n + 1, H => by
    show sumN g n + g n = sumN q n + q n
    rw [sumN_c n (fun i hi => H i (by omega)), H n (by omega)]
theorem sumN_1 : ∀ n, i0 < n → (∀ i, i < n → i ≠ i0 → g i = q i) → sumN g n + q i0 = sumN q n + g i0
  | 0, h0, _ => absurd h0 (by omega)
  | n + 1, h0, H => by
    show sumN g n + g n + q i0 = sumN q n + q n + g i0
    by_cases z : i0 = n
    · rw [sumN_c n (fun i hi => H i (by omega) (by omega)), z]
      omega
    · have := sumN_1 n (by omega) (fun i hi hn => H i (by omega) hn)
      rw [H n (by omega) (fun e => z e.symm)]
      omega
theorem rmP_c (s : sm3 h h' r) : rmP h' r = rmP h r := by
  obtain ⟨s0, s1, s2, s3⟩ := s
  unfold rmP slP
  rw [s0.2.2.2, (s1 10).2.2.2, (s1 5).2.2.2, (s1 2).2.2.2, (s1 8).2.2.2]
  have : sumN (fun i => if gP h (gP h r 10) i = 0 then 4624 else 9 * (512 - ln h' (gP h' (gP h (gP h r 10) i) 0))) 300 = sumN (fun i => if gP h (gP h r 10) i = 0 then 4624 else 9 * (512 - ln h (gP h (gP h (gP h r 10) i) 0))) 300 := sumN_c 300 (fun i _ => by rw [(s2 10 i).2.2.2, (s3 10 i 0).2.1])
  rw [this]
theorem dkP_c (s : sm3 h h' d) : dkP h' d = dkP h d := by
  obtain ⟨s0, s1, s2, s3⟩ := s
  unfold dkP
  rw [s0.2.2.2, (s1 4).2.2.2]
theorem rmQ_c (s : r ≠ 0 → sm3 h h' r) : rmQ h' r = rmQ h r := by
  unfold rmQ
  by_cases z : r = 0
  · rw [if_pos z, if_pos z]
  · rw [if_neg z, if_neg z, rmP_c (s z)]
theorem dkQ_c (s : d ≠ 0 → sm3 h h' d) : dkQ h' d = dkQ h d := by
  unfold dkQ
  by_cases z : d = 0
  · rw [if_pos z, if_pos z]
  · rw [if_neg z, if_neg z, dkP_c (s z)]
theorem Gq.gm (G : Gq h h1) : Gm h h1 := by
  obtain ⟨g1, g2, g3, g4, g5, g6, g7⟩ := G
  refine ⟨?_, by omega⟩
  have e : mu h1 = cst h1 + (rmP h 19 + rmQ h (gP h 1 9) + rmQ h (gP h 1 11) + dkP h 48 + dkQ h (gP h 1 10)) := by
    unfold mu rmQ dkQ rmP dkP slP
    rw [g2, g1]
  rw [e]
  unfold mu cst
  omega
/-- the room alone is changed -/
theorem mu_rm (X : Rx tg h tg' h' W) (O : Own tg h) (Y : XS h) (h9 : 109 ≤ sz h) (hW : ∀ y, W y → y = 5) (hl : cst h' + rmP h' 19 ≤ cst h + rmP h 19) : mu h' ≤ mu h := by
  obtain ⟨t1, t2, t3, t4, t5, t13, t19, t48, t59, t68⟩ := tgs O Y
  have w : ∀ y, y ≠ 5 → ¬ W y := fun y hy z => hy (hW y z)
  unfold mu
  rw [rx_g1 X O h9, rmQ_c (h := h) (h' := h') (r := gP h 1 9) (fun z => rx_sm3 X (rt_1 O Y z (by omega)) (O.2.2.2.2.2 1 9) (w 9 (by omega))), rmQ_c (h := h) (h' := h') (r := gP h 1 11) (fun z => rx_sm3 X (rt_1 O Y z (by omega)) (O.2.2.2.2.2 1 11) (w 11 (by omega))), dkP_c (h := h) (h' := h') (d := 48) (rx_sm3 X (⟨O, t3, t48, by omega, by omega⟩ : Rt tg h 48 6) (by omega) (w 6 (by omega))), dkQ_c (h := h) (h' := h') (d := gP h 1 10) (fun z => rx_sm3 X (rt_1 O Y z (by omega)) (O.2.2.2.2.2 1 10) (w 10 (by omega)))]
  omega
/-- a slot is filled -/
theorem rmP_fl (K : Rt tg0 h0 r x) (hr : r ≤ sz h0) (X : Fl tg0 h0 tg h (gP h0 r F) j p) (hA : gP h0 r F ≠ 0) (hn : gP h0 (gP h0 r F) j = 0) (hF : (F = 10 ∧ j < 300 ∧ ln h (gP h p 0) = 32) ∨ (F = 5 ∧ j < 100) ∨ (F = 2 ∧ j < 10) ∨ (F = 8 ∧ j < 4)) : rmP h r + (if F = 10 then 304 else if F = 5 then 1103 else if F = 2 then 989 else 608) = rmP h0 r := by
  obtain ⟨s0, s1, s2, s3⟩ := X.cells K hr hA
  obtain ⟨-, -, p0, -, -, -, x7⟩ := X
  have p1 : p ≠ 0 := by omega
  have e10 : F ≠ 10 → sumN (fun i => slP h (gP h (gP h0 r 10) i)) 300 = sumN (fun i => slP h0 (gP h0 (gP h0 r 10) i)) 300 := fun z => sumN_c 300 (fun i _ => by
    unfold slP
    rw [(s1 10 (Ne.symm z)).2.2.2, (s2 10 i).2.2.2, (s3 10 i 0).2.1])
  have eo : ∀ k a N, F ≠ k → sumN (fun i => if gP h (gP h0 r k) i = 0 then a else 0) N = sumN (fun i => if gP h0 (gP h0 r k) i = 0 then a else 0) N := fun k a N z => sumN_c N (fun i _ => by rw [(s1 k (Ne.symm z)).2.2.2])
  have ef : ∀ a N, j < N → sumN (fun i => if gP h (gP h0 r F) i = 0 then a else 0) N + a = sumN (fun i => if gP h0 (gP h0 r F) i = 0 then a else 0) N := fun a N hj => by
    have := sumN_1 (g := fun i => if gP h (gP h0 r F) i = 0 then a else 0) (q := fun i => if gP h0 (gP h0 r F) i = 0 then a else 0) N hj (fun i _ hi => by
      show (if gP h (gP h0 r F) i = 0 then a else 0) = (if gP h0 (gP h0 r F) i = 0 then a else 0)
      rw [x7, if_neg hi])
    have w1 : (if gP h0 (gP h0 r F) j = 0 then a else 0) = a := if_pos hn
    have w2 : (if gP h (gP h0 r F) j = 0 then a else 0) = 0 := if_neg (by rw [x7, if_pos (Eq.refl j)]; exact p1)
    have this : sumN (fun i => if gP h (gP h0 r F) i = 0 then a else 0) N + (if gP h0 (gP h0 r F) j = 0 then a else 0) = sumN (fun i => if gP h0 (gP h0 r F) i = 0 then a else 0) N + (if gP h (gP h0 r F) j = 0 then a else 0) := this
    rw [w1, w2] at this
    omega
  unfold rmP
  rw [s0.2.2.2]
  rcases hF with ⟨z, hj, h32⟩ | ⟨z, hj⟩ | ⟨z, hj⟩ | ⟨z, hj⟩
  · subst z
    rw [eo 5 _ _ (by omega), eo 2 _ _ (by omega), eo 8 _ _ (by omega), if_pos (Eq.refl 10)]
    have := sumN_1 (g := fun i => slP h (gP h (gP h0 r 10) i)) (q := fun i => slP h0 (gP h0 (gP h0 r 10) i)) 300 hj (fun i _ hi => by
      show slP h (gP h (gP h0 r 10) i) = slP h0 (gP h0 (gP h0 r 10) i)
      unfold slP
      rw [x7, if_neg hi, (s2 10 i).2.2.2, (s3 10 i 0).2.1])
    have this : sumN (fun i => slP h (gP h (gP h0 r 10) i)) 300 + slP h0 (gP h0 (gP h0 r 10) j) = sumN (fun i => slP h0 (gP h0 (gP h0 r 10) i)) 300 + slP h (gP h (gP h0 r 10) j) := this
    have w1 : slP h0 (gP h0 (gP h0 r 10) j) = 4624 := if_pos hn
    have w2 : slP h (gP h (gP h0 r 10) j) = 4320 := by
      unfold slP
      rw [x7, if_pos (Eq.refl j), if_neg p1, h32]
    rw [w1, w2] at this
    omega
  · subst z
    have := ef 1103 100 hj
    rw [e10 (by omega), eo 2 _ _ (by omega), eo 8 _ _ (by omega), if_neg (by omega), if_pos (Eq.refl 5)]
    omega
  · subst z
    have := ef 989 10 hj
    rw [e10 (by omega), eo 5 _ _ (by omega), eo 8 _ _ (by omega), if_neg (by omega), if_neg (by omega), if_pos (Eq.refl 2)]
    omega
  · subst z
    have := ef 608 4 hj
    rw [e10 (by omega), eo 5 _ _ (by omega), eo 2 _ _ (by omega), if_neg (by omega), if_neg (by omega), if_neg (by omega)]
    omega
end
