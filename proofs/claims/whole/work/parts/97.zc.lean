/-! a new object is put into its row -/
def Fl (tg0 : Nat → List Nat) (h0 : Hp) (tg : Nat → List Nat) (h : Hp) (A j p : Nat) : Prop := Own tg h ∧ sz h0 ≤ sz h ∧ sz h0 < p ∧ (∀ x, x ≤ sz h0 → tg x = tg0 x) ∧ (∀ x, x ≤ sz h0 → x ≠ A → sm h0 h x) ∧ (kd h A = kd h0 A ∧ ln h A = ln h0 A ∧ gI h A = gI h0 A) ∧ ∀ l, gP h A l = if l = j then p else gP h0 A l
section
variable {tg tg0 : Nat → List Nat} {h h0 : Hp} {m : Nat → Int32} {p K A F j r x a b : Nat} {fs : List En} {nm : Nat → Int32}
theorem Bl.fl (B : Bl tg0 h0 tg h p K (j :: tg0 A) fs nm a b) (hA : A ≤ sz h0) (A0 : A ≠ 0) : Fl tg0 h0 tg (sP h A j p) A j p ∧ Nob (sP h A j p) p K fs nm ∧ nc (sP h A j p) = nc h0 + a ∧ ns (sP h A j p) = ns h0 + b := by
  obtain ⟨b1, b2, b3, b4, b5, N, b7, b8⟩ := B
  have z : sz (sP h A j p) = sz h := Eq.refl _
  have q := (b4 A hA).1
  have N2 := N.2.1
  refine ⟨⟨own_ln b1 N2 A0 (by rw [b5, (b4 A hA).2]), by rw [z]; omega, by omega, fun x hx => (b4 x hx).2, fun x hx hn => (b4 x hx).1.tr (sP_sm hn), ⟨q.1, q.2.1, q.2.2.1⟩, fun l => ?_⟩, N.mo (fun x h1 h2 => sP_sm (by omega)) (Nat.le_refl _), b7, b8⟩
  rw [sP_gP, q.2.2.2]
  by_cases y : l = j
  · rw [if_pos ⟨Eq.refl _, y⟩, if_pos y]
  · rw [if_neg (fun w => y w.2), if_neg y]
theorem Rt.le (K : Rt tg0 h0 r x) {k : Nat} : gP h0 r k ≤ sz h0 := K.1.2.2.2.2.2 r k
theorem Fl.cells (K : Rt tg0 h0 r x) (hr : r ≤ sz h0) (X : Fl tg0 h0 tg h (gP h0 r F) j p) (hA : gP h0 r F ≠ 0) : sm h0 h r ∧ (∀ k, k ≠ F → sm h0 h (gP h0 r k)) ∧ (∀ k q, sm h0 h (gP h0 (gP h0 r k) q)) ∧ ∀ k q l, sm h0 h (gP h0 (gP h0 (gP h0 r k) q) l) := by
  obtain ⟨x1, x2, x3, x4, x5, x6, x7⟩ := X
  have o6 := K.1.2.2.2.2.2
  have tA := K.a hA
  refine ⟨x5 r hr (fun e => ?_), fun k hk => x5 _ (o6 _ _) (fun e => ?_), fun k q => x5 _ (o6 _ _) (fun e => ?_), fun k q l => x5 _ (o6 _ _) (fun e => ?_)⟩
  · rw [← e, K.2.2.1] at tA
    have := congrArg List.length tA
    simp at this
  · have := K.a (k := k) (by rw [e]; exact hA)
    rw [e, tA] at this
    exact hk (List.cons.inj this).1.symm
  · have := K.o (k := k) (j := q) (by rw [e]; exact hA)
    rw [e, tA] at this
    have := congrArg List.length this
    simp at this
  · have := K.q (k := k) (j := q) (i := l) (by rw [e]; exact hA)
    rw [e, tA] at this
    have := congrArg List.length this
    simp at this
theorem Fl.rt (K : Rt tg0 h0 r x) (hr : r ≤ sz h0) (h9 : 109 ≤ sz h0) (X : Fl tg0 h0 tg h A j p) : Rt tg h r x :=
  ⟨X.1, by rw [X.2.2.2.1 3 (by omega)]; exact K.2.1, by rw [X.2.2.2.1 r hr]; exact K.2.2.1, K.2.2.2⟩
theorem RmS.fl (K : Rt tg0 h0 r x) (hr : r ≤ sz h0) (S : RmS h0 r) (hF : F ≠ 4 ∧ F ≠ 14) (X : Fl tg0 h0 tg h (gP h0 r F) j p) (hA : gP h0 r F ≠ 0) (sh : (F = 5 → PtS h p) ∧ (F = 2 → StyS h p) ∧ (F = 8 → MaS h p) ∧ (F = 10 → SlS h p)) : RmS h r := by
  obtain ⟨s0, s1, s2, s3⟩ := X.cells K hr hA
  obtain ⟨-, -, -, -, -, ⟨x1, x2, x3⟩, x7⟩ := X
  obtain ⟨a1, a2, a3, a4, a5, a6, a7, a8, a9, a10, a11, a12, a13, a14, ⟨b1, b2, b3, b3'⟩, ⟨b4, b5⟩, c1, c2, c3, c4⟩ := S
  have eP : gP h r = gP h0 r := s0.2.2.2
  have ark : ∀ k c l, ar h0 r k c l → ar h r k c l := fun k c l ⟨q1, q2, q3⟩ => by
    unfold ar
    rw [eP]
    by_cases z : k = F
    · rw [z] at q1 q2 q3 ⊢
      rw [x1, x2]
      exact ⟨q1, q2, q3⟩
    · rw [(s1 k z).1, (s1 k z).2.1]
      exact ⟨q1, q2, q3⟩
  have slot : ∀ k q, gP h (gP h r k) q ≠ 0 → (k = F ∧ gP h (gP h r k) q = p) ∨ (gP h0 (gP h0 r k) q ≠ 0 ∧ gP h (gP h r k) q = gP h0 (gP h0 r k) q) := fun k q hz => by
    rw [eP] at hz ⊢
    by_cases z : k = F
    · rw [z] at hz ⊢
      rw [x7] at hz ⊢
      by_cases y : q = j
      · rw [if_pos y]
        exact Or.inl ⟨Eq.refl _, Eq.refl _⟩
      · rw [if_neg y] at hz ⊢
        exact Or.inr ⟨hz, Eq.refl _⟩
    · rw [(s1 k z).2.2.2] at hz ⊢
      exact Or.inr ⟨hz, Eq.refl _⟩
  have u4 := s1 4 (Ne.symm hF.1)
  have u14 := s1 14 (Ne.symm hF.2)
  refine ⟨by rw [s0.1]; exact a1, ark _ _ _ a2, ark _ _ _ a3, ark _ _ _ a4, ark _ _ _ a5, ark _ _ _ a6, ark _ _ _ a7, ark _ _ _ a8, ark _ _ _ a9, ark _ _ _ a10, ark _ _ _ a11, ark _ _ _ a12, ark _ _ _ a13, ark _ _ _ a14, ?_, ?_, fun q hz => ?_, fun q hz => ?_, fun q hz => ?_, fun q hz => ?_⟩
  · rw [eP, u4.2.2.1]
    exact ⟨b1, b2.congr u4 (fun k => s2 4 k), b3, b3'⟩
  · rw [eP]
    exact ⟨b4, b5.congr u14 (fun k => s2 14 k)⟩
  · rcases slot 5 q hz with ⟨z, e⟩ | ⟨z, e⟩
    · rw [e]; exact sh.1 z.symm
    · rw [e]; exact (c1 q z).congr (s2 5 q) (fun k => s3 5 q k)
  · rcases slot 2 q hz with ⟨z, e⟩ | ⟨z, e⟩
    · rw [e]; exact sh.2.1 z.symm
    · rw [e]; exact (c2 q z).congr (s2 2 q) (fun k => s3 2 q k)
  · rcases slot 8 q hz with ⟨z, e⟩ | ⟨z, e⟩
    · rw [e]; exact sh.2.2.1 z.symm
    · rw [e]; exact (c3 q z).congr (s2 8 q) (fun k => s3 8 q k)
  · rcases slot 10 q hz with ⟨z, e⟩ | ⟨z, e⟩
    · rw [e]; exact sh.2.2.2 z.symm
    · rw [e]; exact (c4 q z).congr (s2 10 q) (fun k => s3 10 q k)
theorem RmV.fl (K : Rt tg0 h0 r x) (hr : r ≤ sz h0) (V : RmV h0 r m) (hF : F ≠ 1 ∧ F ≠ 6 ∧ F ≠ 12 ∧ F ≠ 13) (X : Fl tg0 h0 tg h (gP h0 r F) j p) (hA : gP h0 r F ≠ 0) (hn : gP h0 (gP h0 r F) j = 0) : RmV h r m := by
  obtain ⟨s0, s1, s2, s3⟩ := X.cells K hr hA
  obtain ⟨-, -, -, -, -, ⟨x1, x2, x3⟩, x7⟩ := X
  obtain ⟨a1, a2, a3, a4, a5, a6, a7, c1, c2, c3, c4, d⟩ := V
  have eP : gP h r = gP h0 r := s0.2.2.2
  have slot : ∀ k q, gP h0 (gP h0 r k) q ≠ 0 → gP h (gP h0 r k) q = gP h0 (gP h0 r k) q := fun k q hz => by
    by_cases z : k = F
    · rw [z] at hz ⊢
      rw [x7]
      by_cases y : q = j
      · rw [y] at hz
        exact absurd hn hz
      · rw [if_neg y]
    · rw [(s1 k z).2.2.2]
  unfold RmV
  rw [eP, s0.2.2.1, (s1 1 (Ne.symm hF.1)).2.2.1, (s1 6 (Ne.symm hF.2.1)).2.2.1, (s1 12 (Ne.symm hF.2.2.1)).2.2.1, (s1 13 (Ne.symm hF.2.2.2)).2.2.1]
  refine ⟨a1, a2, a3, a4, a5, a6, a7, fun q hq => ?_, fun q hq => ?_, fun q hq => ?_, fun q hq => ?_, d⟩
  · rw [slot 5 q (c1 q hq).1]
    exact ⟨(c1 q hq).1, (c1 q hq).2.congr (s2 5 q) (fun k => s3 5 q k)⟩
  · rw [slot 8 q (c2 q hq).1]
    exact ⟨(c2 q hq).1, (c2 q hq).2.congr (s2 8 q) (fun k => s3 8 q k)⟩
  · rw [slot 10 q (c3 q hq).1]
    exact ⟨(c3 q hq).1, (c3 q hq).2.congr (s2 10 q) (fun k => s3 10 q k)⟩
  · rw [slot 2 q (c4 q hq).1]
    exact ⟨(c4 q hq).1, (c4 q hq).2.congr (s2 2 q) (fun k => s3 2 q k)⟩
end
/-! frames of a room in which objects are made -/
def Rx (tg : Nat → List Nat) (h : Hp) (tg' : Nat → List Nat) (h' : Hp) (x : Nat) : Prop := Own tg' h' ∧ sz h ≤ sz h' ∧ (∀ b, b ≤ sz h → tg' b = tg b ∧ kd h' b = kd h b ∧ ln h' b = ln h b) ∧ ∀ b, b ≤ sz h → (b = 0 ∨ ¬ [x] <:+ tg b) → gI h' b = gI h b ∧ gP h' b = gP h b
section
variable {tg tg' tg2 : Nat → List Nat} {h h' h2 : Hp} {m m' k t : Nat → Int32} {i n f : Int32} {D : Nat → Prop} {p A F j r x y d : Nat}
theorem Rx.rfl (O : Own tg h) : Rx tg h tg h x := ⟨O, Nat.le_refl _, fun _ _ => ⟨Eq.refl _, Eq.refl _, Eq.refl _⟩, fun _ _ _ => ⟨Eq.refl _, Eq.refl _⟩⟩
theorem Rx.trans (a : Rx tg h tg' h' x) (b : Rx tg' h' tg2 h2 x) : Rx tg h tg2 h2 x := by
  obtain ⟨a1, a2, a3, a4⟩ := a
  obtain ⟨b1, b2, b3, b4⟩ := b
  refine ⟨b1, by omega, fun c hc => ?_, fun c hc hn => ?_⟩
  · obtain ⟨q1, q2, q3⟩ := a3 c hc
    obtain ⟨r1, r2, r3⟩ := b3 c (by omega)
    exact ⟨r1.trans q1, r2.trans q2, r3.trans q3⟩
  · obtain ⟨q1, q2⟩ := a4 c hc hn
    obtain ⟨r1, r2⟩ := b4 c (by omega) (by rw [(a3 c hc).1]; exact hn)
    exact ⟨r1.trans q1, r2.trans q2⟩
theorem Rx.fr (O : Own tg h) (F : Fr D h h') (hD : ∀ b, D b → b ≠ 0 ∧ [x] <:+ tg b) : Rx tg h tg h' x := by
  refine ⟨O.fr F, by rw [F.2.2.2.1]; exact Nat.le_refl _, fun b _ => ⟨Eq.refl _, by rw [F.1], by rw [F.2.1]⟩, fun b _ hn => ⟨F.2.2.2.2.2.2 b (fun z => ?_), by rw [F.2.2.1]⟩⟩
  rcases hn with hn | hn
  · exact (hD b z).1 hn
  · exact hn (hD b z).2
theorem Rx.fl (X : Fl tg h tg' h' A j p) (hA : [x] <:+ tg A) (A0 : A ≠ 0) : Rx tg h tg' h' x := by
  obtain ⟨x1, x2, x3, x4, x5, ⟨x6, x6', x6''⟩, x7⟩ := X
  refine ⟨x1, x2, fun b hb => ?_, fun b hb hn => ?_⟩
  · by_cases z : b = A
    · rw [z] at hb ⊢
      exact ⟨x4 A hb, x6, x6'⟩
    · exact ⟨x4 b hb, (x5 b hb z).1, (x5 b hb z).2.1⟩
  · have z : b ≠ A := fun e => by
      rcases hn with hn | hn
      · exact A0 (e.symm.trans hn)
      · exact hn (by rw [e]; exact hA)
    exact ⟨(x5 b hb z).2.2.1, (x5 b hb z).2.2.2⟩
theorem rx_sm (X : Rx tg h tg' h' x) {b : Nat} (hb : b ≤ sz h) (hn : b = 0 ∨ ¬ [x] <:+ tg b) : sm h h' b :=
  ⟨(X.2.2.1 b hb).2.1, (X.2.2.1 b hb).2.2, (X.2.2.2 b hb hn).1, (X.2.2.2 b hb hn).2⟩
theorem Rx.rt (X : Rx tg h tg' h' x) (K : Rt tg h r y) (hr : r ≤ sz h) (h9 : 109 ≤ sz h) : Rt tg' h' r y :=
  ⟨X.1, by rw [(X.2.2.1 3 (by omega)).1]; exact K.2.1, by rw [(X.2.2.1 r hr).1]; exact K.2.2.1, K.2.2.2⟩
theorem nsx {l : List Nat} {c : Nat} (hn : c ≠ x) (h1 : [c] <:+ l) : ¬ [x] <:+ l := fun h2 => hn (suf1 h1 h2)
theorem rx_sm3 (X : Rx tg h tg' h' x) (K : Rt tg h r y) (hr : r ≤ sz h) (hn : y ≠ x) : sm3 h h' r := by
  have o6 := K.1.2.2.2.2.2
  refine ⟨rx_sm X hr (Or.inr (nsx hn (by rw [K.2.2.1]; exact List.suffix_refl _))), fun k => rx_sm X (o6 _ _) ?_, fun k j => rx_sm X (o6 _ _) ?_, fun k j i => rx_sm X (o6 _ _) ?_⟩
  · by_cases z : gP h r k = 0
    · exact Or.inl z
    · exact Or.inr (nsx hn (by rw [K.a z]; exact List.suffix_append [k] [y]))
  · by_cases z : gP h (gP h r k) j = 0
    · exact Or.inl z
    · exact Or.inr (nsx hn (by rw [K.o z]; exact List.suffix_append [j, k] [y]))
  · by_cases z : gP h (gP h (gP h r k) j) i = 0
    · exact Or.inl z
    · exact Or.inr (nsx hn (by rw [K.q z]; exact List.suffix_append [i, j, k] [y]))
end
