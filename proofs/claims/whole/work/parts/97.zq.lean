/-! a new room, a new desk -/
def fs7 : List En := [(19, 21, 512, [], fun _ => 0), (18, 21, 512, [], fun _ => 0), (17, 20, 27, [], fun _ => 0), (16, 20, 27, [], fun _ => 0), (15, 20, 9, [], fun _ => 0), (14, 0, 14, ss0, nm0), (13, 20, 32, [], fun _ => 0), (12, 20, 32, [], fun _ => 0), (10, 28, 300, [], fun _ => 0), (8, 27, 4, [], fun _ => 0), (6, 20, 20, [], fun _ => 0), (5, 26, 100, [], fun _ => 0), (4, 8, 9, ss9, nm9), (2, 25, 10, [], fun _ => 0), (1, 20, 54, [], fun _ => 0)]
def nm7 : Nat → Int32 := (va_up (va_up (va_up (va_up (va_up (fun _ => 0) 0 (0)) 3 (0)) 7 (0)) 9 (0)) 11 (0))
def fs2 : List En := [(10, 20, 200, [], fun _ => 0), (9, 20, 200, [], fun _ => 0), (8, 20, 200, [], fun _ => 0), (7, 20, 200, [], fun _ => 0), (5, 20, 54, [], fun _ => 0), (4, 24, 54, [], fun _ => 0), (3, 20, 6, [], fun _ => 0), (2, 20, 6, [], fun _ => 0), (1, 20, 6, [], fun _ => 0), (0, 20, 6, [], fun _ => 0)]
def nm2 : Nat → Int32 := (va_up (va_up (fun _ => 0) 6 (0)) 11 (0))
section
variable {tg tg0 tg' : Nat → List Nat} {h h0 h' : Hp} {p K a b A j n : Nat} {T : List Nat} {fs : List En} {nm : Nat → Int32} {v : Int32}
theorem nob_a (N : Nob h p K fs nm) (f k n : Nat) (hs : (f, k, n, [], fun _ => 0) ∈ fs) : ar h p f k n ∧ (∀ j, gI h (gP h p f) j = 0) ∧ (∀ j, gP h (gP h p f) j = 0) ∧ p < gP h p f := by
  obtain ⟨q1, q2, q3, q4, q5, q6, q7⟩ := N.2.2.2.1 (f, k, n, [], fun _ => 0) hs
  have q1 : p < gP h p f := q1
  exact ⟨⟨by omega, q3, q4 (Eq.refl _)⟩, fun j => by rw [q5], fun j => q7 j (fun s hs => absurd hs (List.not_mem_nil)), q1⟩
/-- a row is filled with one number -/
theorem lp_row (G0 : Prop) (body : Hp → Int32 → Option ((Int32 × Hp) ⊕ Hp)) (N : Nat) (hN : N < 1000) (st : ∀ g j, j < N → Fr (fun c => c = A) h g → body g (nI j) = some (.inl (nI (j + 1), sI g A j v))) (fn : ∀ g, Fr (fun c => c = A) h g → body g (nI N) = some (.inr g)) : ∃ z, it (fun q : Int32 × Hp => body q.2 q.1) (nI 0, h) = some z ∧ Fr (fun c => c = A) h z ∧ ∀ i, i < N → gI z A i = v := by
  refine it_cnt (fun j s => s.1 = nI j ∧ Fr (fun c => c = A) h s.2 ∧ ∀ i, i < j → gI s.2 A i = v) N (fun j s hj pp => ?_) (fun s pp => ?_) ⟨rfl, Fr.rfl, fun i hi => absurd hi (by omega)⟩
  · obtain ⟨u, g⟩ := s
    obtain ⟨p1, p2, p3⟩ := pp
    replace p1 : u = nI j := p1
    replace p2 : Fr (fun c => c = A) h g := p2
    replace p3 : ∀ i, i < j → gI g A i = v := p3
    subst p1
    refine ⟨(nI (j + 1), sI g A j v), st g j hj p2, rfl, frs p2, fun i hi => ?_⟩
    show gI (sI g A j v) A i = v
    rw [gI2]
    by_cases z : i = j
    · rw [if_pos ⟨rfl, z⟩]
    · rw [if_neg (fun q => z q.2)]
      exact p3 i (by omega)
  · obtain ⟨u, g⟩ := s
    obtain ⟨p1, p2, p3⟩ := pp
    replace p1 : u = nI N := p1
    subst p1
    exact ⟨g, fn g p2, p2, p3⟩
theorem mki7 (B : Bl tg0 h0 tg h p 6 T [] (fun _ => 0) a b) : ∃ r, MX7_init h p = some r ∧ ∃ tg' g, Bl tg0 h0 tg' g p 6 T fs7 nm7 (a + 28) (b + 2288) ∧ (∀ i, i < 54 → gI r (gP g p 1) i = nI 4) ∧ Fr (fun c => c = gP g p 1) g r := by
  unfold MX7_init
  rw [gn_ne B.p0]
  rw [gg_t (bl_kd B)]
  refine Bl.numK B fun h B => ?_
  refine Bl.arrK B (by simp) fun tg h B => ?_
  refine Bl.arrK B (by simp) fun tg h B => ?_
  refine Bl.numK B fun h B => ?_
  refine Bl.subK (ss := ss9) (nm1 := nm9) B (by simp) (fun B1 => mki9 B1) (by simp [ss9]) fun tg h B => ?_
  refine Bl.arrK B (by simp) fun tg h B => ?_
  refine Bl.arrK B (by simp) fun tg h B => ?_
  refine Bl.numK B fun h B => ?_
  refine Bl.arrK B (by simp) fun tg h B => ?_
  refine Bl.numK B fun h B => ?_
  refine Bl.arrK B (by simp) fun tg h B => ?_
  refine Bl.numK B fun h B => ?_
  refine Bl.arrK B (by simp) fun tg h B => ?_
  refine Bl.arrK B (by simp) fun tg h B => ?_
  refine Bl.subK (ss := ss0) (nm1 := nm0) B (by simp) (fun B1 => mki0 B1) (by simp [ss0]) fun tg h B => ?_
  refine Bl.arrK B (by simp) fun tg h B => ?_
  refine Bl.arrK B (by simp) fun tg h B => ?_
  refine Bl.arrK B (by simp) fun tg h B => ?_
  refine Bl.arrK B (by simp) fun tg h B => ?_
  refine Bl.arrK B (by simp) fun tg h B => ?_
  have B2 : Bl tg0 h0 tg h p 6 T fs7 nm7 (a + 28) (b + 2288) := B.cg (by omega) (by omega)
  obtain ⟨q0, q1, q2⟩ := (nob_a B2.2.2.2.2.2.1 1 20 54 (by simp [fs7])).1
  have kp := bl_kd B2
  obtain ⟨z, y1, y2, y3⟩ := lp_row (kd h p = 6) (fun a b => BX7_init_163 a p b) (A := gP h p 1) (v := nI 4) (h := h) 54 (by omega) (fun g j hj G => by
    unfold BX7_init_163
    simp only [ZL]
    rw [gg_t (show kd g p = 6 by rw [G.1]; exact kp), show gP g p 1 = gP h p 1 by rw [G.2.2.1], gg_t (show kd g (gP h p 1) = 20 by rw [G.1]; exact q1), show ln g (gP h p 1) = 54 by rw [G.2.1]; exact q2, if_neg (nI_ge hj (by omega)), gg_in hj (by omega), lt_eq, nCl (by omega), nAdd]) (fun g G => by
    unfold BX7_init_163
    rw [gg_t (show kd g p = 6 by rw [G.1]; exact kp), show gP g p 1 = gP h p 1 by rw [G.2.2.1], gg_t (show kd g (gP h p 1) = 20 by rw [G.1]; exact q1), show ln g (gP h p 1) = 54 by rw [G.2.1]; exact q2, if_pos (nI_le (Nat.le_refl _) (by omega))])
  refine ⟨z, ?_, tg, h, B2, y3, y2⟩
  unfold MX7_init_163
  simp only [ZL]
  exact y1
theorem mki2 (B : Bl tg0 h0 tg h p 1 T [] (fun _ => 0) a b) : ∃ r, MX2_init h p = some r ∧ ∃ tg' g, Bl tg0 h0 tg' g p 1 T fs2 nm2 (a + 10) (b + 932) ∧ (∀ i, i < 6 → gI r (gP g p 0) i = nI 1 ∧ gI r (gP g p 1) i = nI 20 ∧ gI r (gP g p 2) i = -nI 1) ∧ Fr (fun c => c = gP g p 0 ∨ c = gP g p 1 ∨ c = gP g p 2) g r := by
  unfold MX2_init
  rw [gn_ne B.p0]
  refine Bl.arrK B (by simp) fun tg h B => ?_
  refine Bl.arrK B (by simp) fun tg h B => ?_
  refine Bl.arrK B (by simp) fun tg h B => ?_
  refine Bl.arrK B (by simp) fun tg h B => ?_
  refine Bl.arrK B (by simp) fun tg h B => ?_
  refine Bl.arrK B (by simp) fun tg h B => ?_
  refine Bl.numK B fun h B => ?_
  refine Bl.arrK B (by simp) fun tg h B => ?_
  refine Bl.arrK B (by simp) fun tg h B => ?_
  refine Bl.arrK B (by simp) fun tg h B => ?_
  refine Bl.arrK B (by simp) fun tg h B => ?_
  refine Bl.numK B fun h B => ?_
  have B2 : Bl tg0 h0 tg h p 1 T fs2 nm2 (a + 10) (b + 932) := B.cg (by omega) (by omega)
  have N := B2.2.2.2.2.2.1
  obtain ⟨q0, q1, q2⟩ := (nob_a N 0 20 6 (by simp [fs2])).1
  obtain ⟨r0, r1, r2⟩ := (nob_a N 1 20 6 (by simp [fs2])).1
  obtain ⟨s0, s1, s2⟩ := (nob_a N 2 20 6 (by simp [fs2])).1
  have kp := bl_kd B2
  have O := B2.1
  have tp := B2.2.2.2.2.1
  obtain ⟨n01, n02, n12⟩ : gP h p 0 ≠ gP h p 1 ∧ gP h p 0 ≠ gP h p 2 ∧ gP h p 1 ≠ gP h p 2 := by
    have p3 : p ≠ 3 := by have := B2.2.1; have := B2.2.2.1; omega
    exact ⟨ne_f O p3 q0 r0 (by omega), ne_f O p3 q0 s0 (by omega), ne_f O p3 r0 s0 (by omega)⟩
  have K0 : ∃ z, it (fun q : Int32 × Hp => BX2_init_101 q.2 p q.1) (nI 0, h) = some z ∧ ((∀ i, i < 6 → gI z (gP h p 0) i = nI 1 ∧ gI z (gP h p 1) i = nI 20 ∧ gI z (gP h p 2) i = -nI 1) ∧ Fr (fun c => c = gP h p 0 ∨ c = gP h p 1 ∨ c = gP h p 2) h z) := by
    refine it_cnt (fun j s => s.1 = nI j ∧ (∀ i, i < j → gI s.2 (gP h p 0) i = nI 1 ∧ gI s.2 (gP h p 1) i = nI 20 ∧ gI s.2 (gP h p 2) i = -nI 1) ∧ Fr (fun c => c = gP h p 0 ∨ c = gP h p 1 ∨ c = gP h p 2) h s.2) 6 (fun j s hj pp => ?_) (fun s pp => ?_) ⟨rfl, fun i hi => absurd hi (by omega), Fr.rfl⟩
    · obtain ⟨u, g⟩ := s
      obtain ⟨p1, p2, p3⟩ := pp
      replace p1 : u = nI j := p1
      replace p2 : ∀ i, i < j → gI g (gP h p 0) i = nI 1 ∧ gI g (gP h p 1) i = nI 20 ∧ gI g (gP h p 2) i = -nI 1 := p2
      replace p3 : Fr (fun c => c = gP h p 0 ∨ c = gP h p 1 ∨ c = gP h p 2) h g := p3
      subst p1
      have eP : gP g p = gP h p := by rw [p3.2.2.1]
      refine ⟨(nI (j + 1), sI (sI (sI g (gP h p 0) j (nI 1)) (gP h p 1) j (nI 20)) (gP h p 2) j (-nI 1)), ?_, rfl, fun i hi => ?_, p3.trans (((Fr.sI (Or.inl rfl)).trans (Fr.sI (Or.inr (Or.inl rfl)))).trans (Fr.sI (Or.inr (Or.inr rfl))))⟩
      · show BX2_init_101 g p (nI j) = _
        unfold BX2_init_101
        simp only [ZL]
        rw [if_neg (nI_ge hj (by omega)), gg_t (show kd g p = 1 by rw [p3.1]; exact kp), eP, gg_t (show kd g (gP h p 0) = 20 by rw [p3.1]; exact q1), show ln g (gP h p 0) = 6 by rw [p3.2.1]; exact q2, gg_in hj (by omega), lt_eq, gg_t (show kd g (gP h p 1) = 20 by rw [p3.1]; exact r1), show ln g (gP h p 1) = 6 by rw [p3.2.1]; exact r2, gg_in hj (by omega), lt_eq, gg_t (show kd g (gP h p 2) = 20 by rw [p3.1]; exact s1), show ln g (gP h p 2) = 6 by rw [p3.2.1]; exact s2, gg_in hj (by omega), lt_eq, nCl (by omega), nAdd]
      · show gI (sI (sI (sI g (gP h p 0) j (nI 1)) (gP h p 1) j (nI 20)) (gP h p 2) j (-nI 1)) (gP h p 0) i = nI 1 ∧ gI (sI (sI (sI g (gP h p 0) j (nI 1)) (gP h p 1) j (nI 20)) (gP h p 2) j (-nI 1)) (gP h p 1) i = nI 20 ∧ gI (sI (sI (sI g (gP h p 0) j (nI 1)) (gP h p 1) j (nI 20)) (gP h p 2) j (-nI 1)) (gP h p 2) i = -nI 1
        by_cases z : i = j
        · subst z
          refine ⟨?_, ?_, ?_⟩
          · rw [gI2, if_neg (fun q => n02 q.1), gI2, if_neg (fun q => n01 q.1), gI2, if_pos ⟨rfl, rfl⟩]
          · rw [gI2, if_neg (fun q => n12 q.1), gI2, if_pos ⟨rfl, rfl⟩]
          · rw [gI2, if_pos ⟨rfl, rfl⟩]
        · obtain ⟨e1, e2, e3⟩ := p2 i (by omega)
          refine ⟨?_, ?_, ?_⟩
          · rw [gI2, if_neg (fun q => z q.2), gI2, if_neg (fun q => z q.2), gI2, if_neg (fun q => z q.2)]; exact e1
          · rw [gI2, if_neg (fun q => z q.2), gI2, if_neg (fun q => z q.2), gI2, if_neg (fun q => z q.2)]; exact e2
          · rw [gI2, if_neg (fun q => z q.2), gI2, if_neg (fun q => z q.2), gI2, if_neg (fun q => z q.2)]; exact e3
    · obtain ⟨u, g⟩ := s
      obtain ⟨p1, p2, p3⟩ := pp
      replace p1 : u = nI 6 := p1
      subst p1
      refine ⟨g, ?_, p2, p3⟩
      show BX2_init_101 g p (nI 6) = _
      unfold BX2_init_101
      simp only [ZL]
      rw [if_pos (nI_le (Nat.le_refl _) (by omega))]
  obtain ⟨z, y1, y2, y3⟩ := K0
  refine ⟨z, ?_, tg, h, B2, y2, y3⟩
  unfold MX2_init_101
  simp only [ZL]
  exact y1
theorem sumN_k {g : Nat → Nat} {a : Nat} : ∀ n, (∀ i, i < n → g i = a) → sumN g n = n * a
  | 0, _ => by rw [Nat.zero_mul]; exact Eq.refl _
  | n + 1, H => by
    show sumN g n + g n = (n + 1) * a
    rw [sumN_k n (fun i hi => H i (by omega)), H n (by omega), Nat.add_mul, Nat.one_mul]
theorem c_newRoom (O : Own tg h) (h9 : 109 ≤ sz h) (T : List Nat) : ∃ tg1 h1, MX7_init (alc h 6 20) (sz h + 1) = some h1 ∧ Own tg1 h1 ∧ (∀ x, x ≤ sz h → sm h h1 x ∧ tg1 x = tg x) ∧ tg1 (sz h + 1) = T ∧ sz h + 1 ≤ sz h1 ∧ RmS h1 (sz h + 1) ∧ rmP h1 (sz h + 1) = 1509822 ∧ cst h1 = cst h + 4483 := by
  obtain ⟨r, k1, tg1, g, B, w, F⟩ := mki7 (Bl.start (K := 6) (n := 20) (T := T) O h9)
  obtain ⟨b1, b2, b3, b4, b5, N, b7, b8⟩ := id B
  obtain ⟨p, hp⟩ : ∃ p, p = sz h + 1 := ⟨_, rfl⟩
  rw [← hp] at k1 B w F b2 b5 N ⊢
  have eP : gP r = gP g := F.2.2.1
  have A := fun f k n hs => nob_a N f k n hs
  obtain ⟨a1, -, -, l1⟩ := A 1 20 54 (by simp [fs7])
  obtain ⟨a2, -, z2, -⟩ := A 2 25 10 (by simp [fs7])
  obtain ⟨a5, -, z5, -⟩ := A 5 26 100 (by simp [fs7])
  obtain ⟨a6, -⟩ := A 6 20 20 (by simp [fs7])
  obtain ⟨a8, -, z8, -⟩ := A 8 27 4 (by simp [fs7])
  obtain ⟨a10, -, z10, -⟩ := A 10 28 300 (by simp [fs7])
  obtain ⟨a12, -⟩ := A 12 20 32 (by simp [fs7])
  obtain ⟨a13, -⟩ := A 13 20 32 (by simp [fs7])
  obtain ⟨a15, -⟩ := A 15 20 9 (by simp [fs7])
  obtain ⟨a16, -⟩ := A 16 20 27 (by simp [fs7])
  obtain ⟨a17, -⟩ := A 17 20 27 (by simp [fs7])
  obtain ⟨a18, -⟩ := A 18 21 512 (by simp [fs7])
  obtain ⟨a19, -⟩ := A 19 21 512 (by simp [fs7])
  obtain ⟨q1, q2, q3, -, q5, q6, -⟩ := N.2.2.2.1 (4, 8, 9, ss9, nm9) (by simp [fs7])
  obtain ⟨r1, r2, r3, -, r5, r6, -⟩ := N.2.2.2.1 (14, 0, 14, ss0, nm0) (by simp [fs7])
  replace q1 : p < gP g p 4 := q1
  replace r1 : p < gP g p 14 := r1
  have Q := fun f k n hs => q6 (f, k, n) hs
  have Rr := fun f k n hs => r6 (f, k, n) hs
  have p3 : p ≠ 3 := by omega
  have ar4 : ∀ f k n, (f, k, n) ∈ ss9 → ar r (gP r p 4) f k n := fun f k n hs => by
    obtain ⟨u1, u2, u3, u4, -⟩ := Q f k n hs
    unfold ar
    rw [eP, F.1, F.2.1]
    have u1 : p < gP g (gP g p 4) f := u1
    exact ⟨by omega, u3, u4⟩
  have ar14 : ∀ f k n, (f, k, n) ∈ ss0 → ar r (gP r p 14) f k n := fun f k n hs => by
    obtain ⟨u1, u2, u3, u4, -⟩ := Rr f k n hs
    unfold ar
    rw [eP, F.1, F.2.1]
    have u1 : p < gP g (gP g p 14) f := u1
    exact ⟨by omega, u3, u4⟩
  have n4 : gP g p 4 ≠ gP g p 1 := ne_f b1 p3 (by omega) a1.1 (by omega)
  have g4 : gI r (gP g p 4) = nm9 := (F.2.2.2.2.2.2 _ n4).trans q5
  have deep : ∀ f, f = 8 ∨ f = 9 → gI r (gP g (gP g p 14) f) 0 = 0 := fun f hf => by
    have hs : (f, 20, 41) ∈ ss0 := by rcases hf with e | e <;> (rw [e]; simp [ss0])
    obtain ⟨u1, u2, u3, u4, u5, -⟩ := Rr f 20 41 hs
    have u1 : p < gP g (gP g p 14) f := u1
    have n3 : gP g p 14 ≠ 3 := by omega
    have ne : gP g (gP g p 14) f ≠ gP g p 1 := fun e => by
      have t1 := tgc b1 (a := gP g p 14) (j := f) (by omega) n3
      rw [tgc b1 (a := p) (j := 14) (by omega) p3, e, tgc b1 a1.1 p3] at t1
      have := congrArg List.length t1
      simp at this
    rw [F.2.2.2.2.2.2 _ ne]
    exact u5 0
  have ark : ∀ f k n, ar g p f k n → ar r p f k n := fun f k n q => by
    unfold ar at q ⊢
    rw [eP, F.1, F.2.1]
    exact q
  refine ⟨tg1, r, k1, b1.fr F, fun x hx => ⟨(b4 x hx).1.tr (F.sm (fun e => by omega)), (b4 x hx).2⟩, b5, by rw [F.2.2.2.1]; exact N.2.1, ⟨by rw [F.1]; exact N.1, ark _ _ _ a1, ark _ _ _ a2, ark _ _ _ a5, ark _ _ _ a6, ark _ _ _ a8, ark _ _ _ a10, ark _ _ _ a12, ark _ _ _ a13, ark _ _ _ a15, ark _ _ _ a16, ark _ _ _ a17, ark _ _ _ a18, ark _ _ _ a19, ⟨by rw [eP]; omega, ⟨by rw [eP, F.1]; exact q3, ar4 _ _ _ (by simp [ss9]), ar4 _ _ _ (by simp [ss9]), ar4 _ _ _ (by simp [ss9]), ar4 _ _ _ (by simp [ss9]), ar4 _ _ _ (by simp [ss9]), ar4 _ _ _ (by simp [ss9]), ar4 _ _ _ (by simp [ss9])⟩, by rw [eP, g4]; rfl, by rw [eP, g4]; rfl⟩, ⟨by rw [eP]; omega, by rw [eP, F.1]; exact r3, ar14 _ _ _ (by simp [ss0]), ar14 _ _ _ (by simp [ss0]), ar14 _ _ _ (by simp [ss0]), ar14 _ _ _ (by simp [ss0]), ar14 _ _ _ (by simp [ss0]), ar14 _ _ _ (by simp [ss0]), by rw [eP]; exact deep 8 (Or.inl rfl), by rw [eP]; exact deep 9 (Or.inr rfl)⟩, fun q hq => ?_, fun q hq => ?_, fun q hq => ?_, fun q hq => ?_⟩, ?_, ?_⟩
  · rw [eP, z5] at hq; exact absurd rfl hq
  · rw [eP, z2] at hq; exact absurd rfl hq
  · rw [eP, z8] at hq; exact absurd rfl hq
  · rw [eP, z10] at hq; exact absurd rfl hq
  · rw [(rmP_fr F).1]
    unfold rmP
    rw [sumN_k (a := 4624) 300 (fun i _ => by unfold slP; rw [z10, if_pos rfl]), sumN_k (a := 1103) 100 (fun i _ => by rw [z5, if_pos rfl]), sumN_k (a := 989) 10 (fun i _ => by rw [z2, if_pos rfl]), sumN_k (a := 608) 4 (fun i _ => by rw [z8, if_pos rfl])]
  · rw [(rmP_fr (r := 0) F).2]
    unfold cst
    omega
theorem c_newDesk (O : Own tg h) (h9 : 109 ≤ sz h) (T : List Nat) : ∃ tg1 h1, MX2_init (alc h 1 12) (sz h + 1) = some h1 ∧ Own tg1 h1 ∧ (∀ x, x ≤ sz h → sm h h1 x ∧ tg1 x = tg x) ∧ tg1 (sz h + 1) = T ∧ sz h + 1 ≤ sz h1 ∧ DkS h1 (sz h + 1) ∧ dkP h1 (sz h + 1) = 13770 ∧ cst h1 = cst h + 1769 := by
  obtain ⟨r, k1, tg1, g, B, w, F⟩ := mki2 (Bl.start (K := 1) (n := 12) (T := T) O h9)
  obtain ⟨b1, b2, b3, b4, b5, N, b7, b8⟩ := id B
  obtain ⟨p, hp⟩ : ∃ p, p = sz h + 1 := ⟨_, rfl⟩
  rw [← hp] at k1 B w F b2 b5 N ⊢
  have eP : gP r = gP g := F.2.2.1
  have A := fun f k n hs => nob_a N f k n hs
  obtain ⟨a0, -, -, l0⟩ := A 0 20 6 (by simp [fs2])
  obtain ⟨a1, -, -, l1⟩ := A 1 20 6 (by simp [fs2])
  obtain ⟨a2, -, -, l2⟩ := A 2 20 6 (by simp [fs2])
  obtain ⟨a3, -⟩ := A 3 20 6 (by simp [fs2])
  obtain ⟨a4, -, z4, -⟩ := A 4 24 54 (by simp [fs2])
  obtain ⟨a5, -⟩ := A 5 20 54 (by simp [fs2])
  obtain ⟨a7, -⟩ := A 7 20 200 (by simp [fs2])
  obtain ⟨a8, -⟩ := A 8 20 200 (by simp [fs2])
  obtain ⟨a9, -⟩ := A 9 20 200 (by simp [fs2])
  obtain ⟨a10, -⟩ := A 10 20 200 (by simp [fs2])
  have ark : ∀ f k n, ar g p f k n → ar r p f k n := fun f k n q => by
    unfold ar at q ⊢
    rw [eP, F.1, F.2.1]
    exact q
  refine ⟨tg1, r, k1, b1.fr F, fun x hx => ⟨(b4 x hx).1.tr (F.sm (fun e => by omega)), (b4 x hx).2⟩, b5, by rw [F.2.2.2.1]; exact N.2.1, ⟨by rw [F.1]; exact N.1, ark _ _ _ a0, ark _ _ _ a1, ark _ _ _ a2, ark _ _ _ a3, ark _ _ _ a4, ark _ _ _ a5, ark _ _ _ a7, ark _ _ _ a8, ark _ _ _ a9, ark _ _ _ a10, fun q hq => ?_⟩, ?_, ?_⟩
  · rw [eP, z4] at hq; exact absurd rfl hq
  · rw [dkP_fr F]
    unfold dkP
    rw [sumN_k (a := 255) 54 (fun i _ => by rw [z4, if_pos rfl])]
  · rw [(rmP_fr (r := 0) F).2]
    unfold cst
    omega
end
