/-! frames by names; scratch -/
def Ft (tg : Nat → List Nat) (T : List Nat → Prop) (h h' : Hp) : Prop := Fr (fun b => b ≠ 0 ∧ T (tg b)) h h'
/-- r is a room, or the like, of the name x -/
def Rt (tg : Nat → List Nat) (h : Hp) (r x : Nat) : Prop := Own tg h ∧ tg 3 = [3] ∧ tg r = [x] ∧ x ≠ 3 ∧ r ≠ 0
section
variable {tg : Nat → List Nat} {h h1 h2 : Hp} {T U : List Nat → Prop} {r x : Nat} {m : Nat → Int32}
theorem Ft.rfl : Ft tg T h h := Fr.rfl
theorem Ft.trans (a : Ft tg T h h1) (b : Ft tg T h1 h2) : Ft tg T h h2 := Fr.trans a b
theorem Ft.mono (a : Ft tg T h h1) (hs : ∀ l, T l → U l) : Ft tg U h h1 := Fr.mono a (fun _ z => ⟨z.1, hs _ z.2⟩)
theorem Ft.sI {a i : Nat} {v : Int32} (hz : a ≠ 0) (ht : T (tg a)) : Ft tg T h (sI h a i v) := Fr.sI ⟨hz, ht⟩
theorem Ft.rI {a : Nat} {f : Nat → Int32} (hz : a ≠ 0) (ht : T (tg a)) : Ft tg T h (rI h a f) := Fr.rI ⟨hz, ht⟩
theorem Ft.same (F : Ft tg T h h1) {b : Nat} (hb : ¬ T (tg b)) : sm h h1 b := Fr.sm F (fun z => hb z.2)
theorem Ft.z (F : Ft tg T h h1) : sm h h1 0 := Fr.sm F (fun z => z.1 (Eq.refl _))
theorem Ft.ek (F : Ft tg T h h1) : kd h1 = kd h := F.1
theorem Ft.el (F : Ft tg T h h1) : ln h1 = ln h := F.2.1
theorem Ft.gp (F : Ft tg T h h1) : gP h1 = gP h := F.2.2.1
theorem Rt.fr {D : Nat → Prop} (K : Rt tg h r x) (F : Fr D h h1) : Rt tg h1 r x := ⟨K.1.fr F, K.2⟩
theorem Rt.n3 (K : Rt tg h r x) : r ≠ 3 := fun e => by
  obtain ⟨-, h3, hr, hx, -⟩ := K
  rw [e, h3] at hr
  exact hx (List.cons.inj hr).1.symm
theorem Rt.a {k : Nat} (K : Rt tg h r x) (hz : gP h r k ≠ 0) : tg (gP h r k) = [k, x] := by rw [tgc K.1 hz K.n3, K.2.2.1]
theorem Rt.a3 {k : Nat} (K : Rt tg h r x) : gP h r k ≠ 3 := fun e => by
  have := K.a (k := k) (by omega)
  rw [e, K.2.1] at this
  have := congrArg List.length this
  simp at this
theorem Rt.z1 {k j : Nat} (K : Rt tg h r x) (hz : gP h (gP h r k) j ≠ 0) : gP h r k ≠ 0 := fun e => hz (by rw [e]; exact K.1.2.2.2.1 j)
theorem Rt.o {k j : Nat} (K : Rt tg h r x) (hz : gP h (gP h r k) j ≠ 0) : tg (gP h (gP h r k) j) = [j, k, x] := by rw [tgc K.1 hz K.a3, K.a (K.z1 hz)]
theorem Rt.o3 {k j : Nat} (K : Rt tg h r x) : gP h (gP h r k) j ≠ 3 := fun e => by
  have := K.o (k := k) (j := j) (by omega)
  rw [e, K.2.1] at this
  have := congrArg List.length this
  simp at this
theorem Rt.z2 {k j i : Nat} (K : Rt tg h r x) (hz : gP h (gP h (gP h r k) j) i ≠ 0) : gP h (gP h r k) j ≠ 0 := fun e => hz (by rw [e]; exact K.1.2.2.2.1 i)
theorem Rt.q {k j i : Nat} (K : Rt tg h r x) (hz : gP h (gP h (gP h r k) j) i ≠ 0) : tg (gP h (gP h (gP h r k) j) i) = [i, j, k, x] := by rw [tgc K.1 hz K.o3, K.o (K.z2 hz)]
theorem Rt.q3 {k j i : Nat} (K : Rt tg h r x) : gP h (gP h (gP h r k) j) i ≠ 3 := fun e => by
  have := K.q (k := k) (j := j) (i := i) (by omega)
  rw [e, K.2.1] at this
  have := congrArg List.length this
  simp at this
theorem Rt.s0 (K : Rt tg h r x) (F : Ft tg T h h1) (hn : ¬ T [x]) : sm h h1 r := F.same (by rw [K.2.2.1]; exact hn)
theorem Rt.s1 {k : Nat} (K : Rt tg h r x) (F : Ft tg T h h1) (hn : ¬ T [k, x]) : sm h h1 (gP h r k) := by
  by_cases z : gP h r k = 0
  · rw [z]; exact F.z
  · exact F.same (by rw [K.a z]; exact hn)
theorem Rt.s2 {k j : Nat} (K : Rt tg h r x) (F : Ft tg T h h1) (hn : ¬ T [j, k, x]) : sm h h1 (gP h (gP h r k) j) := by
  by_cases z : gP h (gP h r k) j = 0
  · rw [z]; exact F.z
  · exact F.same (by rw [K.o z]; exact hn)
theorem Rt.s3 {k j i : Nat} (K : Rt tg h r x) (F : Ft tg T h h1) (hn : ¬ T [i, j, k, x]) : sm h h1 (gP h (gP h (gP h r k) j) i) := by
  by_cases z : gP h (gP h (gP h r k) j) i = 0
  · rw [z]; exact F.z
  · exact F.same (by rw [K.q z]; exact hn)
/-- the numbers that a room's shape asks -/
def RmN (h : Hp) (r : Nat) : Prop := (gI h (gP h r 4) 1 = nI 0 ∧ gI h (gP h r 4) 0 = nI 0) ∧ (gI h (gP h (gP h r 14) 8) 0 = nI 0 ∧ gI h (gP h (gP h r 14) 9) 0 = nI 0) ∧
  (∀ q, gP h (gP h r 5) q ≠ 0 → gI h (gP h (gP h (gP h r 5) q) 1) 0 = nI 0 ∧ zO (gI h (gP h (gP h r 5) q) 10) ∧ zO (gI h (gP h (gP h r 5) q) 11) ∧ ∀ b, zO (gI h (gP h (gP h (gP h r 5) q) 2) b)) ∧
  (∀ k, gP h (gP h r 8) k ≠ 0 → zO (gI h (gP h (gP h r 8) k) 2) ∧ ∀ j, zO (gI h (gP h (gP h (gP h r 8) k) 10) j)) ∧
  ∀ s, gP h (gP h r 10) s ≠ 0 → zO (gI h (gP h (gP h r 10) s) 14)
theorem RmS.n (S : RmS h r) : RmN h r := by
  obtain ⟨a1, a2, a3, a4, a5, a6, a7, a8, a9, a10, a11, a12, a13, a14, ⟨b1, b2, b3, b3'⟩, ⟨b4, b5⟩, c1, c2, c3, c4⟩ := S
  exact ⟨⟨b3, b3'⟩, b5.2.2.2.2.2.2.2, fun q hq => (c1 q hq).2.2.2.2.2.2, fun k hk => (c3 k hk).2.2.2.2.2.2, fun s hs => (c4 s hs).2.2.2.2.2⟩
theorem RmS.of {D : Nat → Prop} (S : RmS h r) (F : Fr D h h1) (N : RmN h1 r) : RmS h1 r := by
  obtain ⟨a1, a2, a3, a4, a5, a6, a7, a8, a9, a10, a11, a12, a13, a14, ⟨b1, b2, b3, b3'⟩, ⟨b4, b5⟩, c1, c2, c3, c4⟩ := S
  obtain ⟨n1, n2, n3, n4, n5⟩ := N
  obtain ⟨e1, e2, e3, -⟩ := F
  unfold RmS PtS StyS MaS SlS BrS ar
  unfold ar at a2 a3 a4 a5 a6 a7 a8 a9 a10 a11 a12 a13 a14
  unfold StyS ar at b2 c2
  unfold BrS ar at b5
  unfold PtS ar at c1
  unfold MaS ar at c3
  unfold SlS at c4
  rw [e3] at n1 n2 n3 n4 n5 ⊢
  rw [e1, e2]
  exact ⟨a1, a2, a3, a4, a5, a6, a7, a8, a9, a10, a11, a12, a13, a14, ⟨b1, b2, n1.1, n1.2⟩, ⟨b4, b5.1, b5.2.1, b5.2.2.1, b5.2.2.2.1, b5.2.2.2.2.1, b5.2.2.2.2.2.1, b5.2.2.2.2.2.2.1, n2.1, n2.2⟩, fun q hq => ⟨(c1 q hq).1, (c1 q hq).2.1, (c1 q hq).2.2.1, (c1 q hq).2.2.2.1, (c1 q hq).2.2.2.2.1, (c1 q hq).2.2.2.2.2.1, n3 q hq⟩, c2, fun k hk => ⟨(c3 k hk).1, (c3 k hk).2.1, (c3 k hk).2.2.1, (c3 k hk).2.2.2.1, (c3 k hk).2.2.2.2.1, (c3 k hk).2.2.2.2.2.1, n4 k hk⟩, fun s hs => ⟨(c4 s hs).1, (c4 s hs).2.1, (c4 s hs).2.2.1, (c4 s hs).2.2.2.1, (c4 s hs).2.2.2.2.1, n5 s hs⟩⟩
theorem StyV.cg {y Y : Nat} (V : StyV h y m Y) (e0 : sm h h1 y) (e1 : ∀ k, 2 ≤ k → k ≤ 6 → sm h h1 (gP h y k)) : StyV h1 y m Y := by
  unfold StyV at V ⊢
  simp only [e0.2.2.1, e0.2.2.2, (e1 2 (by omega) (by omega)).2.2.1, (e1 3 (by omega) (by omega)).2.2.1, (e1 4 (by omega) (by omega)).2.2.1, (e1 5 (by omega) (by omega)).2.2.1, (e1 6 (by omega) (by omega)).2.2.1]
  exact V
/-- cells that say nothing between calls -/
def scT (x : Nat) (l : List Nat) : Prop := l = [14, x] ∨ l = [15, x] ∨ l = [16, x] ∨ l = [17, x] ∨ l = [18, x] ∨ l = [19, x] ∨ (∃ j, l = [j, 14, x]) ∨ l = [7, 4, x] ∨ l = [8, 4, x] ∨ (∃ y, l = [7, y, 2, x]) ∨ (∃ y, l = [8, y, 2, x])
def Sc (tg : Nat → List Nat) (r x : Nat) (h h1 : Hp) : Prop := Ft tg (scT x) h h1 ∧ gI h1 (gP h (gP h r 14) 8) 0 = nI 0 ∧ gI h1 (gP h (gP h r 14) 9) 0 = nI 0
theorem Sc.rfl (S : RmS h r) : Sc tg r x h h := ⟨Ft.rfl, S.n.2.1⟩
theorem Sc.trans (a : Sc tg r x h h1) (b : Sc tg r x h1 h2) : Sc tg r x h h2 := ⟨a.1.trans b.1, by
  have := b.2
  rw [a.1.gp] at this
  exact this⟩
theorem Sc.rt (K : Rt tg h r x) (a : Sc tg r x h h1) : Rt tg h1 r x := K.fr a.1
theorem Sc.rs (K : Rt tg h r x) (S : RmS h r) (a : Sc tg r x h h1) : RmS h1 r := by
  refine S.of a.1 ?_
  obtain ⟨n1, n2, n3, n4, n5⟩ := S.n
  obtain ⟨F, z1, z2⟩ := a
  have e3 : gP h1 = gP h := F.gp
  unfold RmN
  rw [e3]
  refine ⟨?_, ⟨z1, z2⟩, fun q hq => ?_, fun k hk => ?_, fun s hs => ?_⟩
  · rw [(K.s1 (k := 4) F (by simp [scT])).2.2.1]; exact n1
  · rw [(K.s3 (k := 5) (j := q) (i := 1) F (by simp [scT])).2.2.1, (K.s3 (k := 5) (j := q) (i := 2) F (by simp [scT])).2.2.1, (K.s2 (k := 5) (j := q) F (by simp [scT])).2.2.1]
    exact n3 q hq
  · rw [(K.s3 (k := 8) (j := k) (i := 10) F (by simp [scT])).2.2.1, (K.s2 (k := 8) (j := k) F (by simp [scT])).2.2.1]
    exact n4 k hk
  · rw [(K.s2 (k := 10) (j := s) F (by simp [scT])).2.2.1]
    exact n5 s hs
theorem Sc.rv (K : Rt tg h r x) (V : RmV h r m) (a : Sc tg r x h h1) : RmV h1 r m := by
  obtain ⟨F, -, -⟩ := a
  obtain ⟨a1, a2, a3, a4, a5, a6, a7, c1, c2, c3, c4, d⟩ := V
  have e3 : gP h1 = gP h := F.gp
  have e0 := (K.s0 F (by simp [scT])).2.2.1
  have e1 := (K.s1 (k := 1) F (by simp [scT])).2.2.1
  have e6 := (K.s1 (k := 6) F (by simp [scT])).2.2.1
  have e12 := (K.s1 (k := 12) F (by simp [scT])).2.2.1
  have e13 := (K.s1 (k := 13) F (by simp [scT])).2.2.1
  unfold RmV
  rw [e3, e0, e1, e6, e12, e13]
  refine ⟨a1, a2, a3, a4, a5, a6, a7, fun q hq => ⟨(c1 q hq).1, (c1 q hq).2.congr (K.s2 F (by simp [scT])) (fun k => K.s3 F (by simp [scT]))⟩, fun q hq => ⟨(c2 q hq).1, (c2 q hq).2.congr (K.s2 F (by simp [scT])) (fun k => K.s3 F (by simp [scT]))⟩, fun q hq => ⟨(c3 q hq).1, (c3 q hq).2.congr (K.s2 F (by simp [scT])) (fun k => K.s3 F (by simp [scT]))⟩, fun q hq => ⟨(c4 q hq).1, (c4 q hq).2.cg (K.s2 F (by simp [scT])) (fun k h1 h2 => K.s3 F (by simp [scT]; omega))⟩, d⟩
theorem CSt.rt {k t : Nat → Int32} {i n f : Int32} (C : CSt tg h m k i t n f) : Rt tg h 19 5 := by
  obtain ⟨-, -, t3, -, -, -, t19, -⟩ := tgs C.1 C.2.1
  exact ⟨C.1, t3, t19, by omega, by omega⟩
theorem scT.sf {l : List Nat} (z : scT x l) : [x] <:+ l := by
  rcases z with rfl | rfl | rfl | rfl | rfl | rfl | ⟨j, rfl⟩ | rfl | rfl | ⟨y, rfl⟩ | ⟨y, rfl⟩
  all_goals first | exact List.suffix_append [_] [x] | exact List.suffix_append [_, _] [x] | exact List.suffix_append [_, _, _] [x]
theorem CSt.sc {k t : Nat → Int32} {i n f : Int32} (C : CSt tg h m k i t n f) (a : Sc tg 19 5 h h1) : CSt tg h1 m k i t n f := by
  have K := C.rt
  exact C.room a.1 (fun b z => ⟨z.1, z.2.sf⟩) (a.rs K C.2.2.2.1) (a.rv K C.2.2.2.2.1) C.2.2.2.2.2.2.2.1 (fun _ _ => Eq.refl _)
theorem Sc.rp {k t : Nat → Int32} {i n f : Int32} (O : Own tg h) (R : RSt h m k i t n f) (a : Sc tg 19 5 h h1) : Rp h h1 := Fr.rp a.1 (fun b z => nr O R.1 (x := 5) (by omega) (by omega) z.2.sf)
/-- scratch is written, nothing else -/
theorem Pr.sc {cm : Nat → Nat} {X : Option ((Int32 ⊕ Nat) × Hp)} {Y : Hp → Option (Int32 × Hp)} {k t : Nat → Int32} {i n f : Int32} (C : CSt tg h m k i t n f) (R : RSt h m k i t n f) (v : Int32) (hX : X = some (.inl v, h1)) (a : Sc tg 19 5 h h1) (hY : ∀ h', RSt h' m k i t n f → ∃ h2, Y h' = some (v, h2) ∧ Fr Rc h' h2 ∧ RSt h2 m k i t n f ∧ gI h2 73 0 = nI 0) : Pr cm Gq h X Y := by
  have R1 : RSt h1 m k i t n f := R.rp (a.rp C.1 R)
  refine ⟨.inl v, h1, tg, m, k, i, t, n, f, hX, C.sc a, a.rp C.1 R, Fr.gq a.1, fun h' o => ?_⟩
  obtain ⟨h2, e1, e2, e3, e4⟩ := hY h' (R1.ou o)
  exact ⟨v, h2, e1, e2, e3, e4, Eq.refl _⟩
theorem Pr.scE {cm : Nat → Nat} {X : Option ((Int32 ⊕ Nat) × Hp)} {Y : Hp → Option (Int32 × Hp)} {k t : Nat → Int32} {i n f : Int32} (C : CSt tg h m k i t n f) (R : RSt h m k i t n f) (E c : Nat) (hc : cm E = c) (q1 : 1 ≤ c) (q4 : c ≤ 4) (hX : X = some (.inr E, bmp h1 1 6)) (a : Sc tg 19 5 h h1) (hY : ∀ h', RSt h' m k i t n f → ∃ b, Y h' = some (b, sI h' 73 0 (nI c))) : Pr cm Gq h X Y := by
  have R1 : RSt h1 m k i t n f := R.rp (a.rp C.1 R)
  have g := Fr.gq a.1
  have z1 : nc h1 = nc h := a.1.2.2.2.2.1
  have z2 : ns h1 = ns h := a.1.2.2.2.2.2.1
  refine ⟨.inr E, bmp h1 1 6, tg, m, k, i, t, n, f, hX, (C.sc a).bmp, fun b b1 b2 => ?_, ⟨g.1, g.2.1, ?_, ?_, ?_, ?_, g.2.2.2.2.2.2⟩, fun h' o => ?_⟩
  · exact a.rp C.1 R b b1 b2
  · show nc h ≤ nc h1 + 1
    omega
  · show nc h1 + 1 ≤ nc h + 1
    omega
  · show ns h ≤ ns h1 + 6
    omega
  · show ns h1 + 6 ≤ ns h + 6
    omega
  · have R2 : RSt h' m k i t n f := RSt.ou (h := bmp h1 1 6) R1 o
    obtain ⟨b, e⟩ := hY h' R2
    exact ⟨b, _, e, th_fr, R2.th, by rw [th_get, hc], by omega, by omega⟩
/-! the reference's scratch -/
def Rk (h h1 : Hp) : Prop := Fr (fun b => b = 73 ∨ (78 ≤ b ∧ b ≤ 108)) h h1 ∧ gI h1 73 0 = gI h 73 0 ∧ gI h1 73 4 = gI h 73 4 ∧ gI h1 73 6 = gI h 73 6 ∧ gI h1 73 9 = gI h 73 9
theorem Rk.rfl : Rk h h := ⟨Fr.rfl, Eq.refl _, Eq.refl _, Eq.refl _, Eq.refl _⟩
theorem Rk.trans (a : Rk h h1) (b : Rk h1 h2) : Rk h h2 := ⟨a.1.trans b.1, b.2.1.trans a.2.1, b.2.2.1.trans a.2.2.1, b.2.2.2.1.trans a.2.2.2.1, b.2.2.2.2.trans a.2.2.2.2⟩
theorem Rk.s {a j : Nat} {v : Int32} (q1 : 78 ≤ a) (q2 : a ≤ 108) : Rk h (sI h a j v) := by
  have e : gI (sI h a j v) 73 = gI h 73 := by rw [gI_sI, if_neg (by omega)]
  exact ⟨Fr.sI (S := fun b => b = 73 ∨ (78 ≤ b ∧ b ≤ 108)) (Or.inr ⟨q1, q2⟩), by rw [e], by rw [e], by rw [e], by rw [e]⟩
theorem Rk.f {j : Nat} {v : Int32} (q : j ≠ 0 ∧ j ≠ 4 ∧ j ≠ 6 ∧ j ≠ 9) : Rk h (sI h 73 j v) := by
  have e : ∀ l, l ≠ j → gI (sI h 73 j v) 73 l = gI h 73 l := fun l hl => by rw [gI_sI, if_pos (Eq.refl _), up_at, if_neg hl]
  exact ⟨Fr.sI (S := fun b => b = 73 ∨ (78 ≤ b ∧ b ≤ 108)) (Or.inl (Eq.refl _)), e 0 (by omega), e 4 (by omega), e 6 (by omega), e 9 (by omega)⟩
theorem Rk.fr (a : Rk h h1) : Fr Rc h h1 := a.1.mono (fun b z => by unfold Rc; omega)
theorem Rk.rs (R : RS h) (a : Rk h h1) : RS h1 := R.fr a.1
theorem Rk.g (a : Rk h h1) {b : Nat} (q1 : b ≠ 73) (q2 : b < 78 ∨ 108 < b) : gI h1 b = gI h b := a.1.2.2.2.2.2.2 b (by omega)
theorem Rk.st {k t : Nat → Int32} {i n f : Int32} (R : RSt h m k i t n f) (a : Rk h h1) : RSt h1 m k i t n f := by
  obtain ⟨r0, r1, r2, r3, r4, r5, r6⟩ := R
  exact ⟨r0.fr a.1, by rw [a.g (by omega) (by omega)]; exact r1, by rw [a.g (by omega) (by omega)]; exact r2, by rw [a.2.2.1]; exact r3, by rw [a.g (by omega) (by omega)]; exact r4, by rw [a.2.2.2.1]; exact r5, by rw [a.2.2.2.2]; exact r6⟩
end
