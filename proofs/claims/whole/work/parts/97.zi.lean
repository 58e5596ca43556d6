/-! one object is copied over another one -/
def AP (h : Hp) (p q : Nat) : Prop := p ≠ 0 ∧ p ≠ q ∧ (∀ k, p ≠ gP h q k) ∧ ∀ k, gP h p k ≠ 0 → gP h p k ≠ p ∧ gP h p k ≠ q ∧ (∀ l, gP h p k ≠ gP h q l) ∧ ∀ l, l ≠ k → gP h p k ≠ gP h p l
def Cy (h0 h : Hp) (p q : Nat) (js ks : List Nat) : Prop := Fr (fun b => b = p ∨ ∃ k, gP h0 p k ≠ 0 ∧ b = gP h0 p k) h0 h ∧ (∀ j, j ∈ js → gI h p j = gI h0 q j) ∧ (∀ j, ¬ j ∈ js → gI h p j = gI h0 p j) ∧ (∀ k, ¬ k ∈ ks → gP h0 p k ≠ 0 → gI h (gP h0 p k) = gI h0 (gP h0 p k)) ∧ ∀ k, k ∈ ks → ∀ l, gI h (gP h0 p k) l = if l < ln h0 (gP h0 p k) then gI h0 (gP h0 q k) l else gI h0 (gP h0 p k) l
section
variable {h h0 h1 g : Hp} {p q k j c n a b : Nat} {js ks : List Nat}
theorem cpB_t (ha : n ≤ a) (hb : n ≤ b) (hn : n < 2147483648) : cpB (nI 0) (nI 0) (nI n) a b = true := by
  unfold cpB
  rw [nCl (by omega), nCl hn]
  have z0 : ¬ nI 0 < (0 : Int32) := nI_pos (by omega)
  have zn : ¬ nI n < (0 : Int32) := nI_pos hn
  simp only [z0, zn, not_false_eq_true, decide_true, Bool.true_and, Nat.zero_add, Bool.and_eq_true, decide_eq_true_eq]
  exact ⟨ha, hb⟩
theorem cpy_at {f u : Nat → Int32} {l : Nat} : va_cpy f u 0 0 n l = if l < n then f l else u l := by
  unfold va_cpy
  by_cases z : l < n
  · rw [if_pos ⟨Nat.zero_le _, by omega⟩, if_pos z, Nat.zero_add, Nat.sub_zero]
  · rw [if_neg (fun w => z (by omega)), if_neg z]
theorem Cy.rfl : Cy h0 h0 p q [] [] := ⟨Fr.rfl, fun j hj => absurd hj (List.not_mem_nil), fun _ _ => Eq.refl _, fun _ _ _ => Eq.refl _, fun k hk => absurd hk (List.not_mem_nil)⟩
theorem Cy.sr (A : AP h0 p q) (C : Cy h0 h p q js ks) : gI h q = gI h0 q ∧ ∀ k, gI h (gP h0 q k) = gI h0 (gP h0 q k) := by
  obtain ⟨a0, a1, a2, a3⟩ := A
  refine ⟨C.1.2.2.2.2.2.2 q (fun z => ?_), fun k => C.1.2.2.2.2.2.2 _ (fun z => ?_)⟩
  · rcases z with z | ⟨l, hl, z⟩
    · exact a1 z.symm
    · exact (a3 l hl).2.1 z.symm
  · rcases z with z | ⟨l, hl, z⟩
    · exact a2 k z.symm
    · exact (a3 l hl).2.2.1 k z.symm
theorem Cy.num (A : AP h0 p q) (C : Cy h0 h p q js ks) : Cy h0 (sI h p j (gI h q j)) p q (j :: js) ks := by
  have s := C.sr A
  obtain ⟨c1, c2, c3, c4, c5⟩ := C
  obtain ⟨a0, a1, a2, a3⟩ := A
  refine ⟨c1.trans (Fr.sI (Or.inl (Eq.refl _))), fun l hl => ?_, fun l hl => ?_, fun k hk hz => ?_, fun k hk l => ?_⟩
  · rw [gI2]
    by_cases z : l = j
    · rw [if_pos ⟨Eq.refl _, z⟩, s.1, z]
    · rw [if_neg (fun w => z w.2)]
      rcases List.mem_cons.mp hl with y | y
      · exact absurd y z
      · exact c2 l y
  · rw [gI2, if_neg (fun w => hl (by rw [w.2]; exact List.mem_cons_self))]
    exact c3 l (fun w => hl (List.mem_cons_of_mem _ w))
  · rw [gI_sI, if_neg (a3 k hz).1]
    exact c4 k hk hz
  · by_cases hz : gP h0 p k = 0
    · rw [gI_sI, if_neg (by rw [hz]; exact fun w => a0 w.symm)]
      exact c5 k hk l
    · rw [gI_sI, if_neg (a3 k hz).1]
      exact c5 k hk l
theorem Cy.arr (A : AP h0 p q) (C : Cy h0 h p q js ks) (hz : gP h0 p k ≠ 0) (nk : ¬ k ∈ ks) {u : Nat → Int32} (hu : ∀ l, u l = if l < ln h0 (gP h0 p k) then gI h (gP h0 q k) l else gI h (gP h0 p k) l) : Cy h0 (rI h (gP h0 p k) u) p q js (k :: ks) := by
  have s := C.sr A
  obtain ⟨c1, c2, c3, c4, c5⟩ := C
  obtain ⟨a0, a1, a2, a3⟩ := A
  have np := (a3 k hz).1
  refine ⟨c1.trans (Fr.rI (Or.inr ⟨k, hz, Eq.refl _⟩)), fun l hl => ?_, fun l hl => ?_, fun k' hk hz' => ?_, fun k' hk l => ?_⟩
  · rw [gI_rI, if_neg (fun w => np w.symm)]
    exact c2 l hl
  · rw [gI_rI, if_neg (fun w => np w.symm)]
    exact c3 l hl
  · have hn : k' ≠ k := fun e => hk (by rw [e]; exact List.mem_cons_self)
    rw [gI_rI, if_neg (fun w => (a3 k hz).2.2.2 k' hn w.symm)]
    exact c4 k' (fun w => hk (List.mem_cons_of_mem _ w)) hz'
  · by_cases e : k' = k
    · rw [e]
      rw [gI_rI, if_pos (Eq.refl _), hu l, s.2 k, c4 k nk hz]
    · rw [gI_rI, if_neg (fun w => (a3 k hz).2.2.2 k' e w.symm)]
      rcases List.mem_cons.mp hk with y | y
      · exact absurd y e
      · exact c5 k' y l
theorem Cy.numK {β : Type} {Q : β → Prop} {kk : Hp → Option β} (A : AP h0 p q) (C : Cy h0 h p q js ks) (H : ∀ g, Cy h0 g p q (j :: js) ks → ∃ r, kk g = some r ∧ Q r) : ∃ r, (lt (sI h p j (gI h q j)) fun (g : Hp) => kk g) = some r ∧ Q r := by
  obtain ⟨r, e, w⟩ := H _ (C.num (j := j) A)
  exact ⟨r, by rw [lt_eq]; exact e, w⟩
theorem Cy.arrK {β : Type} {Q : β → Prop} {kk : Hp → Option β} (A : AP h0 p q) (C : Cy h0 h p q js ks) (hp : ar h0 p k c n) (hq : ar h0 q k c n) (n1 : n < 100000) (nk : ¬ k ∈ ks) (H : ∀ g, Cy h0 g p q js (k :: ks) → ∃ r, kk g = some r ∧ Q r) : ∃ r, (gg (kd h0 (gP h0 p k) = c) (gg (kd h0 (gP h0 q k) = c) (gg (cpB (0 : Int32) (0 : Int32) (nI (ln h (gP h0 p k))) (ln h (gP h0 q k)) (ln h (gP h0 p k)) = true) (lt (rI h (gP h0 p k) (va_cpy (gI h (gP h0 q k)) (gI h (gP h0 p k)) (0 : Int32).toNatClampNeg (0 : Int32).toNatClampNeg (nI (ln h (gP h0 p k))).toNatClampNeg)) fun (g : Hp) => kk g)))) = some r ∧ Q r := by
  obtain ⟨p0, p1, p2⟩ := hp
  obtain ⟨q0, q1, q2⟩ := hq
  have lp : ln h (gP h0 p k) = n := by rw [C.1.2.1]; exact p2
  have lq : ln h (gP h0 q k) = n := by rw [C.1.2.1]; exact q2
  obtain ⟨r, e, w⟩ := H _ (C.arr (k := k) (u := va_cpy (gI h (gP h0 q k)) (gI h (gP h0 p k)) 0 0 n) A p0 nk (fun l => by
    rw [p2, cpy_at]))
  refine ⟨r, ?_, w⟩
  rw [gg_t p1, gg_t q1, lp, lq]
  simp only [ZL]
  rw [gg_t (cpB_t (Nat.le_refl _) (Nat.le_refl _) (by omega)), lt_eq, nCl (by omega), nCl (by omega)]
  exact e
/-- flags are copied -/
theorem c_flags {A B : Nat} (hA : kd h A = 22 ∧ ln h A = n) (hB : kd h B = 22 ∧ ln h B = n) (hn : n < 1000) (hz : ∀ l, zO (gI h A l)) (nq : A ≠ B) : ∃ h1 u, MX11_copyFlags h A B = some h1 ∧ h1 = rI h B u ∧ (∀ l, l < n → u l = gI h A l) ∧ ∀ l, n ≤ l → u l = gI h B l := by
  unfold MX11_copyFlags MX11_copyFlags_2
  have K0 : ∃ z, it (fun q : Int32 × Hp => BX11_copyFlags_2 q.2 A B q.1) (nI 0, h) = some z ∧ (∃ u, z = rI h B u ∧ (∀ l, l < n → u l = gI h A l) ∧ ∀ l, n ≤ l → u l = gI h B l) := by
    refine it_cnt (fun j s => s.1 = nI j ∧ ∃ u, s.2 = rI h B u ∧ (∀ l, l < j → u l = gI h A l) ∧ ∀ l, j ≤ l → u l = gI h B l) n (fun j s hj pp => ?_) (fun s pp => ?_) ⟨Eq.refl _, gI h B, (rI_self h B).symm, fun l hl => absurd hl (by omega), fun _ _ => Eq.refl _⟩
    · obtain ⟨v, g⟩ := s
      obtain ⟨p1, u, p2, p3, p4⟩ := pp
      replace p1 : v = nI j := p1
      replace p2 : g = rI h B u := p2
      subst p1 p2
      have gA : gI (rI h B u) A = gI h A := by rw [gI_rI, if_neg nq]
      refine ⟨(nI (j + 1), rI h B (va_up u j (gI h A j))), ?_, Eq.refl _, va_up u j (gI h A j), Eq.refl _, fun l hl => ?_, fun l hl => ?_⟩
      · show BX11_copyFlags_2 (rI h B u) A B (nI j) = _
        have vz : vp_nar .boolean (gI h A j) = gI h A j := by rcases hz j with z | z <;> (rw [z]; decide)
        unfold BX11_copyFlags_2
        rw [gg_t (show kd (rI h B u) A = 22 from hA.1), show ln (rI h B u) A = n from hA.2, if_neg (nI_ge hj (by omega)), gg_t (show kd (rI h B u) B = 22 from hB.1), show ln (rI h B u) B = n from hB.2, if_neg (nI_ge hj (by omega)), gg_in hj (by omega), gg_in hj (by omega), lt_eq, nCl (by omega), gA, vz, sI_rI]
        simp only [ZL, nAdd]
      · rw [up_at]
        by_cases z : l = j
        · rw [if_pos z, z]
        · rw [if_neg z]; exact p3 l (by omega)
      · rw [up_at, if_neg (by omega)]
        exact p4 l (by omega)
    · obtain ⟨v, g⟩ := s
      obtain ⟨p1, u, p2, p3, p4⟩ := pp
      replace p1 : v = nI n := p1
      replace p2 : g = rI h B u := p2
      subst p1 p2
      refine ⟨rI h B u, ?_, u, Eq.refl _, p3, p4⟩
      show BX11_copyFlags_2 (rI h B u) A B (nI n) = _
      unfold BX11_copyFlags_2
      rw [gg_t (show kd (rI h B u) A = 22 from hA.1), show ln (rI h B u) A = n from hA.2, if_pos (nI_le (Nat.le_refl _) (by omega))]
  obtain ⟨z, y1, u, y2, y3, y4⟩ := K0
  exact ⟨z, u, by simp only [ZL]; exact y1, y2, y3, y4⟩
theorem Cy.flgK {β : Type} {Q : β → Prop} {kk : Hp → Option β} (A : AP h0 p q) (C : Cy h0 h p q js ks) (hp : ar h0 p k 22 n) (hq : ar h0 q k 22 n) (n1 : n < 1000) (nk : ¬ k ∈ ks) (hz : ∀ l, zO (gI h0 (gP h0 q k) l)) (H : ∀ g, Cy h0 g p q js (k :: ks) → ∃ r, kk g = some r ∧ Q r) : ∃ r, (Option.bind (MX11_copyFlags h (gP h0 q k) (gP h0 p k)) fun (g : Hp) => kk g) = some r ∧ Q r := by
  obtain ⟨p0, p1, p2⟩ := hp
  obtain ⟨q0, q1, q2⟩ := hq
  have s := C.sr A
  obtain ⟨h1, u, e1, e2, e3, e4⟩ := c_flags (A := gP h0 q k) (B := gP h0 p k) (n := n) ⟨by rw [C.1.1]; exact q1, by rw [C.1.2.1]; exact q2⟩ ⟨by rw [C.1.1]; exact p1, by rw [C.1.2.1]; exact p2⟩ n1 (fun l => by rw [s.2 k]; exact hz l) (fun e => (A.2.2.2 k p0).2.2.1 k e.symm)
  obtain ⟨r, e, w⟩ := H _ (C.arr (k := k) (u := u) A p0 nk (fun l => by
    rw [p2]
    by_cases z : l < n
    · rw [if_pos z]; exact e3 l z
    · rw [if_neg z]; exact e4 l (by omega)))
  refine ⟨r, ?_, w⟩
  rw [e1, ob_some, e2]
  exact e
theorem c_cpSty (A : AP h0 p q) (hp : StyS h0 p) (hq : StyS h0 q) : ∃ r, MX9_takeAll h0 p q = some r ∧ Cy h0 r p q [1, 0] [6, 5, 4, 3, 2] := by
  obtain ⟨a0, a2, a3, a4, a5, a6, a7, a8⟩ := hp
  obtain ⟨b0, b2, b3, b4, b5, b6, b7, b8⟩ := hq
  have C : Cy h0 h0 p q [] [] := Cy.rfl
  unfold MX9_takeAll
  rw [gg_t b0, gg_t a0]
  refine Cy.numK A C fun g C => ?_
  refine Cy.numK A C fun g C => ?_
  refine Cy.arrK A C a2 b2 (by omega) (by simp) fun g C => ?_
  refine Cy.arrK A C a3 b3 (by omega) (by simp) fun g C => ?_
  refine Cy.arrK A C a4 b4 (by omega) (by simp) fun g C => ?_
  refine Cy.arrK A C a5 b5 (by omega) (by simp) fun g C => ?_
  refine Cy.arrK A C a6 b6 (by omega) (by simp) fun g C => ?_
  exact ⟨_, Eq.refl _, C⟩
theorem c_cpMa (A : AP h0 p q) (hp : MaS h0 p) (hq : MaS h0 q) : ∃ r, MX4_takeAll h0 p q = some r ∧ Cy h0 r p q [6, 5, 4, 3, 2, 1] [10, 9, 8, 7, 0] := by
  obtain ⟨a0, a1, a2, a3, a4, a5, a6, a7⟩ := hp
  obtain ⟨b0, b1, b2, b3, b4, b5, b6, b7⟩ := hq
  have C : Cy h0 h0 p q [] [] := Cy.rfl
  unfold MX4_takeAll
  rw [gg_t b0, gg_t a0]
  refine Cy.arrK A C a1 b1 (by omega) (by simp) fun g C => ?_
  refine Cy.arrK A C a2 b2 (by omega) (by simp) fun g C => ?_
  refine Cy.arrK A C a3 b3 (by omega) (by simp) fun g C => ?_
  refine Cy.arrK A C a4 b4 (by omega) (by simp) fun g C => ?_
  refine Cy.flgK A C a5 b5 (by omega) (by simp) b7 fun g C => ?_
  rw [gg_t (show kd g q = 3 by rw [C.1.1]; exact b0), gg_t (show kd g p = 3 by rw [C.1.1]; exact a0)]
  refine Cy.numK A C fun g C => ?_
  rw [gg_t (show zOk (gI g q 2) = true by rw [(C.sr A).1]; rcases b6 with z | z <;> (rw [z]; decide))]
  refine Cy.numK A C fun g C => ?_
  refine Cy.numK A C fun g C => ?_
  refine Cy.numK A C fun g C => ?_
  refine Cy.numK A C fun g C => ?_
  refine Cy.numK A C fun g C => ?_
  exact ⟨_, Eq.refl _, C⟩
theorem c_cpCopy (A : AP h0 p q) (hp : PtS h0 p) (hq : PtS h0 q) : ∃ r, MX5_takeCopy h0 p q = some r ∧ Cy h0 r p q [6, 5] [2, 1, 0] := by
  obtain ⟨a0, a1, a2, a3, a4, a5, a6, a7, a8, a9⟩ := hp
  obtain ⟨b0, b1, b2, b3, b4, b5, b6, b7, b8, b9⟩ := hq
  have C : Cy h0 h0 p q [] [] := Cy.rfl
  unfold MX5_takeCopy
  rw [gg_t b0, gg_t a0]
  refine Cy.arrK A C a1 b1 (by omega) (by simp) fun g C => ?_
  refine Cy.arrK A C a2 b2 (by omega) (by simp) fun g C => ?_
  refine Cy.flgK A C a3 b3 (by omega) (by simp) b9 fun g C => ?_
  rw [gg_t (show kd g q = 4 by rw [C.1.1]; exact b0), gg_t (show kd g p = 4 by rw [C.1.1]; exact a0)]
  refine Cy.numK A C fun g C => ?_
  refine Cy.numK A C fun g C => ?_
  exact ⟨_, Eq.refl _, C⟩
theorem c_cpLines (A : AP h0 p q) (hp : PtS h0 p) (hq : PtS h0 q) : ∃ r, MX5_takeLines h0 p q = some r ∧ Cy h0 r p q [9] [4, 3] := by
  obtain ⟨a0, a1, a2, a3, a4, a5, a6, a7, a8, a9⟩ := hp
  obtain ⟨b0, b1, b2, b3, b4, b5, b6, b7, b8, b9⟩ := hq
  have C : Cy h0 h0 p q [] [] := Cy.rfl
  unfold MX5_takeLines
  rw [gg_t b0, gg_t a0]
  refine Cy.arrK A C a4 b4 (by omega) (by simp) fun g C => ?_
  refine Cy.arrK A C a5 b5 (by omega) (by simp) fun g C => ?_
  refine Cy.numK A C fun g C => ?_
  exact ⟨_, Eq.refl _, C⟩
theorem AP.fr {D : Nat → Prop} (A : AP h0 p q) (F : Fr D h0 h) : AP h p q := by
  unfold AP
  rw [F.2.2.1]
  exact A
theorem Cy.trans {js' ks' : List Nat} (A : AP h0 p q) (a : Cy h0 h p q js ks) (b : Cy h h1 p q js' ks') (dj : ∀ j, j ∈ js → ¬ j ∈ js') (dk : ∀ k, k ∈ ks → ¬ k ∈ ks') : Cy h0 h1 p q (js' ++ js) (ks' ++ ks) := by
  have s := a.sr A
  obtain ⟨a1, a2, a3, a4, a5⟩ := a
  obtain ⟨b1, b2, b3, b4, b5⟩ := b
  have eP : gP h = gP h0 := a1.2.2.1
  have eL : ln h = ln h0 := a1.2.1
  rw [eP] at b1 b4 b5
  rw [eL] at b5
  refine ⟨a1.trans b1, fun j hj => ?_, fun j hj => ?_, fun k hk hz => ?_, fun k hk l => ?_⟩
  · rcases List.mem_append.mp hj with z | z
    · rw [b2 j z, s.1]
    · rw [b3 j (dj j z), a2 j z]
  · rw [b3 j (fun z => hj (List.mem_append.mpr (Or.inl z))), a3 j (fun z => hj (List.mem_append.mpr (Or.inr z)))]
  · rw [b4 k (fun z => hk (List.mem_append.mpr (Or.inl z))) hz, a4 k (fun z => hk (List.mem_append.mpr (Or.inr z))) hz]
  · rcases List.mem_append.mp hk with z | z
    · rw [b5 k z l, s.2 k]
      by_cases hz : gP h0 p k = 0
      · have g0 : gI h (gP h0 p k) = gI h0 (gP h0 p k) := a1.2.2.2.2.2.2 _ (fun y => by
          rcases y with y | ⟨k', hk', y⟩
          · exact A.1 (y.symm.trans hz)
          · exact hk' (y.symm.trans hz))
        rw [g0]
      · by_cases w : k ∈ ks
        · exact absurd z (dk k w)
        · rw [a4 k w hz]
    · by_cases hz : gP h0 p k = 0
      · have g0 : gI h1 (gP h0 p k) = gI h (gP h0 p k) := b1.2.2.2.2.2.2 _ (fun y => by
          rcases y with y | ⟨k', hk', y⟩
          · exact A.1 (y.symm.trans hz)
          · exact hk' (y.symm.trans hz))
        rw [g0, a5 k z l]
      · rw [b4 k (dk k z) hz, a5 k z l]
theorem cyz {P : Int32 → Prop} {A l N : Nat} (e : gI h A l = if l < N then gI h0 k l else gI h0 c l) (h1 : P (gI h0 k l)) (h2 : P (gI h0 c l)) : P (gI h A l) := by
  rw [e]
  by_cases z : l < N
  · rw [if_pos z]; exact h1
  · rw [if_neg z]; exact h2
theorem c_cpPt (A : AP h0 p q) (hp : PtS h0 p) (hq : PtS h0 q) : ∃ r, MX5_takeAll h0 p q = some r ∧ Cy h0 r p q [11, 10, 8, 7, 9, 6, 5] [4, 3, 2, 1, 0] := by
  obtain ⟨g1, e1, C1⟩ := c_cpCopy A hp hq
  have eP1 : gP g1 = gP h0 := C1.1.2.2.1
  obtain ⟨a0, a1, a2, a3, a4, a5, a6, a7, a8, a9⟩ := id hp
  obtain ⟨b0, b1, b2, b3, b4, b5, b6, b7, b8, b9⟩ := id hq
  have Sp : PtS g1 p := by
    unfold PtS ar
    rw [eP1, C1.1.1, C1.1.2.1, C1.2.2.2.2 1 (by simp) 0, if_pos (by rw [a2.2.2]; omega), C1.2.2.1 10 (by simp), C1.2.2.1 11 (by simp)]
    exact ⟨a0, a1, a2, a3, a4, a5, b6, a7, a8, fun l => cyz (C1.2.2.2.2 2 (by simp) l) (b9 l) (a9 l)⟩
  have Sq : PtS g1 q := by
    unfold PtS ar
    rw [eP1, C1.1.1, C1.1.2.1, (C1.sr A).1, (C1.sr A).2, (C1.sr A).2]
    exact ⟨b0, b1, b2, b3, b4, b5, b6, b7, b8, b9⟩
  obtain ⟨g2, e2, C2⟩ := c_cpLines (A.fr C1.1) Sp Sq
  have C : Cy h0 g2 p q ([9] ++ [6, 5]) ([4, 3] ++ [2, 1, 0]) := Cy.trans A C1 C2 (by simp) (by simp)
  unfold MX5_takeAll
  rw [gg_t a0, e1, ob_some, gg_t (show kd g1 p = 4 from Sp.1), e2, ob_some, gg_t (show kd g2 q = 4 by rw [C.1.1]; exact b0), gg_t (show kd g2 p = 4 by rw [C.1.1]; exact a0)]
  refine Cy.numK A C fun g C => ?_
  refine Cy.numK A C fun g C => ?_
  rw [gg_t (show zOk (gI g q 10) = true by rw [(C.sr A).1]; rcases b7 with z | z <;> (rw [z]; decide))]
  refine Cy.numK A C fun g C => ?_
  rw [gg_t (show zOk (gI g q 11) = true by rw [(C.sr A).1]; rcases b8 with z | z <;> (rw [z]; decide))]
  refine Cy.numK A C fun g C => ?_
  exact ⟨_, Eq.refl _, C⟩
end
