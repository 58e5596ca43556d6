/-! one object of a room is made or changed -/
def Of (tg : Nat → List Nat) (h h' : Hp) (r x F j : Nat) : Prop := (∀ b, b ≤ sz h → (b = 0 ∨ ¬ [j, F, x] <:+ tg b) → b ≠ gP h r F → sm h h' b) ∧ gP h' r = gP h r ∧ (kd h' (gP h r F) = kd h (gP h r F) ∧ ln h' (gP h r F) = ln h (gP h r F) ∧ gI h' (gP h r F) = gI h (gP h r F)) ∧ ∀ l, l ≠ j → gP h' (gP h r F) l = gP h (gP h r F) l
section
variable {tg tg' tg1 tg2 : Nat → List Nat} {h h' h1 h2 g : Hp} {m : Nat → Int32} {D : Nat → Prop} {r x F j c s L X n : Nat}
theorem Of.cells (K : Rt tg h r x) (hr : r ≤ sz h) (Z : Of tg h h' r x F j) (hA : gP h r F ≠ 0) : sm h h' r ∧ (∀ k, k ≠ F → sm h h' (gP h r k)) ∧ ∀ k q, ¬ (k = F ∧ q = j) → gP h' (gP h r k) q = gP h (gP h r k) q ∧ sm h h' (gP h (gP h r k) q) ∧ ∀ l, sm h h' (gP h (gP h (gP h r k) q) l) := by
  obtain ⟨z1, z2, z3, z4⟩ := Z
  have o6 := K.1.2.2.2.2.2
  have tA := K.a hA
  have a0 : sm h h' r := z1 r hr (Or.inr (by rw [K.2.2.1]; exact nsuf0)) (fun e => by
    rw [← e, K.2.2.1] at tA
    have := congrArg List.length tA
    simp at this)
  have a1 : ∀ k, k ≠ F → sm h h' (gP h r k) := fun k hk => by
    refine z1 _ (o6 _ _) ?_ (fun e => ?_)
    · by_cases z : gP h r k = 0
      · exact Or.inl z
      · refine Or.inr ?_
        rw [K.a z]
        exact fun w => by
          have := w.length_le
          simp at this
    · have := K.a (k := k) (by rw [e]; exact hA)
      rw [e, tA] at this
      exact hk (List.cons.inj this).1.symm
  refine ⟨a0, a1, fun k q hn => ⟨?_, ?_, fun l => ?_⟩⟩
  · by_cases z : k = F
    · rw [z]
      exact z4 q (fun e => hn ⟨z, e⟩)
    · rw [(a1 k z).2.2.2]
  · refine z1 _ (o6 _ _) ?_ (fun e => ?_)
    · by_cases z : gP h (gP h r k) q = 0
      · exact Or.inl z
      · refine Or.inr ?_
        rw [K.o z]
        intro w
        rcases List.suffix_cons_iff.mp w with e | e
        · have e1 := List.cons.inj e
          exact hn ⟨(List.cons.inj e1.2).1.symm, e1.1.symm⟩
        · have := e.length_le
          simp at this
    · have := K.o (k := k) (j := q) (by rw [e]; exact hA)
      rw [e, tA] at this
      have := congrArg List.length this
      simp at this
  · refine z1 _ (o6 _ _) ?_ (fun e => ?_)
    · by_cases z : gP h (gP h (gP h r k) q) l = 0
      · exact Or.inl z
      · refine Or.inr ?_
        rw [K.q z]
        intro w
        rcases List.suffix_cons_iff.mp w with e | e
        · have := congrArg List.length e
          simp at this
        · rcases List.suffix_cons_iff.mp e with e | e
          · have e1 := List.cons.inj e
            exact hn ⟨(List.cons.inj e1.2).1.symm, e1.1.symm⟩
          · have := e.length_le
            simp at this
    · have := K.q (k := k) (j := q) (i := l) (by rw [e]; exact hA)
      rw [e, tA] at this
      have := congrArg List.length this
      simp at this
theorem Of.rfl : Of tg h h r x F j := ⟨fun _ _ _ _ => ⟨Eq.refl _, Eq.refl _, Eq.refl _, Eq.refl _⟩, Eq.refl _, ⟨Eq.refl _, Eq.refl _, Eq.refl _⟩, fun _ _ => Eq.refl _⟩
theorem Of.trans (a : Of tg h h1 r x F j) (b : Of tg1 h1 h2 r x F j) (hz : sz h ≤ sz h1) (ht : ∀ y, y ≤ sz h → tg1 y = tg y) : Of tg h h2 r x F j := by
  obtain ⟨a1, a2, a3, a4⟩ := a
  obtain ⟨b1, b2, b3, b4⟩ := b
  rw [a2] at b1 b3 b4
  refine ⟨fun y hy hn hA => (a1 y hy hn hA).tr (b1 y (by omega) (by rw [ht y hy]; exact hn) hA), b2.trans a2, ⟨b3.1.trans a3.1, b3.2.1.trans a3.2.1, b3.2.2.trans a3.2.2⟩, fun l hl => (b4 l hl).trans (a4 l hl)⟩
/-- numbers below the object are written -/
theorem Of.fr (K : Rt tg h r x) (F1 : Fr D h h') (hA : gP h r F ≠ 0) (hD : ∀ b, D b → b ≠ 0 ∧ [j, F, x] <:+ tg b) : Of tg h h' r x F j := by
  refine ⟨fun b hb hn _ => F1.sm (fun z => ?_), by rw [F1.2.2.1], ⟨by rw [F1.1], by rw [F1.2.1], F1.2.2.2.2.2.2 _ (fun z => ?_)⟩, fun l _ => by rw [F1.2.2.1]⟩
  · rcases hn with hn | hn
    · exact (hD b z).1 hn
    · exact hn (hD b z).2
  · have := (hD _ z).2
    rw [K.a hA] at this
    have := this.length_le
    simp at this
theorem Of.ow (K : Rt tg h r x) (W : Ow tg h tg' h' r x F j c) (hA : gP h r F ≠ 0) (e : kd h' (gP h r F) = kd h (gP h r F) ∧ ln h' (gP h r F) = ln h (gP h r F) ∧ gI h' (gP h r F) = gI h (gP h r F)) : Of tg h h' r x F j :=
  ⟨fun b hb _ hn => W.2.2.1 b hb hn, W.2.2.2.1, e, W.2.2.2.2.2.2⟩
/-- the room's shape -/
theorem RmS.ob (K : Rt tg h r x) (hr : r ≤ sz h) (S : RmS h r) (hF : F ≠ 4 ∧ F ≠ 14) (Z : Of tg h h' r x F j) (hA : gP h r F ≠ 0) (sh : (F = 5 → PtS h' (gP h' (gP h r F) j)) ∧ (F = 2 → StyS h' (gP h' (gP h r F) j)) ∧ (F = 8 → MaS h' (gP h' (gP h r F) j)) ∧ (F = 10 → SlS h' (gP h' (gP h r F) j))) : RmS h' r := by
  obtain ⟨s0, s1, s2⟩ := Z.cells K hr hA
  obtain ⟨-, eP, ⟨x1, x2, x3⟩, x7⟩ := Z
  obtain ⟨a1, a2, a3, a4, a5, a6, a7, a8, a9, a10, a11, a12, a13, a14, ⟨b1, b2, b3, b3'⟩, ⟨b4, b5⟩, c1, c2, c3, c4⟩ := S
  have ark : ∀ k c l, ar h r k c l → ar h' r k c l := fun k c l ⟨q1, q2, q3⟩ => by
    unfold ar
    rw [eP]
    by_cases z : k = F
    · rw [z] at q1 q2 q3 ⊢
      rw [x1, x2]
      exact ⟨q1, q2, q3⟩
    · rw [(s1 k z).1, (s1 k z).2.1]
      exact ⟨q1, q2, q3⟩
  have u4 := s1 4 (Ne.symm hF.1)
  have u14 := s1 14 (Ne.symm hF.2)
  have slot : ∀ k q, gP h' (gP h' r k) q ≠ 0 → (k = F ∧ gP h' (gP h' r k) q = gP h' (gP h r F) j) ∨ (gP h (gP h r k) q ≠ 0 ∧ gP h' (gP h' r k) q = gP h (gP h r k) q ∧ sm h h' (gP h (gP h r k) q) ∧ ∀ l, sm h h' (gP h (gP h (gP h r k) q) l)) := fun k q hz => by
    rw [eP] at hz ⊢
    by_cases z : k = F ∧ q = j
    · rw [z.1, z.2]
      exact Or.inl ⟨Eq.refl _, Eq.refl _⟩
    · obtain ⟨w1, w2, w3⟩ := s2 k q z
      rw [w1] at hz ⊢
      exact Or.inr ⟨hz, Eq.refl _, w2, w3⟩
  have k4 : ∀ l, sm h h' (gP h (gP h r 4) l) := fun l => (s2 4 l (fun z => hF.1 z.1.symm)).2.1
  have k14 : ∀ l, sm h h' (gP h (gP h r 14) l) := fun l => (s2 14 l (fun z => hF.2 z.1.symm)).2.1
  refine ⟨by rw [s0.1]; exact a1, ark _ _ _ a2, ark _ _ _ a3, ark _ _ _ a4, ark _ _ _ a5, ark _ _ _ a6, ark _ _ _ a7, ark _ _ _ a8, ark _ _ _ a9, ark _ _ _ a10, ark _ _ _ a11, ark _ _ _ a12, ark _ _ _ a13, ark _ _ _ a14, ?_, ?_, fun q hz => ?_, fun q hz => ?_, fun q hz => ?_, fun q hz => ?_⟩
  · rw [eP, u4.2.2.1]
    exact ⟨b1, b2.congr u4 k4, b3, b3'⟩
  · rw [eP]
    exact ⟨b4, b5.congr u14 k14⟩
  · rcases slot 5 q hz with ⟨z, e⟩ | ⟨z, e, w, w'⟩
    · rw [e]; exact sh.1 z.symm
    · rw [e]; exact (c1 q z).congr w w'
  · rcases slot 2 q hz with ⟨z, e⟩ | ⟨z, e, w, w'⟩
    · rw [e]; exact sh.2.1 z.symm
    · rw [e]; exact (c2 q z).congr w w'
  · rcases slot 8 q hz with ⟨z, e⟩ | ⟨z, e, w, w'⟩
    · rw [e]; exact sh.2.2.1 z.symm
    · rw [e]; exact (c3 q z).congr w w'
  · rcases slot 10 q hz with ⟨z, e⟩ | ⟨z, e, w, w'⟩
    · rw [e]; exact sh.2.2.2 z.symm
    · rw [e]; exact (c4 q z).congr w w'
/-! texts of slugs -/
def rmF (L : Nat) : Nat := if L ≤ 32 then 32 else if L ≤ 64 then 64 else if L ≤ 128 then 128 else if L ≤ 256 then 256 else 512
theorem rmF_f (hL : L ≤ 512) : slz (rmF L) ∧ L ≤ rmF L ∧ ∀ n, slz n → n < L → 2 * n ≤ rmF L := by
  unfold rmF slz
  by_cases z1 : L ≤ 32
  · rw [if_pos z1]; refine ⟨by omega, by omega, fun n hn hl => by omega⟩
  · by_cases z2 : L ≤ 64
    · rw [if_neg z1, if_pos z2]; refine ⟨by omega, by omega, fun n hn hl => by omega⟩
    · by_cases z3 : L ≤ 128
      · rw [if_neg z1, if_neg z2, if_pos z3]; refine ⟨by omega, by omega, fun n hn hl => by omega⟩
      · by_cases z4 : L ≤ 256
        · rw [if_neg z1, if_neg z2, if_neg z3, if_pos z4]; refine ⟨by omega, by omega, fun n hn hl => by omega⟩
        · rw [if_neg z1, if_neg z2, if_neg z3, if_neg z4]; refine ⟨by omega, by omega, fun n hn hl => by omega⟩
theorem c_roomFor (hL : L ≤ 512) : MX8_roomFor h (nI L) = some (nI (rmF L)) := by
  have st : ∀ s, s ≤ 512 → L ≤ s → BX8_roomFor_3 h (nI L) (nI s) = some (.inr (nI s)) := fun s h1 h2 => by
    unfold BX8_roomFor_3 MX8_roomFor_22
    rw [if_pos (nI_le h2 (by omega)), up1_some]
    unfold jmax
    rw [if_neg (nI_nlt h2 (by omega))]
  have sn : ∀ s, s < 512 → s < L → BX8_roomFor_3 h (nI L) (nI s) = some (.inl (nI (s * 2))) := fun s h1 h2 => by
    unfold BX8_roomFor_3
    simp only [ZL]
    rw [if_neg (nI_ge h2 (by omega)), if_neg (nI_ge h1 (by omega)), nMul]
  unfold MX8_roomFor MX8_roomFor_3 rmF
  simp only [ZL]
  by_cases z1 : L ≤ 32
  · rw [if_pos z1]; exact it_done (st 32 (by omega) z1)
  · rw [if_neg z1, it_next (sn 32 (by omega) (by omega))]
    by_cases z2 : L ≤ 64
    · rw [if_pos z2]; exact it_done (st 64 (by omega) z2)
    · rw [if_neg z2, it_next (sn 64 (by omega) (by omega))]
      by_cases z3 : L ≤ 128
      · rw [if_pos z3]; exact it_done (st 128 (by omega) z3)
      · rw [if_neg z3, it_next (sn 128 (by omega) (by omega))]
        by_cases z4 : L ≤ 256
        · rw [if_pos z4]; exact it_done (st 256 (by omega) z4)
        · rw [if_neg z4, it_next (sn 256 (by omega) (by omega))]
          exact it_done (st 512 (by omega) hL)
theorem c_tt64 (kc : kd g c = 7) (k0 : kd g (gP g c 0) = 21) (k1 : kd g (gP g c 1) = 21) (l0 : L ≤ ln g (gP g c 0)) (l1 : L ≤ ln g (gP g c 1)) (b0 : ln g (gP g c 0) ≤ 512) (kX : kd g X = 21) (lX : L ≤ ln g X) (e2 : gI g c 2 = nI L) (L512 : L ≤ 512) (n0 : gP g c 0 ≠ c) (n1 : gP g c 1 ≠ c) (n01 : gP g c 0 ≠ gP g c 1) (x0 : X ≠ gP g c 0) (x1 : X ≠ gP g c 1) : ∃ h', MX8_takeText_64 g c X = some h' ∧ Fr (fun b => b = c ∨ b = gP g c 0 ∨ b = gP g c 1) g h' ∧ (∀ l, l < L → gI h' (gP g c 0) l = gI g X l ∧ gI h' (gP g c 1) l = gI g X l) ∧ gI h' c 3 = nI (ltC (gI g X) L) ∧ gI h' c 4 = nI 0 ∧ gI h' c 13 = nI 0 ∧ ∀ j, j ≠ 3 → j ≠ 4 → j ≠ 13 → gI h' c j = gI g c j := by
  obtain ⟨A, hA⟩ : ∃ A, A = gP g c 0 := ⟨_, rfl⟩
  obtain ⟨B, hB⟩ : ∃ B, B = gP g c 1 := ⟨_, rfl⟩
  rw [← hA] at k0 l0 b0 n0 n01 x0 ⊢
  rw [← hB] at k1 l1 n1 n01 x1 ⊢
  obtain ⟨g1, hg1⟩ : ∃ g1, g1 = rI g A (va_cpy (gI g X) (gI g A) 0 0 L) := ⟨_, rfl⟩
  have F1 : Fr (fun b => b = c ∨ b = A ∨ b = B) g g1 := by rw [hg1]; exact Fr.rI (Or.inr (Or.inl rfl))
  have gX : gI g1 X = gI g X := by rw [hg1, gI_rI, if_neg x0]
  have gc : gI g1 c = gI g c := by rw [hg1, gI_rI, if_neg (fun z => n0 z.symm)]
  obtain ⟨g2, hg2⟩ : ∃ g2, g2 = rI g1 B (va_cpy (gI g1 X) (gI g1 B) 0 0 L) := ⟨_, rfl⟩
  have F2 : Fr (fun b => b = c ∨ b = A ∨ b = B) g1 g2 := by rw [hg2]; exact Fr.rI (Or.inr (Or.inr rfl))
  have gc2 : gI g2 c = gI g c := by rw [hg2, gI_rI, if_neg (fun z => n1 z.symm), gc]
  have gA2 : ∀ l, l < L → gI g2 A l = gI g X l := fun l hl => by
    rw [hg2, gI_rI, if_neg n01, hg1, gI_rI, if_pos rfl, cpy_at, if_pos hl]
  have gB2 : ∀ l, l < L → gI g2 B l = gI g X l := fun l hl => by
    rw [hg2, gI_rI, if_pos rfl, cpy_at, if_pos hl, gX]
  have F12 := F1.trans F2
  have cA : ∀ (v : Int32), gI (sI g2 c 3 v) A = gI g2 A := fun v => by rw [gI_sI, if_neg n0]
  have c2 : ∀ (v : Int32), gI (sI g2 c 3 v) c 2 = nI L := fun v => by rw [gI2, if_neg (by omega), gc2]; exact e2
  have c3 : ∀ (v : Int32), gI (sI g2 c 3 v) c 3 = v := fun v => by rw [gI2, if_pos ⟨rfl, rfl⟩]
  have K0 : ∃ z, it (fun q : Int32 × Hp => BX8_takeText_99 q.2 c q.1) (nI 0, sI g2 c 3 (nI 0)) = some z ∧ (z = sI (sI (sI g2 c 3 (nI (ltC (gI g X) L))) c 4 (nI 0)) c 13 (nI 0)) := by
    refine it_cnt (fun j s => s.1 = nI j ∧ s.2 = sI g2 c 3 (nI (ltC (gI g X) j))) L (fun j s hj pp => ?_) (fun s pp => ?_) ⟨rfl, rfl⟩
    · obtain ⟨u, gg0⟩ := s
      obtain ⟨p1, p2⟩ := pp
      replace p1 : u = nI j := p1
      replace p2 : gg0 = sI g2 c 3 (nI (ltC (gI g X) j)) := p2
      subst p1 p2
      refine ⟨(nI (j + 1), sI g2 c 3 (nI (ltC (gI g X) (j + 1)))), ?_, rfl, rfl⟩
      show BX8_takeText_99 (sI g2 c 3 (nI (ltC (gI g X) j))) c (nI j) = _
      have kc' : kd (sI g2 c 3 (nI (ltC (gI g X) j))) c = 7 := by
        show kd g2 c = 7
        rw [F12.1]; exact kc
      have eA : gP (sI g2 c 3 (nI (ltC (gI g X) j))) c 0 = A := by
        show gP g2 c 0 = A
        rw [F12.2.2.1]; exact hA.symm
      have kA : kd (sI g2 c 3 (nI (ltC (gI g X) j))) A = 21 := by
        show kd g2 A = 21
        rw [F12.1]; exact k0
      have lA : ln (sI g2 c 3 (nI (ltC (gI g X) j))) A = ln g A := by
        show ln g2 A = ln g A
        rw [F12.2.1]
      have s8 : ∀ w, MX8_takeText_128 (sI g2 c 3 (nI (ltC (gI g X) j))) c (nI j) c (gI (sI g2 c 3 (nI (ltC (gI g X) j))) c 3) (nI w) = some (.inl (nI (j + 1), sI g2 c 3 (nI (ltC (gI g X) j + w)))) := fun w => by
        unfold MX8_takeText_128
        simp only [ZL]
        rw [gg_t kc', lt_eq, c3, nAdd, sI_sI, nAdd]
      unfold BX8_takeText_99
      simp only [ZL]
      rw [gg_t kc', c2, if_neg (nI_ge hj (by omega)), eA, gg_t kA, lA, gg_in (by omega) (by omega), nCl (by omega), cA, gA2 j hj]
      by_cases z : gI g X j = nI 32
      · rw [if_pos z, s8 0]
        show _ = some (Sum.inl (nI (j + 1), sI g2 c 3 (nI (ltC (gI g X) j + (if gI g X j = nI 32 then 0 else 1)))))
        rw [if_pos z]
      · rw [if_neg z, s8 1]
        show _ = some (Sum.inl (nI (j + 1), sI g2 c 3 (nI (ltC (gI g X) j + (if gI g X j = nI 32 then 0 else 1)))))
        rw [if_neg z]
    · obtain ⟨u, gg0⟩ := s
      obtain ⟨p1, p2⟩ := pp
      replace p1 : u = nI L := p1
      replace p2 : gg0 = sI g2 c 3 (nI (ltC (gI g X) L)) := p2
      subst p1 p2
      refine ⟨_, ?_, rfl⟩
      show BX8_takeText_99 (sI g2 c 3 (nI (ltC (gI g X) L))) c (nI L) = _
      have kc' : kd (sI g2 c 3 (nI (ltC (gI g X) L))) c = 7 := by
        show kd g2 c = 7
        rw [F12.1]; exact kc
      unfold BX8_takeText_99 MX8_takeText_138
      simp only [ZL]
      rw [gg_t kc', c2, if_pos (nI_le (Nat.le_refl _) (by omega)), gg_t kc', lt_eq, lt_eq, up1_some]
  obtain ⟨z, y1, y2⟩ := K0
  have fs : ∀ {g0 : Hp} {l : Nat} {v : Int32}, Fr (fun b => b = c ∨ b = A ∨ b = B) g g0 → Fr (fun b => b = c ∨ b = A ∨ b = B) g (sI g0 c l v) := fun q => q.trans (Fr.sI (S := fun b => b = c ∨ b = A ∨ b = B) (Or.inl rfl))
  refine ⟨z, ?_, ?_, fun l hl => ⟨?_, ?_⟩, ?_, ?_, ?_, fun j j3 j4 j13 => ?_⟩
  · unfold MX8_takeText_64 MX8_takeText_99
    simp only [ZL]
    have k1' : kd g1 B = 21 := by rw [F1.1]; exact k1
    have lb1 : ln g1 B = ln g B := by rw [F1.2.1]
    have lX1 : ln g1 X = ln g X := by rw [F1.2.1]
    rw [gg_t kc, gg_t kX, ← hA, gg_t k0, e2, gg_t (cpB_t lX l0 (by omega)), lt_eq, nCl (by omega), nCl (by omega), ← hg1, ← hB, gg_t k1, gc, e2, lX1, lb1, gg_t (cpB_t lX l1 (by omega)), lt_eq, nCl (by omega), ← hg2, lt_eq, y1]
  · rw [y2]
    exact fs (fs (fs F12))
  · rw [y2, gI_sI, if_neg n0, gI_sI, if_neg n0, cA]
    exact gA2 l hl
  · rw [y2, gI_sI, if_neg n1, gI_sI, if_neg n1, gI_sI, if_neg n1]
    exact gB2 l hl
  · rw [y2, gI2, if_neg (by omega), gI2, if_neg (by omega), c3]
  · rw [y2, gI2, if_neg (by omega), gI2, if_pos ⟨rfl, rfl⟩]
  · rw [y2, gI2, if_pos ⟨rfl, rfl⟩]
  · rw [y2, gI2, if_neg (fun q => j13 q.2), gI2, if_neg (fun q => j4 q.2), gI2, if_neg (fun q => j3 q.2), gc2]
/-- longer arrays are made -/
theorem c_grow (O : Own tg g) (h9 : 109 ≤ sz g) (hc : c ≤ sz g) (c0 : c ≠ 0) (kc : kd g c = 7) (e2 : gI g c 2 = nI L) (L512 : L ≤ 512) : ∃ tg' g', MX8_takeText_38 g c X = MX8_takeText_64 g' c X ∧ Own tg' g' ∧ sz g' = sz g + 2 ∧ (∀ b, b ≤ sz g → tg' b = tg b) ∧ (∀ b, b ≤ sz g → b ≠ c → sm g g' b) ∧ kd g' c = 7 ∧ ln g' c = ln g c ∧ gI g' c = gI g c ∧ gP g' c 0 = sz g + 1 ∧ gP g' c 1 = sz g + 2 ∧ kd g' (sz g + 1) = 21 ∧ kd g' (sz g + 2) = 21 ∧ ln g' (sz g + 1) = rmF L ∧ ln g' (sz g + 2) = rmF L ∧ cst g' = cst g + 150 + 2 * rmF L := by
  have rf := (rmF_f L512).1
  have r0 : rmF L < 1000 := by unfold slz at rf; omega
  have nok : ∀ n, n < 1000 → nOk (nI n) = true := fun n hn => by
    have z : ¬ nI n < (0 : Int32) := nI_pos (by omega)
    unfold nOk
    rw [nCl (by omega)]
    simp only [z, not_false_eq_true, decide_true, Bool.true_and, decide_eq_true_eq]
    omega
  obtain ⟨h1, hh1⟩ : ∃ h1, h1 = sP (alc g 21 (rmF L)) c 0 (sz g + 1) := ⟨_, rfl⟩
  have z1 : sz h1 = sz g + 1 := by rw [hh1]; rfl
  obtain ⟨n1, n2, n3, n4⟩ := alc_new (h := g) (k := 21) (n := rmF L)
  have pm := alc_sm (h := g) (k := 21) (n := rmF L) hc
  have nc1 : sz g + 1 ≠ c := by omega
  have s1 := sP_sm (h := alc g 21 (rmF L)) (a := c) (j := 0) (c := sz g + 1) nc1
  obtain ⟨T1, hT1⟩ : ∃ T1, T1 = va_up tg (sz g + 1) (0 :: tg c) := ⟨_, rfl⟩
  have O1 : Own T1 h1 := by
    rw [hh1, hT1]
    refine own_ln (own_alc O h9) (Nat.le_refl _) c0 ?_
    rw [up_at, if_pos rfl, up_at, if_neg (by omega)]
  have kc1 : kd h1 c = 7 := by rw [hh1]; exact pm.1.trans kc
  have gc1 : gI h1 c = gI g c := by rw [hh1]; exact pm.2.2.1
  have p01 : gP h1 c 0 = sz g + 1 := by rw [hh1, sP_gP, if_pos ⟨rfl, rfl⟩]
  have k1 : kd h1 (sz g + 1) = 21 ∧ ln h1 (sz g + 1) = rmF L := by
    rw [hh1]
    exact ⟨s1.1.trans n1, s1.2.1.trans n2⟩
  obtain ⟨h2, hh2⟩ : ∃ h2, h2 = sP (alc h1 21 (rmF L)) c 1 (sz h1 + 1) := ⟨_, rfl⟩
  have hc1 : c ≤ sz h1 := by omega
  have pm2 := alc_sm (h := h1) (k := 21) (n := rmF L) hc1
  obtain ⟨m1, m2, m3, m4⟩ := alc_new (h := h1) (k := 21) (n := rmF L)
  have s2 := sP_sm (h := alc h1 21 (rmF L)) (a := c) (j := 1) (c := sz h1 + 1) (x := sz h1 + 1) (by omega)
  have a1 := alc_sm (h := h1) (k := 21) (n := rmF L) (x := sz g + 1) (by omega)
  have s3 := sP_sm (h := alc h1 21 (rmF L)) (a := c) (j := 1) (c := sz h1 + 1) nc1
  refine ⟨va_up T1 (sz h1 + 1) (1 :: T1 c), h2, ?_, ?_, ?_, fun b hb => ?_, fun b hb hn => ?_, ?_, ?_, ?_, ?_, ?_, ?_, ?_, ?_, ?_, ?_⟩
  · have kca : kd (alc g 21 (rmF L)) c = 7 := pm.1.trans kc
    have kcb : kd (alc h1 21 (rmF L)) c = 7 := pm2.1.trans kc1
    unfold MX8_takeText_38
    rw [gg_t kc, e2, c_roomFor L512, ob_some, gg_t (nok _ r0), lt_eq, nCl (by omega), gg_t kca, lt_eq, ← hh1, gc1, e2, c_roomFor L512, ob_some, gg_t (nok _ r0), lt_eq, nCl (by omega), gg_t kcb, lt_eq, ← hh2]
  · rw [hh2]
    refine own_ln (own_alc O1 (by omega)) (Nat.le_refl _) c0 ?_
    have tc : va_up T1 (sz h1 + 1) (1 :: T1 c) c = T1 c := by rw [up_at, if_neg (by omega)]
    rw [tc, up_at, if_pos rfl]
  · rw [hh2]
    show sz h1 + 1 = sz g + 2
    omega
  · rw [up_at, if_neg (by omega), hT1, up_at, if_neg (by omega)]
  · have q1 : sm g h1 b := by rw [hh1]; exact (alc_sm hb).tr (sP_sm hn)
    have q2 : sm h1 h2 b := by rw [hh2]; exact (alc_sm (by omega)).tr (sP_sm hn)
    exact q1.tr q2
  · rw [hh2]; exact pm2.1.trans kc1
  · rw [hh2]
    refine pm2.2.1.trans ?_
    rw [hh1]
    exact pm.2.1
  · rw [hh2]; exact pm2.2.2.1.trans gc1
  · rw [hh2, sP_gP, if_neg (by omega), pm2.2.2.2]
    exact p01
  · rw [hh2, sP_gP, if_pos ⟨rfl, rfl⟩]
    omega
  · rw [hh2]
    exact s3.1.trans (a1.1.trans k1.1)
  · rw [hh2, show sz g + 2 = sz h1 + 1 by omega]
    exact s2.1.trans m1
  · rw [hh2]
    exact s3.2.1.trans (a1.2.1.trans k1.2)
  · rw [hh2, show sz g + 2 = sz h1 + 1 by omega]
    exact s2.2.1.trans m2
  · have e1 : nc h2 = nc g + 2 := by rw [hh2, hh1]; rfl
    have e3 : ns h2 = ns g + rmF L + rmF L := by rw [hh2, hh1]; rfl
    unfold cst
    omega
theorem rmP_of (K : Rt tg h r x) (hr : r ≤ sz h) (Z : Of tg h h' r x 10 s) (hA : gP h r 10 ≠ 0) (hs : s < 300) (e : gP h' (gP h r 10) s = gP h (gP h r 10) s) : rmP h' r + slP h (gP h (gP h r 10) s) = rmP h r + slP h' (gP h (gP h r 10) s) := by
  obtain ⟨s0, s1, s2⟩ := Z.cells K hr hA
  have q := sumN_1 (i0 := s) (g := fun i => slP h' (gP h' (gP h r 10) i)) (q := fun i => slP h (gP h (gP h r 10) i)) 300 hs (fun i _ hi => by
    show slP h' (gP h' (gP h r 10) i) = slP h (gP h (gP h r 10) i)
    obtain ⟨w1, w2, w3⟩ := s2 10 i (fun z => hi z.2)
    unfold slP
    rw [w1, w2.2.2.2, (w3 0).2.1])
  have q : sumN (fun i => slP h' (gP h' (gP h r 10) i)) 300 + slP h (gP h (gP h r 10) s) = sumN (fun i => slP h (gP h (gP h r 10) i)) 300 + slP h' (gP h' (gP h r 10) s) := q
  rw [e] at q
  unfold rmP
  rw [s0.2.2.2, (s1 5 (by omega)).2.2.2, (s1 2 (by omega)).2.2.2, (s1 8 (by omega)).2.2.2]
  omega
end
