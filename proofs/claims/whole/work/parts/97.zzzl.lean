/-! lock: the pair -/
section
variable {tg tg0 tg1 : Nat → List Nat} {h h0 h1 h' : Hp} {m m' k t : Nat → Int32} {i n f : Int32} {a p q s x j : Nat} {c : Nat → Nat} {W : List Int32} {D : Nat → Prop}
theorem mu_fr (F : Fr D h h') : mu h' = mu h := by
  unfold mu rmQ dkQ rmP dkP slP cst
  rw [F.2.2.1, F.2.1, F.2.2.2.2.1, F.2.2.2.2.2.1]
theorem dy_fr (K : Rt tg h 48 6) (S : DkS h 48) (F : Fr D h h') (hD : ∀ b, D b → b ≠ 0 ∧ [6] <:+ tg b) : Dy tg h tg h' 48 6 := by
  refine ⟨Rx.fr K.1 F (fun b hb => ⟨(hD b hb).1, 6, rfl, (hD b hb).2⟩), ?_, dks_fr S F, by rw [F.2.2.1]⟩
  rw [dkP_fr F]
  unfold cst
  rw [F.2.2.2.2.1, F.2.2.2.2.2.1]
  exact Nat.le_refl _
/-- an array of the desk, and the desk itself, while a row is laid -/
theorem lk_ar (B : LB tg0 h0 c m p a) (L : LK tg0 h0 tg h p W) : sm h0 h 48 ∧ ∀ j, j ≠ 4 → j ≠ 5 → gP h0 48 j ≠ 0 → sm h0 h (gP h0 48 j) := by
  obtain ⟨O, Y, h9, S, V, Dk, X, Cf⟩ := B
  obtain ⟨t1, t2, t3, t4, t5, t13, t19, t48, t59, t68⟩ := tgs O Y
  have K48 : Rt tg0 h0 48 6 := ⟨O, t3, t48, by omega, by omega⟩
  obtain ⟨k1, ⟨s4, s4a, s4b⟩, ⟨s5, s5a, s5b⟩, s6⟩ := Dk.f
  obtain ⟨-, L2, -⟩ := L
  refine ⟨L2.1 48 (by omega) (ne_o O (by omega) s4) (ne_o O (by omega) s5) (Or.inr (by rw [t48]; simp)), fun j h4 h5 hz => ?_⟩
  exact L2.1 _ (O.2.2.2.2.2 48 j) (ne_f O (by omega) hz s4 h4) (ne_f O (by omega) hz s5 h5) (Or.inr (by rw [K48.a hz]; simp))
/-- the row is emptied -/
theorem c_empty (B : LB tg0 h0 c m p a) (hp : p < 6) : ∃ h1, MX2_emptyRow h0 48 (nI p) = some (nI p, h1) ∧ LK tg0 h0 tg0 h1 p [] := by
  obtain ⟨O, Y, h9, S, V, Dk, X, Cf⟩ := B
  obtain ⟨t1, t2, t3, t4, t5, t13, t19, t48, t59, t68⟩ := tgs O Y
  have K48 : Rt tg0 h0 48 6 := ⟨O, t3, t48, by omega, by omega⟩
  obtain ⟨k1, ⟨s4, s4a, s4b⟩, ⟨s5, s5a, s5b⟩, s6⟩ := Dk.f
  have F : Fr (fun b => b = gP h0 48 5) h0 (sI h0 (gP h0 48 5) p (nI 0)) := Fr.sI rfl
  refine ⟨sI h0 (gP h0 48 5) p (nI 0), ?_, dy_fr K48 Dk F (fun b hb => by rw [hb]; exact ⟨s5, by rw [K48.a s5]; exact List.suffix_append [5] [6]⟩), ⟨fun b _ _ n5 _ => F.sm n5, fun q hq => ⟨by rw [gI2, if_neg (fun e => hq e.2)], rfl⟩⟩, ⟨by show gI (sI h0 (gP h0 48 5) p (nI 0)) (gP h0 48 5) p = _; rw [gI2, if_pos ⟨rfl, rfl⟩]; rfl, fun e => absurd rfl e, fun l hl => absurd hl (Nat.not_lt_zero _)⟩⟩
  unfold MX2_emptyRow
  simp only [ZL]
  rw [gg_t k1, gg_t s5a, s5b, gg_in (by omega) (by omega), nCl (by omega), lt_eq]
theorem c_l45r (B : LB tg0 h0 c m p a) (E : DkV h0 48 m) (I : MI m) (hp : p < 6) (hN : fN m a ≤ 4) (A : alS m a) (b0 : (fitB m p a).1 ≠ 0) (L : LK tg0 h0 tg h p []) : ∃ tg1 h1, LK tg0 h0 tg1 h1 p (pgL m a (fitB m p a) 3) ∧ MX11_lock_45 h 1 (nI p) (nI p) (nI 0) = MX11_lock_126 h1 1 (nI p) (nI p) := by
  obtain ⟨q1, -⟩ := fit_q m p a b0
  obtain ⟨b1, b2, -, -⟩ := pg_b I hp
  obtain ⟨g5, g6, g7⟩ := B.p7
  have Dk := B.2.2.2.2.2.1
  have e3 : pgL m a (fitB m p a) 3 = pgL m a (fitB m p a) (Nn m (327382 + 185 * p)) := by
    have := pgL_up (m := m) (a := a) (b := fitB m p a) (fun j hj => (q1 j hj).1) (3 - Nn m (327382 + 185 * p))
    rw [show Nn m (327382 + 185 * p) + (3 - Nn m (327382 + 185 * p)) = 3 by omega] at this
    exact this
  rw [e3]
  have st : ∀ d j, j + d = Nn m (327382 + 185 * p) → ∀ tg1 h1, LK tg0 h0 tg1 h1 p (pgL m a (fitB m p a) j) → ∃ tg2 h2, LK tg0 h0 tg2 h2 p (pgL m a (fitB m p a) (Nn m (327382 + 185 * p))) ∧ it (fun y : Int32 × Hp => BX11_lock_45 y.2 1 (nI p) (nI p) y.1) (nI j, h1) = MX11_lock_126 h2 1 (nI p) (nI p) := fun d => by
    induction d with
    | zero =>
      intro j e tg1 h1 L1
      have e : j = Nn m (327382 + 185 * p) := e
      subst e
      obtain ⟨S', V', X', C', k1, e1, -, -, D', e48⟩ := lk_a B L1
      have ec := ((lk_ar B L1).2 0 (by omega) (by omega) Dk.2.1.1).2.2.1
      refine ⟨tg1, h1, L1, it_u1 ?_⟩
      show BX11_lock_45 h1 1 (nI p) (nI p) (nI (Nn m (327382 + 185 * p))) = _
      unfold BX11_lock_45
      rw [gg_t k1, e1, g6, gg_t D'.1, gg_t D'.2.1.2.1, D'.2.1.2.2, gg_in (by omega) (by omega), nCl (by omega), e48, ec, (E.2.2.1 p hp).1, b1, if_pos (nI_le (Nat.le_refl _) (by omega))]
    | succ d ih =>
      intro j e tg1 h1 L1
      obtain ⟨S', V', X', C', k1, e1, -, -, D', e48⟩ := lk_a B L1
      have ec := ((lk_ar B L1).2 0 (by omega) (by omega) Dk.2.1.1).2.2.1
      obtain ⟨tg2, h2, y1, y2⟩ := c_lock62 B I hp hN A b0 (x := j) (by omega) L1
      obtain ⟨tg3, h3, z1, z2⟩ := ih (j + 1) (by omega) tg2 h2 y2
      refine ⟨tg3, h3, z1, ?_⟩
      rw [← z2]
      refine it_next ?_
      show BX11_lock_45 h1 1 (nI p) (nI p) (nI j) = _
      unfold BX11_lock_45
      simp only [ZL]
      rw [gg_t k1, e1, g6, gg_t D'.1, gg_t D'.2.1.2.1, D'.2.1.2.2, gg_in (by omega) (by omega), nCl (by omega), e48, ec, (E.2.2.1 p hp).1, b1, if_neg (nI_ge (by omega) (by omega)), y1]
  obtain ⟨tg2, h2, y1, y2⟩ := st _ 0 (Nat.zero_add _) tg h L
  refine ⟨tg2, h2, y1, ?_⟩
  unfold MX11_lock_45
  exact y2
/-- the memory of a locked page -/
theorem lk_mi (I : MI m) (hp : p < 6) (hW : W.length ≤ 180) : MI (lkM m p W) := by
  have o : ∀ y, (y < 327382 + 185 * p + 2 ∨ 327382 + 185 * p + 185 ≤ y) → lkM m p W y = m y := fun y hy => lkM_o hW hy
  obtain ⟨e2, -, -⟩ := lkM_2 (m := m) (p := p) (W := W)
  obtain ⟨i1, i2, i3, i4⟩ := I.2.2.2.2.1
  obtain ⟨-, -, -, -, -, ⟨-, f5⟩, ⟨-, f6⟩, ⟨-, f7⟩⟩ := I.1.f
  refine MI.desk (fun x hx => o x (by omega)) I (I.1.2.2.2.2.2.1.c (o 5 (by omega))) (I.1.2.2.2.2.2.2.1.c (o 6 (by omega))) ⟨fun q hq => ?_, fun e he q hq => ?_, fun l hl => ?_, fun t ht => ?_⟩
  · obtain ⟨c1, c2, c3, c4, c5⟩ := i1 q hq
    refine ⟨c1.c (o _ (by omega)), by rw [Nn.c (o (327382 + 185 * q) (by omega))]; exact c2, c3.c (o _ (by omega)), by rw [Nn.c (o (327382 + 185 * q + 1) (by omega))]; exact c4, ?_⟩
    by_cases z : q = p
    · rw [z]; exact ⟨W.length, hW, e2⟩
    · exact c5.c (o _ (by omega))
  · rw [Nn.c (o 6 (by omega))] at he
    exact (i2 e he q hq).c (o _ (by omega))
  · rw [Nn.c (o 7 (by omega))] at hl
    rw [Nn.c (o 7 (by omega)), Nn.c (o 0 (by omega)), o _ (by omega)]
    exact i3 l hl
  · rw [Nn.c (o 5 (by omega))] at ht
    obtain ⟨c1, c2, c3, c4⟩ := i4 t ht
    exact ⟨c1.c (o _ (by omega)), c2.c (o _ (by omega)), c3.c (o _ (by omega)), c4.c (o _ (by omega))⟩
/-- the end: when, how late -/
theorem c_l126 (B : LB tg0 h0 c m p a) (E : DkV h0 48 m) (I : MI m) (hp : p < 6) (hW : W.length ≤ 180) (L : LK tg0 h0 tg h p W) : ∃ h1, MX11_lock_126 h 1 (nI p) (nI p) = some (.inl (nI W.length), h1) ∧ Dy tg0 h0 tg h1 48 6 ∧ DkV h1 48 (lkM m p W) := by
  obtain ⟨g5, g6, g7⟩ := B.p7
  have Dk := B.2.2.2.2.2.1
  obtain ⟨S', V', X', C', k1, e1, K48, h9, D', e48⟩ := lk_a B L
  obtain ⟨O, Y, h90, -⟩ := id B
  obtain ⟨L1, L2, L3⟩ := id L
  obtain ⟨a48, aa⟩ := lk_ar B L
  have O' := K48.1
  obtain ⟨z0, z1, z2, z3, z4, z5, -⟩ := id D'
  obtain ⟨-, d0, d1, d2, d3, d4, d5, d7, d8, d9, d10, -⟩ := id D'
  obtain ⟨-, D0, D1, D2, D3, D4, D5, D7, D8, D9, D10, -⟩ := id Dk
  have nf : ∀ u v, gP h 48 u ≠ 0 → gP h 48 v ≠ 0 → u ≠ v → ¬ gP h 48 u = gP h 48 v := fun u v hu hv huv => ne_f O' (by omega) hu hv huv
  have n48 : ∀ u, gP h 48 u ≠ 0 → ¬ 48 = gP h 48 u := fun u hu => ne_o O' (by omega) hu
  obtain ⟨h2, e2⟩ : ∃ x, x = sI h (gP h 48 2) p (m 0) := ⟨_, rfl⟩
  have F2 : Fr (fun b => b = gP h 48 2 ∨ b = gP h 48 3) h h2 := by rw [e2]; exact Fr.sI (Or.inl rfl)
  obtain ⟨h3, e3⟩ : ∃ x, x = sI h2 (gP h 48 3) p (nI (ltN m p)) := ⟨_, rfl⟩
  have F3 : Fr (fun b => b = gP h 48 2 ∨ b = gP h 48 3) h2 h3 := by rw [e3]; exact Fr.sI (Or.inr rfl)
  have F := F2.trans F3
  have hD : ∀ b, (b = gP h 48 2 ∨ b = gP h 48 3) → b ≠ 0 ∧ [6] <:+ tg b := fun b hb => by
    rcases hb with rfl | rfl
    · exact ⟨d2.1, by rw [K48.a d2.1]; exact List.suffix_append [2] [6]⟩
    · exact ⟨d3.1, by rw [K48.a d3.1]; exact List.suffix_append [3] [6]⟩
  have Dyh := L1.trans (dy_fr K48 D' F hD)
  -- the room at h2
  have s19 := rx_sm3 (Rx.fr (W := fun z => z = 6) K48.1 F2 (fun b hb => ⟨(hD b hb).1, 6, rfl, (hD b hb).2⟩)) (L1.1.rt (⟨O, (tgs O Y).2.2.1, (tgs O Y).2.2.2.2.2.2.1, by omega, by omega⟩ : Rt tg0 h0 19 5) (by omega) h90) (by omega) (by omega : ¬ 5 = 6)
  have S2 := S'.congr s19
  have V2 := V'.congr s19
  have Y2 : XS h2 := by
    have s1 : Rx tg0 h0 tg h (fun z => z = 6) := L1.1
    obtain ⟨t1, t2, t3, t4, t5, t13, t19, t48, t59, t68⟩ := tgs O Y
    have kl : ∀ b, b ≤ 109 → kd h2 b = kd h0 b ∧ ln h2 b = ln h0 b := fun b hb => by
      rw [F2.1, F2.2.1]
      exact (s1.2.2.1 b (by omega)).2
    have p3 : gP h2 3 = gP h0 3 := by rw [F2.2.2.1]; exact (rx_sm s1 (by omega) (Or.inr (by rw [t3]; exact nsx (W := fun z => z = 6) (y := 3) (by omega) (List.suffix_refl _)))).2.2.2
    have p1 : gP h2 1 = gP h0 1 := by rw [F2.2.2.1]; exact e1
    unfold XS at Y ⊢
    rw [(kl 1 (by omega)).1, p1, (kl 2 (by omega)).1, (kl 2 (by omega)).2, (kl 3 (by omega)).1, p3, (kl 4 (by omega)).1, (kl 4 (by omega)).2, (kl 59 (by omega)).1, (kl 68 (by omega)).1, (kl 109 (by omega)).1, (kl 109 (by omega)).2]
    exact Y
  have lt2 := c_late (K48.1.fr F2) Y2 S2 V2 I hp
  have o48 : gI h3 48 = gI h 48 := F.2.2.2.2.2.2 _ (fun e => Or.elim e (n48 2 d2.1) (n48 3 d3.1))
  have oj : ∀ u, u ≠ 2 → u ≠ 3 → gP h 48 u ≠ 0 → gI h3 (gP h 48 u) = gI h (gP h 48 u) := fun u hu2 hu3 hz => F.2.2.2.2.2.2 _ (fun e => Or.elim e (nf u 2 hz d2.1 hu2) (nf u 3 hz d3.1 hu3))
  have orow : ∀ u, gI h3 (gP h (gP h 48 4) u) = gI h (gP h (gP h 48 4) u) := fun u => F.2.2.2.2.2.2 _ (fun e => by
    by_cases hz : gP h (gP h 48 4) u = 0
    · rcases e with e | e
      · rw [hz] at e; exact d2.1 e.symm
      · rw [hz] at e; exact d3.1 e.symm
    · have tz := K48.o hz
      rcases e with e | e
      · rw [e, K48.a d2.1] at tz; simp at tz
      · rw [e, K48.a d3.1] at tz; simp at tz)
  have v2 : ∀ l, gI h3 (gP h 48 2) l = if l = p then m 0 else gI h (gP h 48 2) l := fun l => by
    rw [e3, gI_sI, if_neg (nf 2 3 d2.1 d3.1 (by omega)), e2, gI_sI, if_pos rfl, up_at]
  have v3 : ∀ l, gI h3 (gP h 48 3) l = if l = p then nI (ltN m p) else gI h (gP h 48 3) l := fun l => by
    rw [e3, gI_sI, if_pos rfl, up_at, e2, gI_sI, if_neg (nf 3 2 d3.1 d2.1 (by omega))]
  refine ⟨h3, ?_, Dyh, ?_⟩
  · have k2 : kd h2 1 = 10 := by rw [F2.1]; exact k1
    have r5 : gI h3 (gP h 48 5) p = nI W.length := by rw [oj 5 (by omega) (by omega) d5.1]; exact L3.1
    unfold MX11_lock_126
    rw [gg_t k1, e1, g6, gg_t D'.1, g5, gg_t S'.1, gg_t d2.2.1, d2.2.2, gg_in (by omega) (by omega), nCl (by omega), V'.1, lt_eq, ← e2, lt2, b2_some, F2.1, gg_t d3.2.1, F2.2.1, d3.2.2, gg_in (by omega) (by omega), lt_eq, ← e3, gg_t k1, F2.2.2.1, e1, g6, gg_t D'.1, gg_t d5.2.1, d5.2.2, gg_in (by omega) (by omega), r5]
  · have I' := lk_mi (W := W) I hp hW
    have o : ∀ y, (y < 327382 + 185 * p + 2 ∨ 327382 + 185 * p + 185 ≤ y) → lkM m p W y = m y := fun y hy => lkM_o hW hy
    obtain ⟨w2, w3, w4⟩ := lkM_2 (m := m) (p := p) (W := W)
    have K480 : Rt tg0 h0 48 6 := ⟨O, (tgs O Y).2.2.1, (tgs O Y).2.2.2.2.2.2.2.1, by omega, by omega⟩
    have gp3 : gP h3 = gP h := F.2.2.1
    have b9 : ∀ u, u ≠ 4 → u ≠ 5 → gP h 48 u ≠ 0 → gI h (gP h 48 u) = gI h0 (gP h0 48 u) := fun u h4 h5 hz => by
      rw [e48] at hz ⊢
      exact (aa u h4 h5 hz).2.2.1
    refine dv_of I'.1 I'.2.2.2.2.1 ?_ ?_ (fun q hq => ?_) (fun q e hq he => ?_) (fun t ht => ?_)
    · rw [o48, a48.2.2.1, o 6 (by omega)]; exact E.1
    · rw [o48, a48.2.2.1, o 5 (by omega)]; exact E.2.1
    · obtain ⟨x1, x2, x3, x4, -⟩ := E.2.2.1 q hq
      rw [gp3, oj 0 (by omega) (by omega) d0.1, oj 1 (by omega) (by omega) d1.1, v2, v3, b9 0 (by omega) (by omega) d0.1, b9 1 (by omega) (by omega) d1.1, b9 2 (by omega) (by omega) d2.1, b9 3 (by omega) (by omega) d3.1, x1, x2, x3, x4]
      refine ⟨(o _ (by omega)).symm, (o _ (by omega)).symm, ?_, ?_⟩
      · by_cases z : q = p
        · rw [if_pos z, z, w3]
        · rw [if_neg z, o _ (by omega)]
      · by_cases z : q = p
        · rw [if_pos z, z, w4]
        · rw [if_neg z, o _ (by omega)]
    · rw [Nn.c (o 6 (by omega))] at he
      have f6 := I.1.f.2.2.2.2.2.2.1.2
      have fr : ∀ r n w, RC h 48 r n w → RC h3 48 r n w := fun r n w ⟨x1, x2, x3⟩ => by
        unfold RC
        rw [gp3, oj 5 (by omega) (by omega) d5.1, orow]
        exact ⟨x1, x2, x3⟩
      refine fr _ _ _ ?_
      by_cases z : 6 * e + q = p
      · have e0 : e = 0 := by omega
        have q0 : q = p := by omega
        subst e0 q0
        have eb : eB q 0 = 327382 + 185 * q + 2 := rfl
        have en : Nn (lkM m q W) (eB q 0) = W.length := by rw [eb]; unfold Nn; rw [w2, nCl (by omega)]
        rw [en, z]
        refine L3.cg (fun l hl => ?_)
        show gD W l = lkM m q W (327382 + 185 * q + 5 + l)
        rw [lkM_l hl]
      · have R0 := dv_rc E I.1 I.2.2.2.2.1 hq he
        have R1 := R0.keep K480 Dk L2 e48 z
        have ce : lkM m p W (eB q e) = m (eB q e) := by
          unfold eB
          by_cases y : e = 0
          · rw [if_pos y]; exact o _ (by omega)
          · rw [if_neg y]; exact o _ (by omega)
        have nb := (eB_n I.1 I.2.2.2.2.1 hq he).2
        rw [Nn.c ce]
        refine R1.cg (fun l hl => ?_)
        unfold eS
        by_cases y : e = 0
        · rw [if_pos y, if_pos y]; exact (o _ (by omega)).symm
        · rw [if_neg y, if_neg y]; exact (o _ (by omega)).symm
    · rw [Nn.c (o 5 (by omega))] at ht
      have f5 := I.1.f.2.2.2.2.2.1.2
      obtain ⟨x1, x2, x3, x4⟩ := E.2.2.2.2 t ht
      rw [gp3, oj 7 (by omega) (by omega) d7.1, oj 8 (by omega) (by omega) d8.1, oj 9 (by omega) (by omega) d9.1, oj 10 (by omega) (by omega) d10.1, b9 7 (by omega) (by omega) d7.1, b9 8 (by omega) (by omega) d8.1, b9 9 (by omega) (by omega) d9.1, b9 10 (by omega) (by omega) d10.1, x1, x2, x3, x4, o _ (by omega), o _ (by omega), o _ (by omega), o _ (by omega)]
      exact ⟨rfl, rfl, rfl, rfl⟩
end
