/-! style: conditions of rules, the class: and, or, not, brackets -/
section
variable {h0 h h1 : Hp} {b : Nat → Nat} {e r c0 a c c2 k j x y p i d u cd : Nat} {l : List Op} {o : Op} {v : Int32} {f : Nat → PR} {R : Hp → Option (Int32 × Hp)}
/-- what the loop over and, or does at a time -/
noncomputable def lpG (k cd : Nat) (R : Hp → Option (Int32 × Hp)) (v : Int32) (h : Hp) : Option ((Int32 × Hp) ⊕ (Int32 × Hp)) := gg (kd h 3 = 9) <| if (gI h 3 1) ≤ v then some (.inr (nI 1, h)) else b2 (MX10_takeWord h 3 k) fun (t10 : Int32) (h9 : Hp) => if t10 = nI 0 then some (.inr (nI 1, h9)) else gg (kd h9 3 = 9) <| b2 (R h9) fun (t15 : Int32) (h14 : Hp) => if t15 = nI 0 then some (.inr (nI 0, h14)) else gg (kd h14 3 = 9) <| gg (kd h14 (gP h14 3 5) = 8) <| Option.bind (MX9_addCode h14 (gP h14 3 5) (nI cd) (nI 0)) fun (h20 : Hp) => some (.inl (v + nI 1, h20))
theorem cf_lp (B : HB h0 b e r) (C : CFn h0 b e r c0 R f) (G : PG e c2 f) (hk : k < 21) (ho : (o = (5, 0, 0) ∧ cd = 27) ∨ (o = (6, 0, 0) ∧ cd = 28)) : ∀ d n h a i l L, CK h0 h a r c0 (L ++ l) → a ≤ e → i ≤ e → ik b e a = ik b e i → 2 * (c0 + (L ++ l).length) ≤ i → e + 1 ≤ i + d → n ≤ i → (∀ p, lpP b e k o f d i l = .inl p → ∃ h', it (fun q : Int32 × Hp => lpG k cd R q.1 q.2) (nI n, h) = some (nI 0, h') ∧ CX h0 h' r p) ∧ ∀ q, lpP b e k o f d i l = .inr q → ∃ h' a', it (fun q : Int32 × Hp => lpG k cd R q.1 q.2) (nI n, h) = some (nI 1, h') ∧ CK h0 h' a' r c0 (L ++ q.2) ∧ a' ≤ e ∧ ik b e a' = ik b e q.1
  | 0, n, h, a, i, l, L, K, ae, ie, ai, hl, hd, hn => by omega
  | d + 1, n, h, a, i, l, L, K, ae, ie, ai, hl, hd, hn => by
    have e1 : lpP b e k o f (d + 1) i l = if wdB b e k (ik b e i) = true then thP f (fun i' l' => lpP b e k o f d i' (l ++ l' ++ [o])) (ik b e i + sN k) else .inr (ik b e i, l) := rfl
    rw [e1]
    obtain ⟨T, T3⟩ := K.tq B
    have e400 := T.2.2.2.2.2.2.2.2.2.1
    obtain ⟨j1, j2⟩ := ik_le (b := b) ie
    obtain ⟨s2, s9⟩ := sN_b k hk
    by_cases z : e ≤ n
    · have ee : i = e := by omega
      have nw : ¬ wdB b e k (ik b e i) = true := fun w => by
        have := (wd_i w).1
        rw [ee, ik_e] at this
        omega
      rw [if_neg nw]
      refine ⟨fun p hp => (nomatch hp), fun q hq => ?_⟩
      have hq : q = (ik b e i, l) := by cases hq; rfl
      subst hq
      refine ⟨h, a, it_done ?_, K, ae, ai.trans (ik_i ie).symm⟩
      show lpG k cd R (nI n) h = _
      unfold lpG
      rw [gg_t T.1, T.2.2.2.2.2.2.2.2.1, if_pos (nI_le z (by omega))]
    · have tw := c_tkW T K.2.2.1 ae hk
      rw [ai] at tw
      obtain ⟨j, hj⟩ : ∃ j, j = ik b e i := ⟨_, rfl⟩
      rw [← hj] at tw j1 j2 ⊢
      have hd1 : lpG k cd R (nI n) h = b2 (MX10_takeWord h 3 k) fun (t10 : Int32) (h9 : Hp) => if t10 = nI 0 then some (.inr (nI 1, h9)) else gg (kd h9 3 = 9) <| b2 (R h9) fun (t15 : Int32) (h14 : Hp) => if t15 = nI 0 then some (.inr (nI 0, h14)) else gg (kd h14 3 = 9) <| gg (kd h14 (gP h14 3 5) = 8) <| Option.bind (MX9_addCode h14 (gP h14 3 5) (nI cd) (nI 0)) fun (h20 : Hp) => some (.inl (nI n + nI 1, h20)) := by
        unfold lpG
        rw [gg_t T.1, T.2.2.2.2.2.2.2.2.1, if_neg (nI_ge (by omega) (by omega))]
      rw [tw] at hd1
      by_cases w : wdB b e k j = true
      · have w1 := (wd_i w).1
        rw [if_pos w, w, show bI true = nI 1 from rfl, b2_some, if_neg (show ¬ nI 1 = nI 0 by decide)] at hd1
        rw [if_pos w]
        have K9 := K.at B (j + sN k)
        obtain ⟨h9, hh9⟩ : ∃ h9, h9 = sI h 3 2 (nI (j + sN k)) := ⟨_, rfl⟩
        rw [← hh9] at K9 hd1
        obtain ⟨T9, -⟩ := K9.tq B
        rw [gg_t T9.1] at hd1
        obtain ⟨C1, C2⟩ := C h9 (j + sN k) (j + sN k) (L ++ l) K9 w1 w1 rfl (by omega)
        obtain ⟨G1, G2⟩ := G (j + sN k) w1
        cases q : f (j + sN k) with
        | inl p =>
          obtain ⟨h', k1, k2⟩ := C1 p q
          rw [th_l q]
          refine ⟨fun p' hp => ?_, fun q' hq => (nomatch hq)⟩
          have hp : p' = p := by cases hp; rfl
          subst hp
          refine ⟨h', it_done ?_, k2⟩
          show lpG k cd R (nI n) h = _
          rw [hd1, k1, b2_some, if_pos rfl]
        | inr rr =>
          obtain ⟨h', a', k1, k2, k3, k4⟩ := C2 rr q
          obtain ⟨g1, g2, g3⟩ := G2 rr q
          have gl := g3.2.1
          rw [th_r q]
          have ll : (L ++ l ++ rr.2).length = (L ++ l).length + rr.2.length := List.length_append
          obtain ⟨h20, y1, y2⟩ := k2.add (u := nI cd) (v := nI 0) (o := o) B (by omega) (by
            rw [nMul, nAdd]
            rcases ho with ⟨rfl, rfl⟩ | ⟨rfl, rfl⟩
            · rfl
            · rfl)
          obtain ⟨T14, -⟩ := k2.tq B
          have st : lpG k cd R (nI n) h = some (.inl (nI (n + 1), h20)) := by
            rw [hd1, k1, b2_some, if_neg (show ¬ nI 1 = nI 0 by decide), gg_t T14.1, T14.2.2.2.1, k2.1.1, gg_t B.2.1.1, y1, ob_some, nAdd]
          rw [List.append_assoc, List.append_assoc, ← List.append_assoc l] at y2
          have l2 : (L ++ (l ++ rr.2 ++ [o])).length = (L ++ l).length + rr.2.length + 1 := by
            rw [List.length_append, List.length_append, List.length_append, List.length_append]
            show L.length + (l.length + rr.2.length + 1) = _
            omega
          have ih := cf_lp B C G hk ho d (n + 1) h20 a' rr.1 (l ++ rr.2 ++ [o]) L y2 k3 g2 k4 (by omega) (by omega) (by omega)
          have en : it (fun q : Int32 × Hp => lpG k cd R q.1 q.2) (nI n, h) = it (fun q : Int32 × Hp => lpG k cd R q.1 q.2) (nI (n + 1), h20) := it_next st
          rw [en]
          exact ih
      · have wf : wdB b e k j = false := by
          cases x : wdB b e k j with
          | true => exact absurd x w
          | false => rfl
        rw [if_neg w, wf, show bI false = nI 0 from rfl, b2_some, if_pos rfl] at hd1
        rw [if_neg w]
        refine ⟨fun p hp => (nomatch hp), fun q hq => ?_⟩
        have hq : q = (j, l) := by cases hq; rfl
        subst hq
        exact ⟨_, j, it_done hd1, K.at B j, j2, rfl⟩
theorem cf_al {t k cd : Nat} {rc : Nat → Hp → Nat → Int32 → Option (Int32 × Hp)} {F : Hp → Option (Int32 × Hp)} (B : HB h0 b e r) (C : CFn h0 b e r c0 R f) (G : PG e c2 f) (hk : k < 21) (ho : (o = (5, 0, 0) ∧ cd = 27) ∨ (o = (6, 0, 0) ∧ cd = 28)) (hF : ∀ h, kd h 3 = 9 → F h = b2 (R h) fun (t4 : Int32) (h3 : Hp) => if t4 = nI 0 then some (nI 0, h3) else it (fun q : Int32 × Hp => lpG k cd R q.1 q.2) (nI 0, h3)) : CFn h0 b e r c0 F (thP f (lpP b e k o f (e + 1))) := fun h a i l K ae ie ai hl => by
  obtain ⟨T, T3⟩ := K.tq B
  obtain ⟨C1, C2⟩ := C h a i l K ae ie ai hl
  obtain ⟨G1, G2⟩ := G i ie
  rw [hF h T.1]
  cases q : f i with
  | inl p =>
    obtain ⟨h', k1, k2⟩ := C1 p q
    rw [th_l q, k1]
    refine ⟨fun p' hp => ?_, fun q' hq => (nomatch hq)⟩
    have hp : p' = p := by cases hp; rfl
    subst hp
    exact ⟨h', by rw [b2_some, if_pos rfl], k2⟩
  | inr rr =>
    obtain ⟨h', a', k1, k2, k3, k4⟩ := C2 rr q
    obtain ⟨g1, g2, g3⟩ := G2 rr q
    have gl := g3.2.1
    have ll : (l ++ rr.2).length = l.length + rr.2.length := List.length_append
    rw [th_r q, k1, b2_some, if_neg (show ¬ nI 1 = nI 0 by decide)]
    exact cf_lp B C G hk ho (e + 1) 0 h' a' rr.1 rr.2 l k2 k3 g2 k4 (by omega) (by omega) (Nat.zero_le _)
theorem cf_an (B : HB h0 b e r) (C : CFn h0 b e r c0 (fun h => RX10_atom u 0 h 3 v) f) (G : PG e c2 f) : CFn h0 b e r c0 (fun h => RX10_atom (u + 2) 2 h 3 v) (anP b e f) := by
  have A : CFn h0 b e r c0 (fun h => RX10_atom (u + 1) 1 h 3 v) (alP b e f) := by
    refine cf_al (t := 0) (rc := RX10_atom u) B C G (k := 0) (cd := 27) (by omega) (Or.inl ⟨rfl, rfl⟩) (fun h hk => ?_)
    show BX10_every (RX10_atom u) h 3 v = _
    unfold BX10_every
    simp only [ZL]
    rw [gg_t hk]
    rfl
  refine cf_al (t := 0) (rc := RX10_atom (u + 1)) B A (al_g G) (k := 16) (cd := 28) (by omega) (Or.inr ⟨rfl, rfl⟩) (fun h hk => ?_)
  show BX10_either (RX10_atom (u + 1)) h 3 v = _
  unfold BX10_either
  simp only [ZL]
  rw [gg_t hk]
  rfl
theorem cf_at (B : HB h0 b e r) : ∀ k u, k ≤ 5 → 3 * k + 1 ≤ u → CFn h0 b e r c0 (fun h => RX10_atom u 0 h 3 (nI (5 - k))) (atP b e k) := fun k => by
  -- the head of an atom
  have hd : ∀ rc h a i l (w : Int32), CK h0 h a r c0 l → a ≤ e → i ≤ e → ik b e a = ik b e i → BX10_atom rc h 3 w = (if wdB b e 15 (ik b e i) = true then MX10_atom_39 rc (sI h 3 2 (nI (ik b e i + sN 15))) 3 w (nI (ik b e i)) (nI 1) else if ik b e i < e ∧ b (ik b e i) = 40 then MX10_atom_39 rc (sI h 3 2 (nI (ik b e i + 1))) 3 w (nI (ik b e i)) (nI 0) else (b2 (MX10_takeFact (sI h 3 2 (nI (ik b e i))) 3) fun t52 h51 => gg (kd h51 3 = 9) <| b2 (MX10_tagOrComparison h51 3 t52) fun t56 h55 => gg (zOk t56 = true) <| some (t56, h55))) := fun rc h a i l w K ae ie ai => by
    obtain ⟨T, T3⟩ := K.tq B
    have t12 := T.2.2.2.2.2.2.2.2.2.2.2 a ae
    obtain ⟨j1, j2⟩ := ik_le (b := b) ie
    have e400 := T.2.2.2.2.2.2.2.2.2.1
    have tw := c_tkW T K.2.2.1 ae (k := 15) (by omega)
    rw [ai] at tw t12
    unfold BX10_atom
    simp only [ZL]
    rw [gg_t T.1, T.2.2.1, gg_t T.2.2.2.2.2.2.1, K.2.2.1, T.2.2.2.2.2.2.2.1, gg_in (by omega) (by omega), nCl (by omega), t12, tw]
    cases x : wdB b e 15 (ik b e i) with
    | true => rw [if_pos rfl, if_pos rfl, show bI true = nI 1 from rfl, b2_some, if_neg (show ¬ nI 1 = nI 0 by decide)]
    | false =>
      rw [if_neg (show ¬ false = true by decide), if_neg (show ¬ false = true by decide), show bI false = nI 0 from rfl, b2_some, if_pos rfl]
      have K4 := K.at B (ik b e i)
      obtain ⟨T4, -⟩ := K4.tq B
      rw [gg_t T4.1, tkS_j T4 K4.2.2.1 j2 (ik_i ie) (show 40 < 128 by omega)]
      by_cases y : ik b e i < e ∧ b (ik b e i) = 40
      · rw [if_pos y, if_pos y, b2_some, if_neg (show ¬ nI 1 = nI 0 by decide), sI_sI]
      · rw [if_neg y, if_neg y, b2_some, if_pos rfl, gg_t T4.1]
  -- what is no bracket and no not
  have leaf : ∀ h a i l, CK h0 h a r c0 l → a ≤ e → i ≤ e → ik b e a = ik b e i → 2 * (c0 + l.length) ≤ i → (∀ p, lfP b e (ik b e i) = .inl p → ∃ h', (b2 (MX10_takeFact (sI h 3 2 (nI (ik b e i))) 3) fun t52 h51 => gg (kd h51 3 = 9) <| b2 (MX10_tagOrComparison h51 3 t52) fun t56 h55 => gg (zOk t56 = true) <| some (t56, h55)) = some (nI 0, h') ∧ CX h0 h' r p) ∧ ∀ q, lfP b e (ik b e i) = .inr q → ∃ h' a', (b2 (MX10_takeFact (sI h 3 2 (nI (ik b e i))) 3) fun t52 h51 => gg (kd h51 3 = 9) <| b2 (MX10_tagOrComparison h51 3 t52) fun t56 h55 => gg (zOk t56 = true) <| some (t56, h55)) = some (nI 1, h') ∧ CK h0 h' a' r c0 (l ++ q.2) ∧ a' ≤ e ∧ ik b e a' = ik b e q.1 := fun h a i l K ae ie ai hl => by
    obtain ⟨j1, j2⟩ := ik_le (b := b) ie
    obtain ⟨c1, c2⟩ := c_leaf B (K.at B (ik b e i)) j2 (ik_i ie) (by omega)
    refine ⟨c1, fun q hq => ?_⟩
    obtain ⟨h', k1, k2⟩ := c2 q hq
    exact ⟨h', q.1, k1, k2, ((lf_g ie rfl).2 q hq).2.1, rfl⟩
  induction k with
  | zero =>
    intro u _ hu h a i l K ae ie ai hl
    obtain ⟨u', rfl⟩ : ∃ u', u = u' + 1 := ⟨u - 1, by omega⟩
    have e1 : atP b e 0 i = if wdB b e 15 (ik b e i) = true then .inl (ik b e i) else if ik b e i < e ∧ b (ik b e i) = 40 then .inl (ik b e i) else lfP b e (ik b e i) := rfl
    obtain ⟨j1, j2⟩ := ik_le (b := b) ie
    show (∀ p, atP b e 0 i = .inl p → ∃ h', BX10_atom (RX10_atom u') h 3 (nI 5) = some (nI 0, h') ∧ CX h0 h' r p) ∧ ∀ q, atP b e 0 i = .inr q → ∃ h' a', BX10_atom (RX10_atom u') h 3 (nI 5) = some (nI 1, h') ∧ CK h0 h' a' r c0 (l ++ q.2) ∧ a' ≤ e ∧ ik b e a' = ik b e q.1
    rw [e1, hd _ h a i l (nI 5) K ae ie ai]
    have e400 := (K.tq B).1.2.2.2.2.2.2.2.2.2.1
    have deep : ∀ x (t : Int32), ∃ h', MX10_atom_39 (RX10_atom u') (sI h 3 2 (nI x)) 3 (nI 5) (nI (ik b e i)) t = some (nI 0, h') ∧ CX h0 h' r (ik b e i) := fun x t => by
      have K1 := K.at B x
      have K2 := K1.at B (ik b e i)
      obtain ⟨T1, -⟩ := K1.tq B
      obtain ⟨T2, T23⟩ := K2.tq B
      have X := K2.fl B (by omega) (ik b e i)
      refine ⟨_, ?_, X⟩
      unfold MX10_atom_39
      simp only [ZL]
      rw [if_neg (by decide), gg_t T1.1, lt_eq, c_fail T2 K2.2.2.1 j2 T23, b2_some, gg_t (of_eq_true zk0), ik_i ie]
    by_cases w : wdB b e 15 (ik b e i) = true
    · rw [if_pos w, if_pos w]
      exact ⟨fun p hp => by cases hp; exact deep _ _, fun q hq => (nomatch hq)⟩
    · rw [if_neg w, if_neg w]
      by_cases y : ik b e i < e ∧ b (ik b e i) = 40
      · rw [if_pos y, if_pos y]
        exact ⟨fun p hp => by cases hp; exact deep _ _, fun q hq => (nomatch hq)⟩
      · rw [if_neg y, if_neg y]
        exact leaf h a i l K ae ie ai hl
  | succ k ih =>
    intro u k5 hu h a i l K ae ie ai hl
    obtain ⟨u', rfl⟩ : ∃ u', u = u' + 1 := ⟨u - 1, by omega⟩
    have e1 : atP b e (k + 1) i = if wdB b e 15 (ik b e i) = true then thP (atP b e k) (fun i' l => .inr (i', l ++ [(4, 0, 0)])) (ik b e i + sN 15) else if ik b e i < e ∧ b (ik b e i) = 40 then thP (anP b e (atP b e k)) (clQ b e) (ik b e i + 1) else lfP b e (ik b e i) := rfl
    obtain ⟨j1, j2⟩ := ik_le (b := b) ie
    have e400 := (K.tq B).1.2.2.2.2.2.2.2.2.2.1
    show (∀ p, atP b e (k + 1) i = .inl p → ∃ h', BX10_atom (RX10_atom u') h 3 (nI (5 - (k + 1))) = some (nI 0, h') ∧ CX h0 h' r p) ∧ ∀ q, atP b e (k + 1) i = .inr q → ∃ h' a', BX10_atom (RX10_atom u') h 3 (nI (5 - (k + 1))) = some (nI 1, h') ∧ CK h0 h' a' r c0 (l ++ q.2) ∧ a' ≤ e ∧ ik b e a' = ik b e q.1
    rw [e1, hd _ h a i l (nI (5 - (k + 1))) K ae ie ai]
    by_cases w : wdB b e 15 (ik b e i) = true
    · have w1 := (wd_i w).1
      have s15 : sN 15 = 3 := by decide
      rw [if_pos w, if_pos w]
      have K1 := K.at B (ik b e i + sN 15)
      obtain ⟨h5, hh5⟩ : ∃ h5, h5 = sI h 3 2 (nI (ik b e i + sN 15)) := ⟨_, rfl⟩
      rw [← hh5] at K1 ⊢
      obtain ⟨T1, -⟩ := K1.tq B
      obtain ⟨C1, C2⟩ := ih u' (by omega) (by omega) h5 _ (ik b e i + sN 15) l K1 w1 w1 rfl (by omega)
      obtain ⟨G1, G2⟩ := at_g (b := b) (e := e) k (ik b e i + sN 15) w1
      have pre : MX10_atom_39 (RX10_atom u') h5 3 (nI (5 - (k + 1))) (nI (ik b e i)) (nI 1) = b2 (RX10_atom u' 0 h5 3 (nI (5 - k))) fun (t28 : Int32) (h27 : Hp) => gg (kd h27 3 = 9) <| gg (kd h27 (gP h27 3 5) = 8) <| Option.bind (MX9_addCode h27 (gP h27 3 5) (nI 29) (nI 0)) fun (h32 : Hp) => gg (zOk t28 = true) <| some (t28, h32) := by
        unfold MX10_atom_39
        simp only [ZL]
        rw [if_pos (nI_lt (show 5 - (k + 1) < 5 by omega) (by omega)), if_neg (by decide), gg_t T1.1, nAdd, show 5 - (k + 1) + 1 = 5 - k by omega]
      rw [pre]
      cases q : atP b e k (ik b e i + sN 15) with
      | inl p =>
        obtain ⟨h', k1, k2⟩ := C1 p q
        replace k1 : RX10_atom u' 0 h5 3 (nI (5 - k)) = _ := k1
        rw [th_l q, k1]
        refine ⟨fun p' hp => ?_, fun q' hq => (nomatch hq)⟩
        have hp : p' = p := by cases hp; rfl
        subst hp
        obtain ⟨h'', y1, y2⟩ := k2.add (u := nI 29) (v := nI 0) B
        have e3 : kd h' 3 = 9 := by rw [k2.1.1]; exact B.1.1
        have e5 : gP h' 3 5 = 5 := by rw [k2.1.2.2.1]; exact B.1.2.2.2.1
        exact ⟨h'', by rw [b2_some, gg_t e3, e5, k2.1.1, gg_t B.2.1.1, y1, ob_some, gg_t (of_eq_true zk0)], y2⟩
      | inr rr =>
        obtain ⟨h', a', k1, k2, k3, k4⟩ := C2 rr q
        obtain ⟨g1, g2, g3⟩ := G2 rr q
        have gl := g3.2.1
        have ll : (l ++ rr.2).length = l.length + rr.2.length := List.length_append
        replace k1 : RX10_atom u' 0 h5 3 (nI (5 - k)) = _ := k1
        rw [th_r q, k1]
        refine ⟨fun p' hp => (nomatch hp), fun q' hq => ?_⟩
        have hq : q' = (rr.1, rr.2 ++ [(4, 0, 0)]) := by cases hq; rfl
        subst hq
        obtain ⟨T', -⟩ := k2.tq B
        obtain ⟨h'', y1, y2⟩ := k2.add (u := nI 29) (v := nI 0) (o := (4, 0, 0)) B (by omega) rfl
        rw [List.append_assoc] at y2
        exact ⟨h'', a', by rw [b2_some, gg_t T'.1, T'.2.2.2.1, k2.1.1, gg_t B.2.1.1, y1, ob_some, gg_t (of_eq_true zk1)], y2, k3, k4⟩
    · rw [if_neg w, if_neg w]
      by_cases y : ik b e i < e ∧ b (ik b e i) = 40
      · rw [if_pos y, if_pos y]
        have K1 := K.at B (ik b e i + 1)
        obtain ⟨h5, hh5⟩ : ∃ h5, h5 = sI h 3 2 (nI (ik b e i + 1)) := ⟨_, rfl⟩
        rw [← hh5] at K1 ⊢
        obtain ⟨T1, -⟩ := K1.tq B
        obtain ⟨u2, rfl⟩ : ∃ u2, u' = u2 + 2 := ⟨u' - 2, by omega⟩
        obtain ⟨C1, C2⟩ := cf_an (u := u2) B (ih u2 (by omega) (by omega)) (at_g k) h5 _ (ik b e i + 1) l K1 (by omega) (by omega) rfl (by omega)
        obtain ⟨G1, G2⟩ := an_g (b := b) (at_g (b := b) (e := e) k) (ik b e i + 1) (by omega)
        have pre : MX10_atom_39 (RX10_atom (u2 + 2)) h5 3 (nI (5 - (k + 1))) (nI (ik b e i)) (nI 0) = b2 (RX10_atom (u2 + 2) 2 h5 3 (nI (5 - k))) fun (t13 : Int32) (h12 : Hp) => if t13 = nI 0 then some (nI 0, h12) else gg (kd h12 3 = 9) <| b2 (MX10_takeSign h12 3 (nI 41)) fun (t18 : Int32) (h17 : Hp) => if t18 = nI 0 then gg (kd h17 3 = 9) <| b2 (MX10_failHere h17 3) fun (t23 : Int32) (h22 : Hp) => if t23 = nI 0 then some (nI 0, h22) else some (nI 1, h22) else some (nI 1, h17) := by
          unfold MX10_atom_39
          simp only [ZL]
          rw [if_pos (nI_lt (show 5 - (k + 1) < 5 by omega) (by omega)), if_pos trivial, gg_t T1.1, nAdd, show 5 - (k + 1) + 1 = 5 - k by omega]
        rw [pre]
        cases q : anP b e (atP b e k) (ik b e i + 1) with
        | inl p =>
          obtain ⟨h', k1, k2⟩ := C1 p q
          replace k1 : RX10_atom (u2 + 2) 2 h5 3 (nI (5 - k)) = _ := k1
          rw [th_l q, k1]
          refine ⟨fun p' hp => ?_, fun q' hq => (nomatch hq)⟩
          have hp : p' = p := by cases hp; rfl
          subst hp
          exact ⟨h', by rw [b2_some, if_pos rfl], k2⟩
        | inr rr =>
          obtain ⟨h', a', k1, k2, k3, k4⟩ := C2 rr q
          obtain ⟨g1, g2, g3⟩ := G2 rr q
          have gl := g3.2.1
          have ll : (l ++ rr.2).length = l.length + rr.2.length := List.length_append
          obtain ⟨T', -⟩ := k2.tq B
          have s41 := c_tkS T' k2.2.2.1 k3 (show 41 < 128 by omega)
          rw [k4] at s41
          obtain ⟨q1, q2⟩ := ik_le (b := b) g2
          replace k1 : RX10_atom (u2 + 2) 2 h5 3 (nI (5 - k)) = _ := k1
          rw [th_r q, k1, b2_some, if_neg (show ¬ nI 1 = nI 0 by decide), gg_t T'.1, s41]
          unfold clQ
          by_cases x : ik b e rr.1 < e ∧ b (ik b e rr.1) = 41
          · rw [if_pos x, if_pos x, decide_eq_true x, show bI true = nI 1 from rfl, b2_some, if_neg (show ¬ nI 1 = nI 0 by decide)]
            refine ⟨fun p' hp => (nomatch hp), fun q' hq => ?_⟩
            have hq : q' = (ik b e rr.1 + 1, rr.2) := by cases hq; rfl
            subst hq
            exact ⟨_, _, rfl, k2.at B (ik b e rr.1 + 1), by show ik b e rr.1 + 1 ≤ e; omega, rfl⟩
          · have K6 := k2.at B (ik b e rr.1)
            obtain ⟨T6, T63⟩ := K6.tq B
            rw [if_neg x, if_neg x, decide_eq_false x, show bI false = nI 0 from rfl, b2_some, if_pos rfl, gg_t T6.1, c_fail T6 K6.2.2.1 q2 T63, b2_some, if_pos rfl, ik_i g2]
            refine ⟨fun p' hp => ?_, fun q' hq => (nomatch hq)⟩
            have hp : p' = ik b e rr.1 := by cases hp; rfl
            subst hp
            exact ⟨_, rfl, K6.fl B (by omega) _⟩
      · rw [if_neg y, if_neg y]
        exact leaf h a i l K ae ie ai hl
end
