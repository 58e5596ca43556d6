/-! style: conditions of rules, the reference: and, or, not, brackets -/
section
variable {g0 g g1 : Hp} {b : Nat → Nat} {e P0 D a c c2 k j x y p i d u cd : Nat} {w : List Nat} {l : List Op} {o : Op} {f : Nat → PR} {R F : Hp → Option (Int32 × Hp)}
/-- what the loop over and, or does at a time -/
noncomputable def rlG (k cd : Nat) (R : Hp → Option (Int32 × Hp)) (h : Hp) : Option ((Hp) ⊕ (Int32 × Hp)) := gg (kd h 73 = 11) <| b2 (MX12_takes h 73 k) fun (t9 : Int32) (h8 : Hp) => if t9 = nI 0 then some (.inr (nI 1, h8)) else gg (kd h8 73 = 11) <| b2 (R h8) fun (t14 : Int32) (h13 : Hp) => if t14 = nI 0 then some (.inr (nI 0, h13)) else gg (kd h13 73 = 11) <| Option.bind (MX12_act h13 73 (nI cd)) fun (h18 : Hp) => some (.inl h18)
theorem df_lp (T : TR g0 b e) (C : DFn g0 b e P0 D R f) (G : PG e c2 f) (hk : k < 21) (ho : (o = (5, 0, 0) ∧ cd = 5) ∨ (o = (6, 0, 0) ∧ cd = 6)) (W : List Nat) : ∀ d g a i l, DK g0 g a D P0 (W ++ l.flatMap encR) → a ≤ e → i ≤ e → ik b e a = ik b e i → P0 + (W ++ l.flatMap encR).length ≤ 62 + i → e + 1 ≤ i + d → (∀ p, lpP b e k o f d i l = .inl p → ∃ g', it (fun q : Hp => rlG k cd R q) g = some (nI 0, g') ∧ DX g0 g' p) ∧ ∀ q, lpP b e k o f d i l = .inr q → ∃ g' a', it (fun q : Hp => rlG k cd R q) g = some (nI 1, g') ∧ DK g0 g' a' D P0 (W ++ q.2.flatMap encR) ∧ a' ≤ e ∧ ik b e a' = ik b e q.1
  | 0, g, a, i, l, K, ae, ie, ai, hl, hd => by omega
  | d + 1, g, a, i, l, K, ae, ie, ai, hl, hd => by
    have e1 : lpP b e k o f (d + 1) i l = if wdB b e k (ik b e i) = true then thP f (fun i' l' => lpP b e k o f d i' (l ++ l' ++ [o])) (ik b e i + sN k) else .inr (ik b e i, l) := rfl
    rw [e1]
    have Tg := K.tr T
    obtain ⟨j1, j2⟩ := ik_le (b := b) ie
    obtain ⟨s2, s9⟩ := sN_b k hk
    have e400 := T.2.2.1
    have tw := r_tkW Tg K.2.2.1 ae hk
    rw [ai] at tw
    obtain ⟨j, hj⟩ : ∃ j, j = ik b e i := ⟨_, rfl⟩
    rw [← hj] at tw j1 j2 ⊢
    by_cases wk : wdB b e k j = true
    · have w1 := (wd_i wk).1
      rw [if_pos wk, wk, show bI true = nI 1 from rfl] at tw
      rw [if_pos wk]
      have K9 := K.s8 (j + sN k)
      obtain ⟨h9, hh9⟩ : ∃ h9, h9 = sI g 73 8 (nI (j + sN k)) := ⟨_, rfl⟩
      rw [← hh9] at K9 tw
      have hd1 : rlG k cd R g = b2 (R h9) fun (t14 : Int32) (h13 : Hp) => if t14 = nI 0 then some (.inr (nI 0, h13)) else gg (kd h13 73 = 11) <| Option.bind (MX12_act h13 73 (nI cd)) fun (h18 : Hp) => some (.inl h18) := by
        unfold rlG
        rw [gg_t (RS.f Tg.1).1, tw, b2_some, if_neg (show ¬ nI 1 = nI 0 by decide), gg_t (RS.f (K9.tr T).1).1]
      obtain ⟨C1, C2⟩ := C h9 (j + sN k) (j + sN k) (W ++ l.flatMap encR) K9 w1 w1 rfl (by omega)
      obtain ⟨G1, G2⟩ := G (j + sN k) w1
      cases q : f (j + sN k) with
      | inl p =>
        obtain ⟨g', k1, k2⟩ := C1 p q
        rw [th_l q]
        refine ⟨fun p' hp => ?_, fun q' hq => (nomatch hq)⟩
        have hp : p' = p := by cases hp; rfl
        subst hp
        refine ⟨g', it_done ?_, k2⟩
        show rlG k cd R g = _
        rw [hd1, k1, b2_some, if_pos rfl]
      | inr rr =>
        obtain ⟨g', a', k1, k2, k3, k4⟩ := C2 rr q
        obtain ⟨g1, g2, g3⟩ := G2 rr q
        have gl := g3.2.2.1
        rw [th_r q]
        have ll : (W ++ l.flatMap encR ++ rr.2.flatMap encR).length = (W ++ l.flatMap encR).length + (rr.2.flatMap encR).length := List.length_append
        obtain ⟨h20, y1, y2, -⟩ := k2.act T (by omega) cd
        have st : rlG k cd R g = some (.inl h20) := by
          rw [hd1, k1, b2_some, if_neg (show ¬ nI 1 = nI 0 by decide), gg_t (RS.f (k2.tr T).1).1, y1, ob_some]
        have ec : W ++ l.flatMap encR ++ rr.2.flatMap encR ++ [cd] = W ++ (l ++ rr.2 ++ [o]).flatMap encR := by
          rw [List.flatMap_append, List.flatMap_append, List.append_assoc, List.append_assoc, List.append_assoc]
          rcases ho with ⟨rfl, rfl⟩ | ⟨rfl, rfl⟩ <;> rfl
        rw [ec] at y2
        have l2 : (W ++ (l ++ rr.2 ++ [o]).flatMap encR).length = (W ++ l.flatMap encR).length + (rr.2.flatMap encR).length + 1 := by
          rw [← ec, List.length_append, ll]
          rfl
        have ih := df_lp T C G hk ho W d h20 a' rr.1 (l ++ rr.2 ++ [o]) y2 k3 g2 k4 (by omega) (by omega)
        have en : it (fun q : Hp => rlG k cd R q) g = it (fun q : Hp => rlG k cd R q) h20 := it_next st
        rw [en]
        exact ih
    · have wf : wdB b e k j = false := by
        cases x : wdB b e k j with
        | true => exact absurd x wk
        | false => rfl
      rw [if_neg wk, wf, show bI false = nI 0 from rfl] at tw
      rw [if_neg wk]
      refine ⟨fun p hp => (nomatch hp), fun q hq => ?_⟩
      have hq : q = (j, l) := by cases hq; rfl
      subst hq
      refine ⟨_, j, it_done (r := (nI 1, sI g 73 8 (nI j))) ?_, K.s8 j, j2, rfl⟩
      show rlG k cd R g = _
      unfold rlG
      rw [gg_t (RS.f Tg.1).1, tw, b2_some, if_pos rfl]
theorem df_al (T : TR g0 b e) (C : DFn g0 b e P0 D R f) (G : PG e c2 f) (hk : k < 21) (ho : (o = (5, 0, 0) ∧ cd = 5) ∨ (o = (6, 0, 0) ∧ cd = 6)) (hF : ∀ h, kd h 73 = 11 → F h = b2 (R h) fun (t4 : Int32) (h3 : Hp) => if t4 = nI 0 then some (nI 0, h3) else it (fun q : Hp => rlG k cd R q) h3) : DFn g0 b e P0 D F (thP f (lpP b e k o f (e + 1))) := fun g a i w K ae ie ai hl => by
  obtain ⟨C1, C2⟩ := C g a i w K ae ie ai hl
  obtain ⟨G1, G2⟩ := G i ie
  rw [hF g (RS.f (K.tr T).1).1]
  cases q : f i with
  | inl p =>
    obtain ⟨h', k1, k2⟩ := C1 p q
    rw [th_l q, k1]
    refine ⟨fun p' hp => ?_, fun q' hq => (nomatch hq)⟩
    have hp : p' = p := by cases hp; rfl
    subst hp
    exact ⟨h', by rw [b2_some, if_pos rfl], k2⟩
  | inr rr =>
    obtain ⟨h', a', k1, k2, k3, k4⟩ := C2 rr q
    obtain ⟨g1, g2, g3⟩ := G2 rr q
    have gl := g3.2.2.1
    have ll : (w ++ rr.2.flatMap encR).length = w.length + (rr.2.flatMap encR).length := List.length_append
    rw [th_r q, k1, b2_some, if_neg (show ¬ nI 1 = nI 0 by decide)]
    exact df_lp T C G hk ho w (e + 1) h' a' rr.1 rr.2 k2 k3 g2 k4 (by omega) (by omega)
theorem df_an (T : TR g0 b e) (C : DFn g0 b e P0 D (fun h => RX12_readAny u 1 h 73) f) (G : PG e c2 f) : DFn g0 b e P0 D (fun h => RX12_readAny (u + 2) 0 h 73) (anP b e f) := by
  have A : DFn g0 b e P0 D (fun h => RX12_readAny (u + 1) 2 h 73) (alP b e f) := by
    refine df_al T C G (k := 0) (cd := 5) (by omega) (Or.inl ⟨rfl, rfl⟩) (fun h hk => ?_)
    show BX12_readAll (RX12_readAny u) h 73 = _
    unfold BX12_readAll
    simp only [ZL]
    rw [gg_t hk]
    rfl
  refine df_al T A (al_g G) (k := 16) (cd := 6) (by omega) (Or.inr ⟨rfl, rfl⟩) (fun h hk => ?_)
  show BX12_readAny (RX12_readAny (u + 1)) h 73 = _
  unfold BX12_readAny
  simp only [ZL]
  rw [gg_t hk]
  rfl
theorem df_at (T : TR g0 b e) : ∀ k u, k ≤ 5 → 3 * k + 1 ≤ u → DFn g0 b e P0 (5 - k) (fun h => RX12_readAny u 1 h 73) (atP b e k) := fun k => by
  have e400 := T.2.2.1
  -- the head of an atom
  have hd : ∀ rc D g a i w, DK g0 g a D P0 w → a ≤ e → i ≤ e → ik b e a = ik b e i → BX12_readAtom rc g 73 = (if wdB b e 15 (ik b e i) = true then MX12_readAtom_59 rc (sI g 73 8 (nI (ik b e i + sN 15))) 73 (nI (ik b e i)) (nI 1) (nI 0) else if ik b e i < e ∧ b (ik b e i) = 40 then MX12_readAtom_59 rc (sI g 73 8 (nI (ik b e i))) 73 (nI (ik b e i)) (nI 0) (nI 1) else MX12_readAtom_50 rc (sI g 73 8 (nI (ik b e i))) 73 (nI (ik b e i)) (nI 0) (nI 0)) := fun rc D g a i w K ae ie ai => by
    have Tg := K.tr T
    obtain ⟨j1, j2⟩ := ik_le (b := b) ie
    have bk := r_bk Tg K.2.2.1 ae
    rw [ai] at bk
    have K4 := K.s8 (ik b e i)
    obtain ⟨g4, hg4⟩ : ∃ g4, g4 = sI g 73 8 (nI (ik b e i)) := ⟨_, rfl⟩
    have sw : sI g 73 8 (nI (ik b e i + sN 15)) = sI g4 73 8 (nI (ik b e i + sN 15)) := by rw [hg4, sI_sI]
    rw [sw]
    rw [← hg4] at K4 bk ⊢
    have T4 := K4.tr T
    have R4 := RS.f T4.1
    obtain ⟨t1, t2, t3, t4⟩ := id T4
    have tw := rtk_j T4 K4.2.2.1 j2 (ik_i ie) (k := 15) (by omega)
    unfold BX12_readAtom MX12_readAtom_49
    simp only [ZL]
    rw [gg_t (RS.f Tg.1).1, bk, ob_some, gg_t R4.1, tw, K4.2.2.1]
    by_cases x : wdB b e 15 (ik b e i) = true
    · rw [if_pos x, if_pos x, b2_some, if_neg (show ¬ nI 1 = nI 0 by decide)]
      unfold MX12_readAtom_50
      simp only [ZL]
      rw [if_neg (show ¬ nI 1 = nI 0 by decide)]
    · rw [if_neg x, if_neg x, b2_some, if_pos rfl, gg_t R4.1, t2, K4.2.2.1]
      by_cases y : e ≤ ik b e i
      · rw [if_pos (nI_le y (by omega)), if_neg (show ¬ (ik b e i < e ∧ b (ik b e i) = 40) from fun z => by omega)]
      · obtain ⟨c1, c2⟩ := t4 (ik b e i) (by omega)
        rw [if_neg (nI_ge (by omega) (by omega))]
        simp only [R4]
        rw [gg_T, gg_in (by omega) (by omega), nCl (by omega), c1]
        by_cases z : b (ik b e i) = 40
        · rw [if_pos (show nI (b (ik b e i)) = nI 40 by rw [z]), if_pos (show ik b e i < e ∧ b (ik b e i) = 40 from ⟨by omega, z⟩)]
          unfold MX12_readAtom_50
          simp only [ZL]
          rw [if_pos trivial, if_neg (show ¬ nI 1 = nI 0 by decide)]
        · rw [if_neg (show ¬ nI (b (ik b e i)) = nI 40 by rw [nEq (by omega) (by omega)]; exact z), if_neg (show ¬ (ik b e i < e ∧ b (ik b e i) = 40) from fun q => z q.2)]
  induction k with
  | zero =>
    intro u _ hu g a i w K ae ie ai hl
    obtain ⟨u', rfl⟩ : ∃ u', u = u' + 1 := ⟨u - 1, by omega⟩
    have e1 : atP b e 0 i = if wdB b e 15 (ik b e i) = true then .inl (ik b e i) else if ik b e i < e ∧ b (ik b e i) = 40 then .inl (ik b e i) else lfP b e (ik b e i) := rfl
    obtain ⟨j1, j2⟩ := ik_le (b := b) ie
    show (∀ p, atP b e 0 i = .inl p → ∃ g', BX12_readAtom (RX12_readAny u') g 73 = some (nI 0, g') ∧ DX g0 g' p) ∧ ∀ q, atP b e 0 i = .inr q → ∃ g' a', BX12_readAtom (RX12_readAny u') g 73 = some (nI 1, g') ∧ DK g0 g' a' 5 P0 (w ++ q.2.flatMap encR) ∧ a' ≤ e ∧ ik b e a' = ik b e q.1
    rw [e1, hd _ _ g a i w K ae ie ai]
    have deep : ∀ x (s t : Int32), ∃ g', MX12_readAtom_59 (RX12_readAny u') (sI g 73 8 (nI x)) 73 (nI (ik b e i)) s t = some (nI 0, g') ∧ DX g0 g' (ik b e i) := fun x s t => by
      have K1 := K.s8 x
      refine ⟨_, ?_, K1.fl (ik b e i)⟩
      unfold MX12_readAtom_59
      simp only [ZL]
      rw [gg_t (RS.f (K1.tr T).1).1, K1.2.2.2.1, if_pos rfl, lt_eq]
    by_cases wk : wdB b e 15 (ik b e i) = true
    · rw [if_pos wk, if_pos wk]
      exact ⟨fun p hp => by cases hp; exact deep _ _ _, fun q hq => (nomatch hq)⟩
    · rw [if_neg wk, if_neg wk]
      by_cases y : ik b e i < e ∧ b (ik b e i) = 40
      · rw [if_pos y, if_pos y]
        exact ⟨fun p hp => by cases hp; exact deep _ _ _, fun q hq => (nomatch hq)⟩
      · rw [if_neg y, if_neg y]
        obtain ⟨c1, c2⟩ := r_leaf (v1 := nI (ik b e i)) (rc := RX12_readAny u') T (K.s8 (ik b e i)) j2 (ik_i ie) (by omega)
        refine ⟨c1, fun q hq => ?_⟩
        obtain ⟨g', k1, k2⟩ := c2 q hq
        exact ⟨g', q.1, k1, k2, ((lf_g ie rfl).2 q hq).2.1, rfl⟩
  | succ k ih =>
    intro u k5 hu g a i w K ae ie ai hl
    obtain ⟨u', rfl⟩ : ∃ u', u = u' + 1 := ⟨u - 1, by omega⟩
    obtain ⟨D, hD⟩ : ∃ D, D = 5 - (k + 1) := ⟨_, rfl⟩
    have hD1 : 5 - k = D + 1 := by omega
    rw [hD1] at ih
    rw [← hD] at K
    have e1 : atP b e (k + 1) i = if wdB b e 15 (ik b e i) = true then thP (atP b e k) (fun i' l => .inr (i', l ++ [(4, 0, 0)])) (ik b e i + sN 15) else if ik b e i < e ∧ b (ik b e i) = 40 then thP (anP b e (atP b e k)) (clQ b e) (ik b e i + 1) else lfP b e (ik b e i) := rfl
    obtain ⟨j1, j2⟩ := ik_le (b := b) ie
    show (∀ p, atP b e (k + 1) i = .inl p → ∃ g', BX12_readAtom (RX12_readAny u') g 73 = some (nI 0, g') ∧ DX g0 g' p) ∧ ∀ q, atP b e (k + 1) i = .inr q → ∃ g' a', BX12_readAtom (RX12_readAny u') g 73 = some (nI 1, g') ∧ DK g0 g' a' (5 - (k + 1)) P0 (w ++ q.2.flatMap encR) ∧ a' ≤ e ∧ ik b e a' = ik b e q.1
    rw [e1, hd _ _ g a i w K ae ie ai, ← hD]
    -- back up
    have up : ∀ {g a w}, DK g0 g a (D + 1) P0 w → MX12_readAtom_177 (RX12_readAny u') g 73 = some (nI 1, sI g 73 10 (nI D)) := fun {g a w} K => by
      unfold MX12_readAtom_177
      simp only [ZL]
      rw [gg_t (RS.f (K.tr T).1).1, K.2.2.2.1, nSub (by omega), lt_eq]
      rfl
    by_cases wk : wdB b e 15 (ik b e i) = true
    · have w1 := (wd_i wk).1
      have s15 : sN 15 = 3 := by decide
      rw [if_pos wk, if_pos wk]
      have K1 := (K.s8 (ik b e i + sN 15)).s10 (D + 1)
      have K0 := K.s8 (ik b e i + sN 15)
      obtain ⟨g5, hg5⟩ : ∃ g5, g5 = sI (sI g 73 8 (nI (ik b e i + sN 15))) 73 10 (nI (D + 1)) := ⟨_, rfl⟩
      rw [← hg5] at K1
      obtain ⟨C1, C2⟩ := ih u' (by omega) (by omega) g5 _ (ik b e i + sN 15) w K1 w1 w1 rfl (by omega)
      obtain ⟨G1, G2⟩ := at_g (b := b) (e := e) k (ik b e i + sN 15) w1
      have pre : MX12_readAtom_59 (RX12_readAny u') (sI g 73 8 (nI (ik b e i + sN 15))) 73 (nI (ik b e i)) (nI 1) (nI 0) = b2 (RX12_readAny u' 1 g5 73) fun (t55 : Int32) (h54 : Hp) => if t55 = nI 0 then some (nI 0, h54) else MX12_readAtom_121 (RX12_readAny u') h54 73 (nI 1) := by
        unfold MX12_readAtom_59 MX12_readAtom_98
        simp only [ZL]
        rw [gg_t (RS.f (K0.tr T).1).1, K0.2.2.2.1, if_neg (by rw [nEq (by omega) (by omega)]; omega), nAdd, lt_eq, if_pos trivial, ← hg5, if_neg (show ¬ nI 1 = nI 0 by decide), gg_t (RS.f (K1.tr T).1).1]
      rw [pre]
      cases q : atP b e k (ik b e i + sN 15) with
      | inl p =>
        obtain ⟨h', k1, k2⟩ := C1 p q
        replace k1 : RX12_readAny u' 1 g5 73 = _ := k1
        rw [th_l q, k1]
        refine ⟨fun p' hp => ?_, fun q' hq => (nomatch hq)⟩
        have hp : p' = p := by cases hp; rfl
        subst hp
        exact ⟨h', by rw [b2_some, if_pos rfl], k2⟩
      | inr rr =>
        obtain ⟨h', a', k1, k2, k3, k4⟩ := C2 rr q
        obtain ⟨g1, g2, g3⟩ := G2 rr q
        have gl := g3.2.2.1
        have ll : (w ++ rr.2.flatMap encR).length = w.length + (rr.2.flatMap encR).length := List.length_append
        replace k1 : RX12_readAny u' 1 g5 73 = _ := k1
        rw [th_r q, k1]
        refine ⟨fun p' hp => (nomatch hp), fun q' hq => ?_⟩
        have hq : q' = (rr.1, rr.2 ++ [(4, 0, 0)]) := by cases hq; rfl
        subst hq
        obtain ⟨h'', y1, y2, -⟩ := k2.act T (by omega) 4
        have ec : w ++ rr.2.flatMap encR ++ [4] = w ++ (rr.2 ++ [((4, 0, 0) : Op)]).flatMap encR := by
          rw [List.flatMap_append, List.append_assoc]
          rfl
        rw [ec] at y2
        refine ⟨_, a', ?_, y2.s10 D, k3, k4⟩
        rw [b2_some, if_neg (show ¬ nI 1 = nI 0 by decide)]
        unfold MX12_readAtom_121
        simp only [ZL]
        rw [if_neg (show ¬ nI 1 = nI 0 by decide), gg_t (RS.f (k2.tr T).1).1, y1, ob_some, up y2]
    · rw [if_neg wk, if_neg wk]
      by_cases y : ik b e i < e ∧ b (ik b e i) = 40
      · rw [if_pos y, if_pos y]
        have K0 := K.s8 (ik b e i)
        have K1 := (K0.s10 (D + 1)).s8 (ik b e i + 1)
        obtain ⟨g4, hg4⟩ : ∃ g4, g4 = sI (sI g 73 8 (nI (ik b e i))) 73 10 (nI (D + 1)) := ⟨_, rfl⟩
        have K2 := K0.s10 (D + 1)
        rw [← hg4] at K1 K2
        obtain ⟨g5, hg5⟩ : ∃ g5, g5 = sI g4 73 8 (nI (ik b e i + 1)) := ⟨_, rfl⟩
        rw [← hg5] at K1
        obtain ⟨u2, rfl⟩ : ∃ u2, u' = u2 + 2 := ⟨u' - 2, by omega⟩
        obtain ⟨C1, C2⟩ := df_an (u := u2) T (ih u2 (by omega) (by omega)) (at_g k) g5 _ (ik b e i + 1) w K1 (by omega) (by omega) rfl (by omega)
        obtain ⟨G1, G2⟩ := an_g (b := b) (at_g (b := b) (e := e) k) (ik b e i + 1) (by omega)
        have pre : MX12_readAtom_59 (RX12_readAny (u2 + 2)) (sI g 73 8 (nI (ik b e i))) 73 (nI (ik b e i)) (nI 0) (nI 1) = b2 (RX12_readAny (u2 + 2) 0 g5 73) fun (t22 : Int32) (h21 : Hp) => if t22 = nI 0 then some (nI 0, h21) else MX12_readAtom_121 (RX12_readAny (u2 + 2)) h21 73 (nI 0) := by
          unfold MX12_readAtom_59 MX12_readAtom_98
          simp only [ZL]
          rw [gg_t (RS.f (K0.tr T).1).1, K0.2.2.2.1, if_neg (by rw [nEq (by omega) (by omega)]; omega), nAdd, lt_eq, if_neg (show ¬ nI 1 = nI 0 by decide), ← hg4, K2.2.2.1, nAdd, lt_eq, ← hg5, if_pos trivial, gg_t (RS.f (K1.tr T).1).1]
        rw [pre]
        cases q : anP b e (atP b e k) (ik b e i + 1) with
        | inl p =>
          obtain ⟨h', k1, k2⟩ := C1 p q
          replace k1 : RX12_readAny (u2 + 2) 0 g5 73 = _ := k1
          rw [th_l q, k1]
          refine ⟨fun p' hp => ?_, fun q' hq => (nomatch hq)⟩
          have hp : p' = p := by cases hp; rfl
          subst hp
          exact ⟨h', by rw [b2_some, if_pos rfl], k2⟩
        | inr rr =>
          obtain ⟨h', a', k1, k2, k3, k4⟩ := C2 rr q
          obtain ⟨g1, g2, g3⟩ := G2 rr q
          have gl := g3.2.2.1
          have ll : (w ++ rr.2.flatMap encR).length = w.length + (rr.2.flatMap encR).length := List.length_append
          obtain ⟨q1, q2⟩ := ik_le (b := b) g2
          have Th := k2.tr T
          have bk := r_bk Th k2.2.2.1 k3
          rw [k4] at bk
          have K6 := k2.s8 (ik b e rr.1)
          obtain ⟨h6, hh6⟩ : ∃ h6, h6 = sI h' 73 8 (nI (ik b e rr.1)) := ⟨_, rfl⟩
          rw [← hh6] at bk K6
          have T6 := K6.tr T
          have R6 := RS.f T6.1
          obtain ⟨t1, t2, t3, t4⟩ := id T6
          obtain ⟨z, z1, z2⟩ := K6.fails T
          have e162 : MX12_readAtom_162 (RX12_readAny (u2 + 2)) h6 73 = some (nI 0, z) := by
            unfold MX12_readAtom_162
            rw [gg_t R6.1, z1, b2_some, gg_t (of_eq_true zk0)]
          replace k1 : RX12_readAny (u2 + 2) 0 g5 73 = _ := k1
          have pre2 : MX12_readAtom_121 (RX12_readAny (u2 + 2)) h' 73 (nI 0) = if ik b e rr.1 < e ∧ b (ik b e rr.1) = 41 then some (nI 1, sI (sI h6 73 8 (nI (ik b e rr.1 + 1))) 73 10 (nI D)) else some (nI 0, z) := by
            unfold MX12_readAtom_121
            simp only [ZL]
            rw [if_pos trivial, gg_t (RS.f Th.1).1, bk, ob_some, gg_t R6.1, t2, K6.2.2.1, e162]
            by_cases x0 : e ≤ ik b e rr.1
            · rw [if_pos (nI_le x0 (by omega)), if_neg (show ¬ (ik b e rr.1 < e ∧ b (ik b e rr.1) = 41) from fun z => by omega)]
            · obtain ⟨c1, c2⟩ := t4 (ik b e rr.1) (by omega)
              rw [if_neg (nI_ge (by omega) (by omega))]
              simp only [R6]
              rw [gg_T, gg_in (by omega) (by omega), nCl (by omega), c1]
              by_cases x : b (ik b e rr.1) = 41
              · rw [if_pos (show nI (b (ik b e rr.1)) = nI 41 by rw [x]), if_pos (show ik b e rr.1 < e ∧ b (ik b e rr.1) = 41 from ⟨by omega, x⟩), nAdd, lt_eq, up (K6.s8 (ik b e rr.1 + 1))]
              · rw [if_neg (show ¬ nI (b (ik b e rr.1)) = nI 41 by rw [nEq (by omega) (by omega)]; exact x), if_neg (show ¬ (ik b e rr.1 < e ∧ b (ik b e rr.1) = 41) from fun q => x q.2)]
          rw [th_r q, k1, b2_some, if_neg (show ¬ nI 1 = nI 0 by decide), pre2]
          unfold clQ
          by_cases x : ik b e rr.1 < e ∧ b (ik b e rr.1) = 41
          · rw [if_pos x, if_pos x]
            refine ⟨fun p' hp => (nomatch hp), fun q' hq => ?_⟩
            have hq : q' = (ik b e rr.1 + 1, rr.2) := by cases hq; rfl
            subst hq
            exact ⟨_, _, rfl, (K6.s8 (ik b e rr.1 + 1)).s10 D, by show ik b e rr.1 + 1 ≤ e; omega, rfl⟩
          · rw [if_neg x, if_neg x]
            refine ⟨fun p' hp => ?_, fun q' hq => (nomatch hq)⟩
            have hp : p' = ik b e rr.1 := by cases hp; rfl
            subst hp
            exact ⟨z, rfl, z2⟩
      · rw [if_neg y, if_neg y]
        obtain ⟨c1, c2⟩ := r_leaf (v1 := nI (ik b e i)) (rc := RX12_readAny u') T (K.s8 (ik b e i)) j2 (ik_i ie) (by omega)
        refine ⟨c1, fun q hq => ?_⟩
        obtain ⟨g', k1, k2⟩ := c2 q hq
        exact ⟨g', q.1, k1, k2, ((lf_g ie rfl).2 q hq).2.1, rfl⟩
end
