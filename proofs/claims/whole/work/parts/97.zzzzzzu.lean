/-! style: a style's rules, both sides' loops -/
section
variable {h0 h h1 g0 g g1 : Hp} {b : Nat → Nat} {e a a' k n m j p i v r d : Nat} {rs R : List Rl} {t : Rl}
theorem c_st (B : KBs h0 b e) : ∀ d h a i rs, KS h0 h a rs → a ≤ e → i ≤ e → ik b e a = ik b e i → GdR rs i → rs.length < 12 → d + 1 + rs.length = 13 → (∀ p, stP b e (d + 1) rs i = .inl p → ∃ h', it (fun q : Int32 × Int32 × Hp => BX10_firstWrong_56 q.2.2 3 q.1 q.2.1) (nI 1, nI rs.length, h) = some (nI p, h') ∧ Fr (DSt h0) h0 h') ∧ ∀ R, stP b e (d + 1) rs i = .inr R → ∃ h' a', it (fun q : Int32 × Int32 × Hp => BX10_firstWrong_56 q.2.2 3 q.1 q.2.1) (nI 1, nI rs.length, h) = some (-nI 1, h') ∧ KS h0 h' a' R
  | d, h, a, i, rs, K, ae, ie, ai, G, hn, hd => by
    have e1 : stP b e (d + 1) rs i = if rs.length = 12 then .inl (ik b e i) else match ruP b e i with
      | .inl p => .inl p
      | .inr q => if e ≤ ik b e q.1 then .inr (rs ++ [q.2]) else if b (ik b e q.1) = 59 then stP b e d (rs ++ [q.2]) (ik b e q.1 + 1) else .inl (ik b e q.1) := rfl
    obtain ⟨T, T3, S⟩ := K.q B
    obtain ⟨c1, c2⟩ := c_ru B hn h a i K ae ie ai G.2.1
    have st : BX10_firstWrong_56 h 3 (nI 1) (nI rs.length) = b2 (MX10_readRule h 3) fun (t36 : Int32) (h35 : Hp) => if t36 = nI 0 then some (.inl (nI 0, nI rs.length + nI 1, h35)) else gg (kd h35 3 = 9) <| b2 (MX10_anotherFollows h35 3) fun (t41 : Int32) (h40 : Hp) => if t41 = nI 0 then some (.inl (nI 0, nI rs.length + nI 1, h40)) else some (.inl (nI 1, nI rs.length + nI 1, h40)) := by
      unfold BX10_firstWrong_56
      simp only [ZL]
      rw [if_neg (by decide), if_neg (nI_ge (by omega) (by omega)), gg_t T.1]
      rfl
    rw [e1, if_neg (by omega)]
    cases q : ruP b e i with
    | inl p =>
      obtain ⟨h', k1, k2, k3⟩ := c1 p q
      replace k1 : MX10_readRule h 3 = _ := k1
      rw [k1, b2_some, if_pos rfl] at st
      refine ⟨fun p' hp => ?_, fun R hR => (nomatch hR)⟩
      have hp : p = p' := by cases hp; rfl
      subst hp
      have en : it (fun q : Int32 × Int32 × Hp => BX10_firstWrong_56 q.2.2 3 q.1 q.2.1) (nI 1, nI rs.length, h) = it (fun q : Int32 × Int32 × Hp => BX10_firstWrong_56 q.2.2 3 q.1 q.2.1) (nI 0, nI rs.length + nI 1, h') := it_next st
      refine ⟨h', ?_, k2⟩
      rw [en, c_st0 (by rw [k2.1]; exact B.1.1), k3]
    | inr r =>
      obtain ⟨h', a', k1, k2, k3, k4⟩ := c2 r q
      replace k1 : MX10_readRule h 3 = _ := k1
      obtain ⟨G', r1, r2⟩ := G.app (b := b) hn ie q
      obtain ⟨q1, q2⟩ := ik_le (b := b) r2
      have ll : (rs ++ [r.2]).length = rs.length + 1 := by rw [List.length_append]; rfl
      have up : ∀ x, r.1 ≤ x → GdR (rs ++ [r.2]) x := fun x hx => ⟨G'.1, by have := G'.2.1; omega, by have := G'.2.2.1; omega, G'.2.2.2⟩
      have an := c_an B k2 k3 G'.1
      rw [k4] at an
      obtain ⟨T1, T13, -⟩ := k2.q B
      rw [k1, b2_some, if_neg (show ¬ nI 1 = nI 0 by decide), gg_t T1.1, an] at st
      show (∀ p, (if e ≤ ik b e r.1 then .inr (rs ++ [r.2]) else if b (ik b e r.1) = 59 then stP b e d (rs ++ [r.2]) (ik b e r.1 + 1) else .inl (ik b e r.1) : Nat ⊕ List Rl) = .inl p → _) ∧ ∀ R, (if e ≤ ik b e r.1 then .inr (rs ++ [r.2]) else if b (ik b e r.1) = 59 then stP b e d (rs ++ [r.2]) (ik b e r.1 + 1) else .inl (ik b e r.1) : Nat ⊕ List Rl) = .inr R → _
      -- the end at a fault
      have bad : ∀ x p, BX10_firstWrong_56 h 3 (nI 1) (nI rs.length) = some (.inl (nI 0, nI rs.length + nI 1, sI (sI h' 3 2 (nI x)) 3 3 (nI p))) → it (fun q : Int32 × Int32 × Hp => BX10_firstWrong_56 q.2.2 3 q.1 q.2.1) (nI 1, nI rs.length, h) = some (nI p, sI (sI h' 3 2 (nI x)) 3 3 (nI p)) ∧ Fr (DSt h0) h0 (sI (sI h' 3 2 (nI x)) 3 3 (nI p)) := fun x p hs => by
        have en : it (fun q : Int32 × Int32 × Hp => BX10_firstWrong_56 q.2.2 3 q.1 q.2.1) (nI 1, nI rs.length, h) = it (fun q : Int32 × Int32 × Hp => BX10_firstWrong_56 q.2.2 3 q.1 q.2.1) (nI 0, nI rs.length + nI 1, sI (sI h' 3 2 (nI x)) 3 3 (nI p)) := it_next hs
        refine ⟨?_, (k2.1.trans (Fr.sI (Or.inl rfl))).trans (Fr.sI (Or.inl rfl))⟩
        rw [en, c_st0 (h := sI (sI h' 3 2 (nI x)) 3 3 (nI p)) T1.1, gI_sI, if_pos rfl, up_at, if_pos rfl]
      by_cases y : e ≤ ik b e r.1
      · rw [if_neg (by omega), b2_some, if_pos rfl] at st
        rw [if_pos y]
        refine ⟨fun p hp => (nomatch hp), fun R hR => ?_⟩
        have hR : R = rs ++ [r.2] := by cases hR; rfl
        subst hR
        have en : it (fun q : Int32 × Int32 × Hp => BX10_firstWrong_56 q.2.2 3 q.1 q.2.1) (nI 1, nI rs.length, h) = it (fun q : Int32 × Int32 × Hp => BX10_firstWrong_56 q.2.2 3 q.1 q.2.1) (nI 0, nI rs.length + nI 1, h') := it_next st
        refine ⟨h', a', ?_, k2⟩
        rw [en, c_st0 T1.1, T13]
      · rw [if_pos (by omega)] at st
        rw [if_neg y]
        by_cases x : b (ik b e r.1) = 59
        · rw [if_pos x] at st
          rw [if_pos x]
          by_cases z : (rs ++ [r.2]).length < 12
          · rw [if_pos z, b2_some, if_neg (show ¬ nI 1 = nI 0 by decide), nAdd, ← ll] at st
            have en : it (fun q : Int32 × Int32 × Hp => BX10_firstWrong_56 q.2.2 3 q.1 q.2.1) (nI 1, nI rs.length, h) = it (fun q : Int32 × Int32 × Hp => BX10_firstWrong_56 q.2.2 3 q.1 q.2.1) (nI 1, nI (rs ++ [r.2]).length, sI h' 3 2 (nI (ik b e r.1 + 1))) := it_next st
            rw [en]
            obtain ⟨d', rfl⟩ : ∃ d', d = d' + 1 := ⟨d - 1, by omega⟩
            exact c_st B d' _ (ik b e r.1 + 1) (ik b e r.1 + 1) (rs ++ [r.2]) (k2.at B (ik b e r.1 + 1)) (by omega) (by omega) rfl (up _ (by omega)) z (by omega)
          · rw [if_neg z, b2_some, if_pos rfl] at st
            have d0 : d = 1 := by
              have := G'.1
              omega
            subst d0
            have e2 : stP b e 1 (rs ++ [r.2]) (ik b e r.1 + 1) = .inl (ik b e (ik b e r.1 + 1)) := by
              show (if (rs ++ [r.2]).length = 12 then _ else _) = _
              rw [if_pos (by have := G'.1; omega)]
            rw [e2]
            refine ⟨fun p hp => ?_, fun R hR => (nomatch hR)⟩
            have hp : p = ik b e (ik b e r.1 + 1) := by cases hp; rfl
            rw [hp]
            exact ⟨_, bad _ _ st⟩
        · rw [if_neg x, b2_some, if_pos rfl] at st
          rw [if_neg x]
          refine ⟨fun p hp => ?_, fun R hR => (nomatch hR)⟩
          have hp : p = ik b e r.1 := by cases hp; rfl
          rw [hp]
          exact ⟨_, bad _ _ st⟩
termination_by d => d
theorem r_st (T : TR g0 b e) : ∀ d g a i rs, RPs g0 g a rs rs.length rs.length → a ≤ e → i ≤ e → ik b e a = ik b e i → GdR rs i → d + rs.length = 13 → (∀ p, stP b e d rs i = .inl p → ∃ g', it (fun q : Int32 × Hp => BX12_readStyle_37 q.2 73 q.1) (nI 1, g) = some (nI 0, g') ∧ RFl g0 g' p) ∧ ∀ R, stP b e d rs i = .inr R → ∃ g' a', it (fun q : Int32 × Hp => BX12_readStyle_37 q.2 73 q.1) (nI 1, g) = some (nI 1, g') ∧ RPs g0 g' a' R R.length R.length
  | 0, g, a, i, rs, K, ae, ie, ai, G, hd => by
    have := G.1
    omega
  | d + 1, g, a, i, rs, K, ae, ie, ai, G, hd => by
    have e1 : stP b e (d + 1) rs i = if rs.length = 12 then .inl (ik b e i) else match ruP b e i with
      | .inl p => .inl p
      | .inr q => if e ≤ ik b e q.1 then .inr (rs ++ [q.2]) else if b (ik b e q.1) = 59 then stP b e d (rs ++ [q.2]) (ik b e q.1 + 1) else .inl (ik b e q.1) := rfl
    have e400 := T.2.2.1
    have Tg := K.tr T
    obtain ⟨j1, j2⟩ := ik_le (b := b) ie
    have bk := r_bk Tg K.2.2.1 ae
    rw [ai] at bk
    have K0 := K.s8 (ik b e i)
    obtain ⟨g4, hg4⟩ : ∃ g4, g4 = sI g 73 8 (nI (ik b e i)) := ⟨_, rfl⟩
    rw [← hg4] at K0 bk
    have T4 := K0.tr T
    have R4 := RS.f T4.1
    rw [e1]
    by_cases z : rs.length = 12
    · rw [if_pos z]
      obtain ⟨w, w1, w2⟩ := K0.fails T
      refine ⟨fun p hp => ?_, fun R hR => (nomatch hR)⟩
      have hp : p = ik b e i := by cases hp; rfl
      subst hp
      refine ⟨w, (it_u1 (X := MX12_readStyle_54 g4 73) ?_).trans ?_, w2⟩
      · show BX12_readStyle_37 g 73 (nI 1) = _
        unfold BX12_readStyle_37
        simp only [ZL]
        rw [if_neg (by decide), gg_t (RS.f Tg.1).1, bk, ob_some, gg_t R4.1, K0.2.2.2.2.1, if_pos (by rw [z])]
      · unfold MX12_readStyle_54
        rw [gg_t R4.1, w1, b2_some, gg_t (of_eq_true zk0)]
    · rw [if_neg z]
      have hn : rs.length < 12 := by have := G.1; omega
      obtain ⟨c1, c2⟩ := r_ru T K0 hn j2 ie (ik_i ie) G.2.2.1
      have st : BX12_readStyle_37 g 73 (nI 1) = b2 (MX12_readRule g4 73) fun (t29 : Int32) (h28 : Hp) => if t29 = nI 0 then some (.inr (nI 0, h28)) else gg (kd h28 73 = 11) <| lt (sI h28 73 19 ((gI h28 73 19) + nI 1)) fun (h32 : Hp) => Option.bind (MX12_blanks h32 73) fun (h38 : Hp) => gg (kd h38 73 = 11) <| if (gI h38 73 7) ≤ (gI h38 73 8) then MX12_readStyle_111 h38 73 else gg (kd h38 (gP h38 73 5) = 20) <| gg (inB (gI h38 73 8) (ln h38 (gP h38 73 5)) = true) <| if (gI h38 (gP h38 73 5) (gI h38 73 8).toNatClampNeg) = nI 59 then MX12_readStyle_112 h38 73 (nI 1) else MX12_readStyle_111 h38 73 := by
        unfold BX12_readStyle_37
        simp only [ZL]
        rw [if_neg (by decide), gg_t (RS.f Tg.1).1, bk, ob_some, gg_t R4.1, K0.2.2.2.2.1, if_neg (by rw [nEq (by omega) (by omega)]; exact z)]
      cases q : ruP b e i with
      | inl p =>
        obtain ⟨g', k1, k2⟩ := c1 p q
        refine ⟨fun p' hp => ?_, fun R hR => (nomatch hR)⟩
        have hp : p = p' := by cases hp; rfl
        subst hp
        rw [k1, b2_some, if_pos rfl] at st
        exact ⟨g', it_done st, k2⟩
      | inr r =>
        obtain ⟨g', a', k1, k2, k3, k4⟩ := c2 r q
        obtain ⟨G', r1, r2⟩ := G.app (b := b) hn ie q
        obtain ⟨q1, q2⟩ := ik_le (b := b) r2
        have ll : (rs ++ [r.2]).length = rs.length + 1 := by rw [List.length_append]; rfl
        have up : ∀ x, r.1 ≤ x → GdR (rs ++ [r.2]) x := fun x hx => ⟨G'.1, by have := G'.2.1; omega, by have := G'.2.2.1; omega, G'.2.2.2⟩
        have K3 := k2.s19 (rs ++ [r.2]).length
        rw [← ll] at K3
        have e19 : sI g' 73 19 (gI g' 73 19 + nI 1) = sI g' 73 19 (nI (rs ++ [r.2]).length) := by rw [k2.2.2.2.2.1, nAdd, ll]
        obtain ⟨g3, hg3⟩ : ∃ g3, g3 = sI g' 73 19 (nI (rs ++ [r.2]).length) := ⟨_, rfl⟩
        rw [← hg3] at K3
        have T3 := K3.tr T
        have bk3 := r_bk T3 K3.2.2.1 k3
        rw [k4] at bk3
        have K5 := K3.s8 (ik b e r.1)
        obtain ⟨g5, hg5⟩ : ∃ g5, g5 = sI g3 73 8 (nI (ik b e r.1)) := ⟨_, rfl⟩
        rw [← hg5] at K5 bk3
        have T5 := K5.tr T
        have R5 := RS.f T5.1
        obtain ⟨t1, t2, t3, t4⟩ := id T5
        rw [k1, b2_some, if_neg (show ¬ nI 1 = nI 0 by decide), gg_t (RS.f (k2.tr T).1).1, lt_eq, e19, ← hg3, bk3, ob_some, gg_t R5.1, t2, K5.2.2.1] at st
        show (∀ p, (if e ≤ ik b e r.1 then .inr (rs ++ [r.2]) else if b (ik b e r.1) = 59 then stP b e d (rs ++ [r.2]) (ik b e r.1 + 1) else .inl (ik b e r.1) : Nat ⊕ List Rl) = .inl p → _) ∧ ∀ R, (if e ≤ ik b e r.1 then .inr (rs ++ [r.2]) else if b (ik b e r.1) = 59 then stP b e d (rs ++ [r.2]) (ik b e r.1 + 1) else .inl (ik b e r.1) : Nat ⊕ List Rl) = .inr R → _
        have u112 : MX12_readStyle_112 g5 73 (nI 1) = some (.inl (nI 1, sI g5 73 8 (nI (ik b e r.1 + 1)))) := by
          unfold MX12_readStyle_112
          simp only [ZL]
          rw [if_neg (by decide), gg_t R5.1, K5.2.2.1, nAdd, lt_eq]
        have u111 : MX12_readStyle_111 g5 73 = if nI e ≤ nI (ik b e r.1) then some (.inl (nI 0, g5)) else up1 (MX12_readStyle_141 g5 73) := by
          unfold MX12_readStyle_111 MX12_readStyle_112
          simp only [ZL]
          rw [if_pos trivial, gg_t R5.1, t2, K5.2.2.1]
        by_cases y : e ≤ ik b e r.1
        · rw [if_pos (nI_le y (by omega)), u111, if_pos (nI_le y (by omega))] at st
          rw [if_pos y]
          refine ⟨fun p hp => (nomatch hp), fun R hR => ?_⟩
          have hR : R = rs ++ [r.2] := by cases hR; rfl
          subst hR
          have en : it (fun q : Int32 × Hp => BX12_readStyle_37 q.2 73 q.1) (nI 1, g) = it (fun q : Int32 × Hp => BX12_readStyle_37 q.2 73 q.1) (nI 0, g5) := it_next st
          refine ⟨g5, ik b e r.1, ?_, K5⟩
          rw [en]
          refine it_done ?_
          show BX12_readStyle_37 g5 73 (nI 0) = _
          unfold BX12_readStyle_37
          simp only [ZL]
          rw [if_pos trivial]
        · rw [if_neg (nI_ge (by omega) (by omega))] at st
          rw [if_neg y]
          obtain ⟨c1, c2⟩ := t4 (ik b e r.1) (by omega)
          simp only [R5] at st
          rw [gg_T, gg_in (by omega) (by omega), nCl (by omega), c1] at st
          by_cases x : b (ik b e r.1) = 59
          · rw [if_pos (show nI (b (ik b e r.1)) = nI 59 by rw [x]), u112] at st
            rw [if_pos x]
            have en : it (fun q : Int32 × Hp => BX12_readStyle_37 q.2 73 q.1) (nI 1, g) = it (fun q : Int32 × Hp => BX12_readStyle_37 q.2 73 q.1) (nI 1, sI g5 73 8 (nI (ik b e r.1 + 1))) := it_next st
            rw [en]
            exact r_st T d _ (ik b e r.1 + 1) (ik b e r.1 + 1) (rs ++ [r.2]) (K5.s8 (ik b e r.1 + 1)) (by omega) (by omega) rfl (up _ (by omega)) (by omega)
          · rw [if_neg (show ¬ nI (b (ik b e r.1)) = nI 59 by rw [nEq (by omega) (by omega)]; exact x), u111, if_neg (nI_ge (by omega) (by omega))] at st
            rw [if_neg x]
            obtain ⟨w, w1, w2⟩ := K5.fails T
            refine ⟨fun p hp => ?_, fun R hR => (nomatch hR)⟩
            have hp : p = ik b e r.1 := by cases hp; rfl
            subst hp
            refine ⟨w, (it_u1 (X := MX12_readStyle_141 g5 73) st).trans ?_, w2⟩
            unfold MX12_readStyle_141
            rw [gg_t R5.1, w1, b2_some, gg_t (of_eq_true zk0)]
end
