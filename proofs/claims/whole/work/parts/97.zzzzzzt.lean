/-! style: a style's rules, one behind the other -/
noncomputable def stP (b : Nat → Nat) (e : Nat) : Nat → List Rl → Nat → Nat ⊕ List Rl
  | 0, rs, _ => .inr rs
  | d + 1, rs, i => if rs.length = 12 then .inl (ik b e i) else match ruP b e i with
    | .inl p => .inl p
    | .inr q => if e ≤ ik b e q.1 then .inr (rs ++ [q.2]) else if b (ik b e q.1) = 59 then stP b e d (rs ++ [q.2]) (ik b e q.1 + 1) else .inl (ik b e q.1)
def OkR (t : Rl) : Prop := t.1.1 ≤ 6 ∧ t.1.2.1 ≤ 999 ∧ t.1.2.2 ≤ 999 ∧ (∀ o ∈ t.2, okOp o) ∧ (t.2 = [] ∨ dpO t.2 0 = some 1)
def GdR (rs : List Rl) (i : Nat) : Prop := rs.length ≤ 12 ∧ 2 * ceL rs rs.length ≤ i ∧ poL rs rs.length ≤ 62 + i ∧ ∀ r, r < rs.length → OkR (rs.getD r dRl)
section
variable {h0 h h1 g0 g g1 : Hp} {b : Nat → Nat} {e a a' k n m j p i v r d : Nat} {rs R : List Rl} {t : Rl}
theorem GdR.app (G : GdR rs i) (hn : rs.length < 12) (ie : i ≤ e) {q : Nat × Rl} (hq : ruP b e i = .inr q) : GdR (rs ++ [q.2]) q.1 ∧ i < q.1 ∧ q.1 ≤ e := by
  obtain ⟨G1, G2, G3, G4⟩ := G
  obtain ⟨a1, a2, a3, a4, a5, a6, a7, a8, a9⟩ := (ruP_g (b := b) ie).2 q hq
  have ll : (rs ++ [q.2]).length = rs.length + 1 := by rw [List.length_append]; rfl
  refine ⟨⟨by rw [ll]; omega, by rw [ll, ceL_end]; omega, by rw [ll, poL_end]; omega, fun r hr => ?_⟩, by omega, a2⟩
  rw [ll] at hr
  by_cases z : r < rs.length
  · rw [gD_l z]; exact G4 r z
  · have z : r = rs.length := by omega
    subst z
    rw [gD_e]
    exact ⟨a3, a4, a5, a8, a9⟩
theorem stP_g : ∀ d rs i, GdR rs i → i ≤ e → d + rs.length = 13 → (∀ p, stP b e d rs i = .inl p → p ≤ e) ∧ ∀ R, stP b e d rs i = .inr R → GdR R e
  | 0, rs, i, G, ie, hd => by
    have := G.1
    omega
  | d + 1, rs, i, G, ie, hd => by
    have e1 : stP b e (d + 1) rs i = if rs.length = 12 then .inl (ik b e i) else match ruP b e i with
      | .inl p => .inl p
      | .inr q => if e ≤ ik b e q.1 then .inr (rs ++ [q.2]) else if b (ik b e q.1) = 59 then stP b e d (rs ++ [q.2]) (ik b e q.1 + 1) else .inl (ik b e q.1) := rfl
    obtain ⟨j1, j2⟩ := ik_le (b := b) ie
    rw [e1]
    by_cases z : rs.length = 12
    · rw [if_pos z]
      exact ⟨fun p hp => by cases hp; exact j2, fun R hR => (nomatch hR)⟩
    · rw [if_neg z]
      cases q : ruP b e i with
      | inl p => exact ⟨fun p' hp => by cases hp; exact (ruP_g ie).1 p q, fun R hR => (nomatch hR)⟩
      | inr r =>
        obtain ⟨G', r1, r2⟩ := G.app (b := b) (by have := G.1; omega) ie q
        obtain ⟨q1, q2⟩ := ik_le (b := b) r2
        show (∀ p, (if e ≤ ik b e r.1 then .inr (rs ++ [r.2]) else if b (ik b e r.1) = 59 then stP b e d (rs ++ [r.2]) (ik b e r.1 + 1) else .inl (ik b e r.1) : Nat ⊕ List Rl) = .inl p → p ≤ e) ∧ ∀ R, (if e ≤ ik b e r.1 then .inr (rs ++ [r.2]) else if b (ik b e r.1) = 59 then stP b e d (rs ++ [r.2]) (ik b e r.1 + 1) else .inl (ik b e r.1) : Nat ⊕ List Rl) = .inr R → GdR R e
        have ll : (rs ++ [r.2]).length = rs.length + 1 := by rw [List.length_append]; rfl
        have up : ∀ x, r.1 ≤ x → GdR (rs ++ [r.2]) x := fun x hx => ⟨G'.1, by have := G'.2.1; omega, by have := G'.2.2.1; omega, G'.2.2.2⟩
        by_cases y : e ≤ ik b e r.1
        · rw [if_pos y]
          exact ⟨fun p hp => (nomatch hp), fun R hR => by cases hR; exact up e r2⟩
        · rw [if_neg y]
          by_cases x : b (ik b e r.1) = 59
          · rw [if_pos x]
            exact stP_g d (rs ++ [r.2]) (ik b e r.1 + 1) (up _ (by omega)) (by omega) (by omega)
          · rw [if_neg x]
            exact ⟨fun p hp => by cases hp; exact q2, fun R hR => (nomatch hR)⟩
/-- the class -/
theorem c_st0 {v3 : Int32} (hk : kd h 3 = 9) : it (fun q : Int32 × Int32 × Hp => BX10_firstWrong_56 q.2.2 3 q.1 q.2.1) (nI 0, v3, h) = some (gI h 3 3, h) := by
  refine (it_u1 (X := MX10_firstWrong_92 h 3) ?_).trans ?_
  · show BX10_firstWrong_56 h 3 (nI 0) v3 = _
    unfold BX10_firstWrong_56
    simp only [ZL]
    rw [if_pos trivial]
  · unfold MX10_firstWrong_92
    rw [gg_t hk]
theorem c_an (B : KBs h0 b e) (K : KS h0 h a rs) (ae : a ≤ e) (hn : rs.length ≤ 12) : MX10_anotherFollows h 3 = if ik b e a < e then (if b (ik b e a) = 59 then (if rs.length < 12 then some (nI 1, sI h 3 2 (nI (ik b e a + 1))) else some (nI 0, sI (sI h 3 2 (nI (ik b e a + 1))) 3 3 (nI (ik b e (ik b e a + 1))))) else some (nI 0, sI (sI h 3 2 (nI (ik b e a))) 3 3 (nI (ik b e a)))) else some (nI 0, h) := by
  obtain ⟨T, T3, S⟩ := K.q B
  have e400 := T.2.2.2.2.2.2.2.2.2.1
  have t12 := T.2.2.2.2.2.2.2.2.2.2.2 a ae
  obtain ⟨j1, j2⟩ := ik_le (b := b) ae
  have ts := c_tkS T K.2.2.1 ae (show 59 < 128 by omega)
  unfold MX10_anotherFollows
  simp only [ZL]
  rw [gg_t T.1, T.2.2.1, gg_t T.2.2.2.2.2.2.1, K.2.2.1, T.2.2.2.2.2.2.2.1, gg_in (by omega) (by omega), nCl (by omega), t12, T.2.2.2.2.2.2.2.2.1]
  by_cases y : ik b e a < e
  · rw [if_pos (nI_lt y (by omega)), if_pos y, ts]
    by_cases x : b (ik b e a) = 59
    · have yx : ik b e a < e ∧ b (ik b e a) = 59 := ⟨y, x⟩
      rw [if_pos x, if_pos yx, decide_eq_true yx, show bI true = nI 1 from rfl, b2_some, if_neg (show ¬ nI 1 = nI 0 by decide)]
      have K1 := K.at B (ik b e a + 1)
      obtain ⟨T1, T13, S1⟩ := K1.q B
      rw [gg_t T1.1, T1.2.2.2.1, gg_t S1.1, K1.2.2.2.1]
      by_cases z : rs.length < 12
      · rw [if_pos (nI_lt z (by omega)), if_pos z]
      · rw [if_neg (nI_nlt (by omega) (by omega)), if_neg z, c_fail T1 K1.2.2.1 (by omega) T13, b2_some, if_pos rfl]
    · have yx : ¬ (ik b e a < e ∧ b (ik b e a) = 59) := fun z => x z.2
      rw [if_neg x, if_neg yx, decide_eq_false yx, show bI false = nI 0 from rfl, b2_some, if_pos rfl]
      have K1 := K.at B (ik b e a)
      obtain ⟨T1, T13, S1⟩ := K1.q B
      rw [gg_t T1.1, c_fail T1 K1.2.2.1 j2 T13, b2_some, gg_t (of_eq_true zk0), ik_i ae]
  · rw [if_neg (nI_nlt (by omega) (by omega)), if_neg y]
end
