/-! style: rules, the reference reads spaces, closes, all -/
section
variable {g0 g g1 g9 : Hp} {b : Nat → Nat} {e a a' k n m j p i lo hi v r : Nat} {rs : List Rl} {t : Rl} {c c' : Nat → Nat} {l : List Op} {f : Nat → RuR} {F : Hp → Option (Int32 × Hp)}
theorem r_k1 (T : TR g0 b e) (hn : rs.length < 12) : DRn g0 b e rs (fun g => MX12_readRule_127 g 73 (nI (2 + 5 * rs.length)) (nI 1)) (spR b e) := fun g a K ae hp => by
  obtain ⟨n1, n2⟩ := r_nk (k := 1) (lo := 1) (hi := 40) T K hn (by omega) ae (by omega) (by omega) (by decide) (fun g' => by
    rw [if_neg (by decide), if_pos rfl]
    unfold MX12_readRule_175
    simp only [ZL]
    rw [if_neg (by decide), if_pos trivial])
  obtain ⟨g1, g2⟩ := nm_g (b := b) (lo := 1) (hi' := 40) ae
  unfold spR
  cases q : nmP b e 1 40 a with
  | inl p =>
    refine ⟨fun p' hp => ?_, fun q' hq => (nomatch hq)⟩
    have hp : p = p' := by cases hp; rfl
    subst hp
    exact n1 p q
  | inr r =>
    obtain ⟨g', y1, y2⟩ := n2 r q
    obtain ⟨r1, r2, r3, r4⟩ := g2 r q
    obtain ⟨f1, f2⟩ := nm_g (b := b) (lo := r.2) (hi' := 40) r2
    have R := RS.f (y2.1.tr T).1
    have e1 : r223t g' (nI (2 + 5 * rs.length)) (nI 1) = MX12_readRule_329 g' 73 (nI (2 + 5 * rs.length)) 73 (nI r.2) (nI 40) := by
      have d1 := y2.2 1 (by omega)
      replace d1 : gI g' 83 (2 + 5 * rs.length + 1) = nI r.2 := d1
      unfold r223t MX12_readRule_285 MX12_readRule_298 MX12_readRule_316
      simp only [ZL]
      rw [if_neg (by decide), if_neg (by decide), if_neg (by decide), if_pos trivial, if_pos trivial]
      simp only [R]
      rw [gg_T, gg_T, nAdd, gg_in (by omega) (by omega), nCl (by omega), d1, if_pos trivial]
    obtain ⟨m1, m2⟩ := r_329 (lo := r.2) (hi := 40) T y2 hn r2 (by omega) (by omega)
    show (∀ p, (match nmP b e r.2 40 r.1 with
      | .inl p => .inl p
      | .inr s => .inr (s.1, ((1, r.2, s.2), [])) : RuR) = .inl p → ∃ g', MX12_readRule_127 g 73 (nI (2 + 5 * rs.length)) (nI 1) = some (nI 0, g') ∧ RFl g0 g' p) ∧ ∀ q, (match nmP b e r.2 40 r.1 with
      | .inl p => .inl p
      | .inr s => .inr (s.1, ((1, r.2, s.2), [])) : RuR) = .inr q → ∃ g' a', MX12_readRule_127 g 73 (nI (2 + 5 * rs.length)) (nI 1) = some (nI 1, g') ∧ RPs g0 g' a' (rs ++ [q.2]) rs.length (rs.length + 1) ∧ a' ≤ e ∧ ik b e a' = ik b e q.1
    rw [y1, e1]
    cases q2 : nmP b e r.2 40 r.1 with
    | inl p =>
      refine ⟨fun p' hp => ?_, fun q' hq => (nomatch hq)⟩
      have hp : p = p' := by cases hp; rfl
      subst hp
      exact m1 p q2
    | inr s =>
      obtain ⟨z, z1, z2⟩ := m2 s q2
      refine ⟨fun p' hp => (nomatch hp), fun q' hq => ?_⟩
      have hq : q' = (s.1, ((1, r.2, s.2), [])) := by cases hq; rfl
      subst hq
      exact ⟨z, s.1, z1, KP.done T z2 hn rfl rfl, (f2 s q2).2.1, rfl⟩
theorem r_k6 (T : TR g0 b e) (hn : rs.length < 12) : DRn g0 b e rs (fun g => MX12_readRule_127 g 73 (nI (2 + 5 * rs.length)) (nI 6)) (clR b e) := fun g a K ae hp => by
  obtain ⟨n1, n2⟩ := r_nk (k := 6) (lo := 0) (hi := 5) T K hn (by omega) ae (by omega) (by omega) (by decide) (fun g' => by
    rw [if_neg (by decide), if_neg (by decide)]
    unfold MX12_readRule_175
    simp only [ZL]
    rw [if_neg (by decide), if_neg (by decide), if_neg (by decide), if_neg (by decide), if_neg (by decide)])
  obtain ⟨g1, g2⟩ := nm_g (b := b) (lo := 0) (hi' := 5) ae
  unfold clR
  cases q : nmP b e 0 5 a with
  | inl p =>
    refine ⟨fun p' hp => ?_, fun q' hq => (nomatch hq)⟩
    have hp : p = p' := by cases hp; rfl
    subst hp
    exact n1 p q
  | inr r =>
    obtain ⟨g', y1, y2⟩ := n2 r q
    obtain ⟨r1, r2, r3, r4⟩ := g2 r q
    obtain ⟨j1, j2⟩ := ik_le (b := b) r2
    have Tg := y2.1.tr T
    show (∀ p, (if wdB b e 1 (ik b e r.1) = true then (match nmP b e 0 600 (ik b e r.1 + sN 1) with
      | .inl p => .inl p
      | .inr s => .inr (s.1, ((6, r.2, s.2), []))) else .inl (ik b e r.1) : RuR) = .inl p → ∃ g', MX12_readRule_127 g 73 (nI (2 + 5 * rs.length)) (nI 6) = some (nI 0, g') ∧ RFl g0 g' p) ∧ ∀ q, (if wdB b e 1 (ik b e r.1) = true then (match nmP b e 0 600 (ik b e r.1 + sN 1) with
      | .inl p => .inl p
      | .inr s => .inr (s.1, ((6, r.2, s.2), []))) else .inl (ik b e r.1) : RuR) = .inr q → ∃ g' a', MX12_readRule_127 g 73 (nI (2 + 5 * rs.length)) (nI 6) = some (nI 1, g') ∧ RPs g0 g' a' (rs ++ [q.2]) rs.length (rs.length + 1) ∧ a' ≤ e ∧ ik b e a' = ik b e q.1
    rw [y1]
    by_cases wk : wdB b e 1 (ik b e r.1) = true
    · have w1 := (wd_i wk).1
      rw [if_pos wk]
      have y3 := y2.s8 (ik b e r.1 + sN 1)
      have e1 : r223t g' (nI (2 + 5 * rs.length)) (nI 6) = MX12_readRule_329 (sI g' 73 8 (nI (ik b e r.1 + sN 1))) 73 (nI (2 + 5 * rs.length)) 73 (nI 0) (nI 600) := by
        unfold r223t MX12_readRule_285 MX12_readRule_298 MX12_readRule_316
        simp only [ZL]
        rw [if_neg (by decide), if_neg (by decide), if_pos trivial, rtk_t Tg y2.1.2.2.1 r2 (by omega) wk, b2_some, if_neg (show ¬ nI 1 = nI 0 by decide), if_neg (by decide), if_pos trivial, if_neg (by decide), if_neg (by decide)]
      rw [e1]
      obtain ⟨g9, hg9⟩ : ∃ g9, g9 = sI g' 73 8 (nI (ik b e r.1 + sN 1)) := ⟨_, rfl⟩
      rw [← hg9] at y3 ⊢
      obtain ⟨f1, f2⟩ := nm_g (b := b) (lo := 0) (hi' := 600) w1
      obtain ⟨m1, m2⟩ := r_329 (lo := 0) (hi := 600) T y3 hn w1 (by omega) (by omega)
      cases q2 : nmP b e 0 600 (ik b e r.1 + sN 1) with
      | inl p =>
        refine ⟨fun p' hp => ?_, fun q' hq => (nomatch hq)⟩
        have hp : p = p' := by cases hp; rfl
        subst hp
        exact m1 p q2
      | inr s =>
        obtain ⟨z, z1, z2⟩ := m2 s q2
        refine ⟨fun p' hp => (nomatch hp), fun q' hq => ?_⟩
        have hq : q' = (s.1, ((6, r.2, s.2), [])) := by cases hq; rfl
        subst hq
        exact ⟨z, s.1, z1, KP.done T z2 hn rfl rfl, (f2 s q2).2.1, rfl⟩
    · rw [if_neg wk]
      have y3 := y2.s8 (ik b e r.1)
      obtain ⟨z, z1, z2⟩ := y3.1.fails T
      refine ⟨fun p' hp => ?_, fun q' hq => (nomatch hq)⟩
      have hp : p' = ik b e r.1 := by cases hp; rfl
      subst hp
      refine ⟨z, ?_, z2⟩
      unfold r223t
      rw [if_neg (by decide), if_neg (by decide), if_pos rfl, rtk_f Tg y2.1.2.2.1 r2 (by omega) wk, b2_some, if_pos rfl, gg_t (RS.f (y3.1.tr T).1).1, z1, b2_some, gg_t (of_eq_true zk0)]
/-- a rule -/
theorem r_ru (T : TR g0 b e) (K : RPs g0 g a rs rs.length rs.length) (hn : rs.length < 12) (ae : a ≤ e) (ie : i ≤ e) (ai : ik b e a = ik b e i) (hp : poL rs rs.length ≤ 62 + i) : (∀ p, ruP b e i = .inl p → ∃ g', MX12_readRule g 73 = some (nI 0, g') ∧ RFl g0 g' p) ∧ ∀ q, ruP b e i = .inr q → ∃ g' a', MX12_readRule g 73 = some (nI 1, g') ∧ RPs g0 g' a' (rs ++ [q.2]) rs.length (rs.length + 1) ∧ a' ≤ e ∧ ik b e a' = ik b e q.1 := by
  obtain ⟨g', z1, z2⟩ := r_zero T hn 5 0 g rfl (K.wk (Nat.le_succ _)) (fun k hk => absurd hk (Nat.not_lt_zero k))
  have pre : MX12_readRule g 73 = MX12_readRule_31 g' 73 (nI (2 + 5 * rs.length)) := by
    rw [← z1]
    unfold MX12_readRule MX12_readRule_11
    simp only [ZL]
    rw [gg_t (RS.f (K.tr T).1).1, K.2.2.2.2.1, nMul, nAdd]
  rw [pre]
  obtain ⟨j1, j2⟩ := ik_le (b := b) ie
  obtain ⟨j, hj⟩ : ∃ j, j = ik b e i := ⟨_, rfl⟩
  have ij : ik b e j = j := by rw [hj]; exact ik_i ie
  have aj : ik b e a = j := by rw [ai, hj]
  have K1 := z2.s8 j
  obtain ⟨hh, hhh⟩ : ∃ hh, hh = sI g' 73 8 (nI j) := ⟨_, rfl⟩
  rw [← hhh] at K1
  have Tg := z2.1.tr T
  have T1 := K1.1.tr T
  have R1 := (RS.f T1.1).1
  have a1 := K1.1.2.2.1
  rw [← hj] at j1 j2
  have sw : ∀ x, sI g' 73 8 (nI x) = sI hh 73 8 (nI x) := fun x => by rw [hhh, sI_sI]
  have first : MX12_takes g' 73 13 = if wdB b e 13 j = true then some (nI 1, sI hh 73 8 (nI (j + sN 13))) else some (nI 0, hh) := by
    by_cases w : wdB b e 13 j = true
    · have := rtk_t (k := 13) Tg z2.1.2.2.1 ae (by omega) (by rw [aj]; exact w)
      rw [aj, sw] at this
      rw [if_pos w]
      exact this
    · have := rtk_f (k := 13) Tg z2.1.2.2.1 ae (by omega) (by rw [aj]; exact w)
      rw [aj, ← hhh] at this
      rw [if_neg w]
      exact this
  have br : ∀ {k : Nat} {F : Hp → Option (Int32 × Hp)} {f : Nat → RuR}, wdB b e k j = true → DRn g0 b e rs F f → ∀ X, X = F (sI hh 73 8 (nI (j + sN k))) → (∀ p, f (j + sN k) = .inl p → ∃ h', X = some (nI 0, h') ∧ RFl g0 h' p) ∧ ∀ q, f (j + sN k) = .inr q → ∃ h' a', X = some (nI 1, h') ∧ RPs g0 h' a' (rs ++ [q.2]) rs.length (rs.length + 1) ∧ a' ≤ e ∧ ik b e a' = ik b e q.1 := fun {k F f} w C X hX => by
    rw [hX]
    exact C _ (j + sN k) (K1.s8 (j + sN k)) (wd_i w).1 (by omega)
  unfold ruP
  rw [← hj]
  unfold MX12_readRule_31
  simp only [ZL]
  rw [gg_t (RS.f Tg.1).1, first]
  by_cases w13 : wdB b e 13 j = true
  · rw [if_pos w13, if_pos w13, b2_some, if_neg (show ¬ nI 1 = nI 0 by decide)]
    exact br w13 (r_nf (k := 0) (lo := 10) (hi := 400) T hn (by omega) (Or.inl rfl) (by omega) (by omega) (fun g' => by
      rw [if_pos rfl]
      unfold MX12_readRule_175
      simp only [ZL]
      rw [if_pos trivial])) _ rfl
  rw [if_neg w13, if_neg w13, b2_some, if_pos rfl, gg_t R1, rtk_j T1 a1 j2 ij (k := 19) (by omega)]
  by_cases w19 : wdB b e 19 j = true
  · rw [if_pos w19, if_pos w19, b2_some, if_neg (show ¬ nI 1 = nI 0 by decide)]
    exact br w19 (r_k1 T hn) _ rfl
  rw [if_neg w19, if_neg w19, b2_some, if_pos rfl, gg_t R1, rtk_j T1 a1 j2 ij (k := 17) (by omega)]
  by_cases w17 : wdB b e 17 j = true
  · rw [if_pos w17, if_pos w17, b2_some, if_neg (show ¬ nI 1 = nI 0 by decide)]
    exact br w17 (r_nm (k := 2) (lo := 0) (hi := 999) T hn (by omega) (Or.inl rfl) (by omega) (by omega) (fun g' => by
      rw [if_neg (by decide), if_neg (by decide)]
      unfold MX12_readRule_175 MX12_readRule_206
      simp only [ZL]
      rw [if_neg (by decide), if_neg (by decide), if_pos trivial])) _ rfl
  rw [if_neg w17, if_neg w17, b2_some, if_pos rfl, gg_t R1, rtk_j T1 a1 j2 ij (k := 6) (by omega)]
  by_cases w6 : wdB b e 6 j = true
  · rw [if_pos w6, if_pos w6, b2_some, if_neg (show ¬ nI 1 = nI 0 by decide)]
    exact br w6 (r_nm (k := 3) (lo := 0) (hi := 99) T hn (by omega) (Or.inr rfl) (by omega) (by omega) (fun g' => by
      rw [if_neg (by decide), if_neg (by decide)]
      unfold MX12_readRule_175
      simp only [ZL]
      rw [if_neg (by decide), if_neg (by decide), if_neg (by decide), if_neg (by decide), if_pos trivial])) _ rfl
  rw [if_neg w6, if_neg w6, b2_some, if_pos rfl, gg_t R1, rtk_j T1 a1 j2 ij (k := 18) (by omega)]
  by_cases w18 : wdB b e 18 j = true
  · rw [if_pos w18, if_pos w18, b2_some, if_neg (show ¬ nI 1 = nI 0 by decide)]
    exact br w18 (r_nf (k := 4) (lo := 0) (hi := 999) T hn (by omega) (Or.inr rfl) (by omega) (by omega) (fun g' => by
      rw [if_neg (by decide), if_neg (by decide)]
      unfold MX12_readRule_175 MX12_readRule_206
      simp only [ZL]
      rw [if_neg (by decide), if_neg (by decide), if_neg (by decide), if_pos trivial])) _ rfl
  rw [if_neg w18, if_neg w18, b2_some, if_pos rfl, gg_t R1, rtk_j T1 a1 j2 ij (k := 7) (by omega)]
  by_cases w7 : wdB b e 7 j = true
  · rw [if_pos w7, if_pos w7, b2_some, if_neg (show ¬ nI 1 = nI 0 by decide)]
    exact br w7 (r_k5 T hn) _ rfl
  rw [if_neg w7, if_neg w7, b2_some, if_pos rfl, gg_t R1, rtk_j T1 a1 j2 ij (k := 3) (by omega)]
  by_cases w3 : wdB b e 3 j = true
  · rw [if_pos w3, if_pos w3, b2_some, if_neg (show ¬ nI 1 = nI 0 by decide)]
    exact br w3 (r_k6 T hn) _ rfl
  rw [if_neg w3, if_neg w3, b2_some, if_pos rfl]
  obtain ⟨z, y1, y2⟩ := K1.1.fails T
  refine ⟨fun p' hp => ?_, fun q' hq => (nomatch hq)⟩
  have hp : p' = j := by cases hp; rfl
  subst hp
  refine ⟨z, ?_, y2⟩
  unfold MX12_readRule_127
  simp only [ZL]
  rw [if_pos trivial, gg_t R1, y1, b2_some, gg_t (of_eq_true zk0)]
end
