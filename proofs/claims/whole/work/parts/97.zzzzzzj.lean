/-! style: conditions of rules, the class's reading -/
/-- a piece of the class's reading does what f says -/
def CFn (h0 : Hp) (b : Nat → Nat) (e r c0 : Nat) (F : Hp → Option (Int32 × Hp)) (f : Nat → PR) : Prop := ∀ h a i l, CK h0 h a r c0 l → a ≤ e → i ≤ e → ik b e a = ik b e i → 2 * (c0 + l.length) ≤ i → (∀ p, f i = .inl p → ∃ h', F h = some (nI 0, h') ∧ CX h0 h' r p) ∧ ∀ q, f i = .inr q → ∃ h' a', F h = some (nI 1, h') ∧ CK h0 h' a' r c0 (l ++ q.2) ∧ a' ≤ e ∧ ik b e a' = ik b e q.1
section
variable {h0 h h1 : Hp} {b : Nat → Nat} {e r c0 a c k j x y p i d : Nat} {l : List Op} {o : Op} {u v : Int32} {f : Nat → PR} {F : Hp → Option (Int32 × Hp)}
theorem c_76 (B : HB h0 b e r) (K : CK h0 h a r c0 l) (hc : c0 + l.length < 256) {f n how t : Nat} (hf : f < 6) (hn : n ≤ 9999) (ht : (how = 2 ∧ t = 9) ∨ (how = 3 ∧ t = 18)) : ∃ h', MX10_tagOrComparison_76 h (nI n) 5 (nI (f + 3)) (nI t) = some (nI 1, h') ∧ CK h0 h' a r c0 (l ++ [(how, f, n)]) := by
  obtain ⟨h', k1, k2⟩ := K.add (u := nI (f + 3 + t)) (v := nI n) (o := (how, f, n)) B hc (by
    rw [nMul, nAdd]
    rcases ht with ⟨rfl, rfl⟩ | ⟨rfl, rfl⟩
    · exact congrArg nI (show 32 * n + (f + 3 + 9) = encC (2, f, n) by show 32 * n + (f + 3 + 9) = 32 * n + 12 + f; omega)
    · exact congrArg nI (show 32 * n + (f + 3 + 18) = encC (3, f, n) by show 32 * n + (f + 3 + 18) = 32 * n + 21 + f; omega))
  refine ⟨h', ?_, k2⟩
  unfold MX10_tagOrComparison_76
  simp only [ZL]
  rw [nAdd, K.1.1, gg_t B.2.1.1, k1, ob_some, if_neg (by rw [nM6 (by omega)]; exact id)]
theorem c_cmp (B : HB h0 b e r) (K : CK h0 h i r c0 l) (ie : i ≤ e) (hl : 2 * (c0 + l.length) ≤ i) {f how : Nat} {w : Int32} (hf : f < 6) (ht : (how = 2 ∧ w = nI 1) ∨ (how = 3 ∧ w = nI 0)) : (∀ p, cmP b e how f i = .inl p → ∃ h', MX10_tagOrComparison_51 h 3 (nI (f + 3)) w = some (nI 0, h') ∧ CX h0 h' r p) ∧ ∀ q, cmP b e how f i = .inr q → ∃ h', MX10_tagOrComparison_51 h 3 (nI (f + 3)) w = some (nI 1, h') ∧ CK h0 h' q.1 r c0 (l ++ q.2) := by
  obtain ⟨T, T3⟩ := K.tq B
  have e400 := T.2.2.2.2.2.2.2.2.2.1
  have nb := c_tkN (lo := 0) (hi := 9999) T K.2.2.1 ie (by omega) (by omega)
  have ng := nm_g (b := b) (lo := 0) (hi' := 9999) ie
  have hd : MX10_tagOrComparison_51 h 3 (nI (f + 3)) w = b2 (MX10_takeNumber h 3 (nI 0) (nI 9999)) fun t11 h10 => gg (kd h10 3 = 9) <| if w = nI 0 then MX10_tagOrComparison_76 h10 t11 (gP h10 3 5) (nI (f + 3)) (nI 18) else MX10_tagOrComparison_76 h10 t11 (gP h10 3 5) (nI (f + 3)) (nI 9) := by
    unfold MX10_tagOrComparison_51
    simp only [ZL]
    rw [gg_t T.1]
  rw [hd, nb]
  unfold cmP
  cases q : nmP b e 0 9999 i with
  | inl j =>
    refine ⟨fun p hp => ?_, fun q' hq => (nomatch hq)⟩
    have hp : p = j := by cases hp; rfl
    subst hp
    have Kj := K.at B p
    have X := Kj.fl B (by omega) p
    have t1 : kd (sI (sI h 3 2 (nI p)) 3 3 (nI p)) 3 = 9 := T.1
    have t4 : gP (sI (sI h 3 2 (nI p)) 3 3 (nI p)) 3 5 = 5 := T.2.2.2.1
    have e76 : ∀ t, ∃ h', MX10_tagOrComparison_76 (sI (sI h 3 2 (nI p)) 3 3 (nI p)) (-nI 1) 5 (nI (f + 3)) (nI t) = some (nI 0, h') ∧ CX h0 h' r p := fun t => by
      obtain ⟨h', k1, k2⟩ := X.add (u := nI (f + 3) + nI t) (v := -nI 1) B
      refine ⟨h', ?_, k2⟩
      unfold MX10_tagOrComparison_76
      simp only [ZL]
      rw [X.1.1, gg_t B.2.1.1, k1, ob_some, if_pos trivial]
    show ∃ h', b2 (some (-nI 1, sI (sI h 3 2 (nI p)) 3 3 (nI p))) _ = some (nI 0, h') ∧ _
    rw [b2_some, gg_t t1, t4]
    rcases ht with ⟨rfl, rfl⟩ | ⟨rfl, rfl⟩
    · rw [if_neg (by decide)]; exact e76 9
    · rw [if_pos rfl]; exact e76 18
  | inr rr =>
    refine ⟨fun p hp => (nomatch hp), fun q' hq => ?_⟩
    obtain ⟨g1, g2, g3, g4⟩ := ng.2 rr q
    have hq : q' = (rr.1, [(how, f, rr.2)]) := by cases hq; rfl
    subst hq
    have Kj := K.at B rr.1
    have t1 : kd (sI h 3 2 (nI rr.1)) 3 = 9 := T.1
    have t4 : gP (sI h 3 2 (nI rr.1)) 3 5 = 5 := T.2.2.2.1
    show ∃ h', b2 (some (nI rr.2, sI h 3 2 (nI rr.1))) _ = some (nI 1, h') ∧ _
    rw [b2_some, gg_t t1, t4]
    rcases ht with ⟨rfl, rfl⟩ | ⟨rfl, rfl⟩
    · rw [if_neg (by decide)]; exact c_76 B Kj (by omega) hf g4 (Or.inl ⟨rfl, rfl⟩)
    · rw [if_pos rfl]; exact c_76 B Kj (by omega) hf g4 (Or.inr ⟨rfl, rfl⟩)
theorem c_leaf (B : HB h0 b e r) (K : CK h0 h j r c0 l) (je : j ≤ e) (ij : ik b e j = j) (hl : 2 * (c0 + l.length) ≤ j) : (∀ p, lfP b e j = .inl p → ∃ h', (b2 (MX10_takeFact h 3) fun t52 h51 => gg (kd h51 3 = 9) <| b2 (MX10_tagOrComparison h51 3 t52) fun t56 h55 => gg (zOk t56 = true) <| some (t56, h55)) = some (nI 0, h') ∧ CX h0 h' r p) ∧ ∀ q, lfP b e j = .inr q → ∃ h', (b2 (MX10_takeFact h 3) fun t52 h51 => gg (kd h51 3 = 9) <| b2 (MX10_tagOrComparison h51 3 t52) fun t56 h55 => gg (zOk t56 = true) <| some (t56, h55)) = some (nI 1, h') ∧ CK h0 h' q.1 r c0 (l ++ q.2) := by
  obtain ⟨T, T3⟩ := K.tq B
  have e400 := T.2.2.2.2.2.2.2.2.2.1
  rw [lf_fc, c_fact T K.2.2.1 je ij]
  have fg := fcN_g (b := b) je
  cases q : fcN b e j with
  | none =>
    refine ⟨fun p hp => ?_, fun q' hq => (nomatch hq)⟩
    have hp : p = j := by cases hp; rfl
    subst hp
    have X := K.fl B (by omega) p
    refine ⟨sI h 3 3 (nI p), ?_, X⟩
    show b2 (some (-nI 1, h)) _ = _
    rw [b2_some, gg_t T.1]
    unfold MX10_tagOrComparison
    simp only [ZL]
    rw [if_pos trivial, gg_t T.1, c_fail T K.2.2.1 je T3, b2_some, gg_t (of_eq_true zk0), b2_some, gg_t (of_eq_true zk0), ij]
  | some rr =>
    obtain ⟨g1, g2, g3⟩ := fg rr q
    have K2 := K.at B rr.2
    obtain ⟨T2, T23⟩ := K2.tq B
    show (∀ p, (if rr.1 < 3 then (.inr (rr.2, [(1, rr.1, 0)]) : PR) else fcQ b e (rr.1 - 3) rr.2) = .inl p → ∃ h', b2 (some (nI rr.1, sI h 3 2 (nI rr.2))) _ = some (nI 0, h') ∧ CX h0 h' r p) ∧ ∀ q', (if rr.1 < 3 then (.inr (rr.2, [(1, rr.1, 0)]) : PR) else fcQ b e (rr.1 - 3) rr.2) = .inr q' → ∃ h', b2 (some (nI rr.1, sI h 3 2 (nI rr.2))) _ = some (nI 1, h') ∧ CK h0 h' q'.1 r c0 (l ++ q'.2)
    obtain ⟨h2, hh2⟩ : ∃ h2, h2 = sI h 3 2 (nI rr.2) := ⟨_, rfl⟩
    rw [← hh2] at K2 T2 T23 ⊢
    rw [b2_some, gg_t T2.1]
    by_cases z : rr.1 < 3
    · rw [if_pos z]
      refine ⟨fun p hp => (nomatch hp), fun q' hq => ?_⟩
      have hq : q' = (rr.2, [(1, rr.1, 0)]) := by cases hq; rfl
      subst hq
      obtain ⟨h', k1, k2⟩ := K2.add (u := nI rr.1) (v := nI 0) (o := (1, rr.1, 0)) B (by omega) (by
        rw [nMul, nAdd]
        exact congrArg nI (show 32 * 0 + rr.1 = rr.1 by omega))
      refine ⟨h', ?_, k2⟩
      unfold MX10_tagOrComparison
      simp only [ZL]
      rw [if_neg (by rw [nM6 (by omega)]; exact id), if_neg (nI_nlt (by omega) (by omega)), gg_t T2.1, T2.2.2.2.1, K2.1.1, gg_t B.2.1.1, k1, ob_some, b2_some, gg_t (of_eq_true zk1)]
    · rw [if_neg z]
      obtain ⟨f, hf⟩ : ∃ f, rr.1 = f + 3 := ⟨rr.1 - 3, by omega⟩
      rw [hf, Nat.add_sub_cancel]
      obtain ⟨m1, m2⟩ := ik_le (b := b) g2
      obtain ⟨j2, hj2⟩ : ∃ j2, j2 = ik b e rr.2 := ⟨_, rfl⟩
      have ij2 : ik b e j2 = j2 := by rw [hj2]; exact ik_i g2
      have s60 := c_tkS T2 K2.2.2.1 g2 (show 60 < 128 by omega)
      unfold fcQ
      rw [← hj2] at s60 m1 m2 ⊢
      have hd : MX10_tagOrComparison h2 3 (nI (f + 3)) = b2 (MX10_takeSign h2 3 (nI 60)) fun t6 h5 => if t6 = nI 0 then gg (kd h5 3 = 9) <| b2 (MX10_takeSign h5 3 (nI 62)) fun t21 h20 => if t21 = nI 0 then gg (kd h20 3 = 9) <| b2 (MX10_failHere h20 3) fun t26 h25 => gg (zOk t26 = true) <| some (t26, h25) else MX10_tagOrComparison_51 h20 3 (nI (f + 3)) t6 else MX10_tagOrComparison_51 h5 3 (nI (f + 3)) t6 := by
        unfold MX10_tagOrComparison
        simp only [ZL]
        rw [if_neg (by rw [nM6 (by omega)]; exact id), if_pos (nI_lt (by omega) (by omega)), gg_t T2.1]
      rw [hd, s60]
      by_cases z6 : j2 < e ∧ b j2 = 60
      · rw [if_pos z6, if_pos z6, decide_eq_true z6, show bI true = nI 1 from rfl, b2_some, if_neg (by decide)]
        have K3 := K2.at B (j2 + 1)
        obtain ⟨c1, c2⟩ := c_cmp (how := 2) (w := nI 1) B K3 (by omega) (by omega) (show f < 6 by omega) (Or.inl ⟨rfl, rfl⟩)
        refine ⟨fun p hp => ?_, fun q' hq => ?_⟩
        · obtain ⟨h', k1, k2⟩ := c1 p hp
          exact ⟨h', by rw [k1, b2_some, gg_t (of_eq_true zk0)], k2⟩
        · obtain ⟨h', k1, k2⟩ := c2 q' hq
          exact ⟨h', by rw [k1, b2_some, gg_t (of_eq_true zk1)], k2⟩
      · have K3 := K2.at B j2
        obtain ⟨T3', T33⟩ := K3.tq B
        obtain ⟨h3, hh3⟩ : ∃ h3, h3 = sI h2 3 2 (nI j2) := ⟨_, rfl⟩
        rw [← hh3] at K3 T3' T33
        rw [if_neg z6, if_neg z6, decide_eq_false z6, show bI false = nI 0 from rfl, ← hh3, b2_some, if_pos rfl, gg_t T3'.1, tkS_j T3' K3.2.2.1 m2 ij2 (show 62 < 128 by omega)]
        by_cases z2 : j2 < e ∧ b j2 = 62
        · rw [if_pos z2, if_pos z2, b2_some, if_neg (by decide)]
          have K4 := K3.at B (j2 + 1)
          obtain ⟨c1, c2⟩ := c_cmp (how := 3) (w := nI 0) B K4 (by omega) (by omega) (show f < 6 by omega) (Or.inr ⟨rfl, rfl⟩)
          refine ⟨fun p hp => ?_, fun q' hq => ?_⟩
          · obtain ⟨h', k1, k2⟩ := c1 p hp
            exact ⟨h', by rw [k1, b2_some, gg_t (of_eq_true zk0)], k2⟩
          · obtain ⟨h', k1, k2⟩ := c2 q' hq
            exact ⟨h', by rw [k1, b2_some, gg_t (of_eq_true zk1)], k2⟩
        · rw [if_neg z2, if_neg z2, b2_some, if_pos rfl, gg_t T3'.1, c_fail T3' K3.2.2.1 m2 T33, ij2]
          refine ⟨fun p hp => ?_, fun q' hq => (nomatch hq)⟩
          have hp : p = j2 := by cases hp; rfl
          subst hp
          exact ⟨sI h3 3 3 (nI p), by rw [b2_some, gg_t (of_eq_true zk0), b2_some, gg_t (of_eq_true zk0)], K3.fl B (by omega) p⟩
end
