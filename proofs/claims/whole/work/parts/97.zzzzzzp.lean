/-! style: rules, the class reads them -/
section
variable {h0 h h1 : Hp} {b : Nat → Nat} {e a c k n m j p i lo hi : Nat} {rs : List Rl} {x : Nat × Nat × Nat} {u v w : Int32} {f : Nat → RuR} {F : Hp → Option (Int32 × Hp)} {l : List Op}
/-- a result handed on -/
noncomputable def zWk (F : Hp → Option (Int32 × Hp)) (h : Hp) : Option (Int32 × Hp) := b2 (F h) fun (t : Int32) (h' : Hp) => gg (zOk t = true) <| some (t, h')
theorem CRn.z (C : CRn h0 b e rs F f) : CRn h0 b e rs (zWk F) f := fun h a i K ae ie ai hl => by
  obtain ⟨c1, c2⟩ := C h a i K ae ie ai hl
  refine ⟨fun p hp => ?_, fun q hq => ?_⟩
  · obtain ⟨h', k1, k2⟩ := c1 p hp
    refine ⟨h', ?_, k2⟩
    unfold zWk
    rw [k1, b2_some, gg_t (of_eq_true zk0)]
  · obtain ⟨h', a', k1, k2⟩ := c2 q hq
    refine ⟨h', a', ?_, k2⟩
    unfold zWk
    rw [k1, b2_some, gg_t (of_eq_true zk1)]
/-- a number -/
theorem KS.tn (B : KBs h0 b e) (K : KS h0 h a rs) (ae : a ≤ e) (ai : ik b e a = ik b e i) (hlo : lo < 10000) (hhi : hi < 10000) : (∀ p, nmP b e lo hi i = .inl p → MX10_takeNumber h 3 (nI lo) (nI hi) = some (-nI 1, sI (sI h 3 2 (nI p)) 3 3 (nI p))) ∧ ∀ r, nmP b e lo hi i = .inr r → MX10_takeNumber h 3 (nI lo) (nI hi) = some (nI r.2, sI h 3 2 (nI r.1)) := by
  have T := (K.q B).1
  have := c_tkN (lo := lo) (hi := hi) T K.2.2.1 ae hlo hhi
  rw [nm_ik ai] at this
  refine ⟨fun p hp => ?_, fun r hr => ?_⟩
  · rw [hp] at this; exact this
  · rw [hr] at this; exact this
theorem YX.addR (B : KBs h0 b e) (K : KS h0 h a rs) (hn : rs.length < 12) {h' : Hp} (hh : h' = sI (sI h 3 2 (nI a)) 3 3 (nI p)) : ∃ h'', MX9_addRule h' 5 u v w = some h'' ∧ YX h0 h'' p := by
  have F' : Fr (DSt h0) h0 h' := by rw [hh]; exact (K.1.trans (Fr.sI (Or.inl rfl))).trans (Fr.sI (Or.inl rfl))
  have e5 : gI h' 5 1 = nI rs.length := by rw [hh, gI_sI, if_neg (by decide), gI_sI, if_neg (by decide)]; exact K.2.2.2.1
  obtain ⟨h'', a0, a1, a2, -⟩ := c_addR (u := u) (v := v) (w := w) B.2.2.2 B.2.1 F' e5 hn
  exact ⟨h'', a0, a1, by rw [a2, hh, gI_sI, if_pos rfl, up_at, if_pos rfl]⟩
theorem YX.addR2 (B : KBs h0 b e) (K : KS h0 h a rs) (hn : rs.length < 12) (p : Nat) : ∃ h'', MX9_addRule (sI (sI h 3 2 (nI p)) 3 3 (nI p)) 5 u v w = some h'' ∧ YX h0 h'' p := by
  have K1 := K.at B p
  obtain ⟨h'', a0, a1⟩ := YX.addR (u := u) (v := v) (w := w) (p := p) B K1 hn rfl
  rw [sI_sI] at a0
  exact ⟨h'', a0, a1⟩
theorem c_nb (B : KBs h0 b e) (hn : rs.length < 12) (hlo : lo < 10000) (hhi : hi < 10000) : CRn h0 b e rs (fun h => MX10_readNumbered h 3 (nI k) (nI lo) (nI hi)) (nmR b e k lo hi) := fun h a i K ae ie ai hl => by
  obtain ⟨T, T3, S⟩ := K.q B
  have e400 := T.2.2.2.2.2.2.2.2.2.1
  obtain ⟨n1, n2⟩ := K.tn (lo := lo) (hi := hi) B ae ai hlo hhi
  obtain ⟨g1, g2⟩ := nm_g (b := b) (lo := lo) (hi' := hi) ie
  show (∀ p, nmR b e k lo hi i = .inl p → ∃ h', MX10_readNumbered h 3 (nI k) (nI lo) (nI hi) = some (nI 0, h') ∧ YX h0 h' p) ∧ ∀ q, nmR b e k lo hi i = .inr q → ∃ h' a', MX10_readNumbered h 3 (nI k) (nI lo) (nI hi) = some (nI 1, h') ∧ KS h0 h' a' (rs ++ [q.2]) ∧ a' ≤ e ∧ ik b e a' = ik b e q.1
  unfold nmR MX10_readNumbered
  simp only [ZL]
  cases q : nmP b e lo hi i with
  | inl p =>
    refine ⟨fun p' hp => ?_, fun q' hq => (nomatch hq)⟩
    have hp : p = p' := by cases hp; rfl
    subst hp
    obtain ⟨h'', a0, a1⟩ := YX.addR2 (u := nI k) (v := -nI 1) (w := nI 0) B K hn p
    refine ⟨h'', ?_, a1⟩
    rw [gg_t T.1, n1 p q, b2_some, show kd (sI (sI h 3 2 (nI p)) 3 3 (nI p)) 3 = 9 from T.1, gg_t (show (9 : Nat) = 9 from rfl), show gP (sI (sI h 3 2 (nI p)) 3 3 (nI p)) 3 5 = 5 from T.2.2.2.1, show kd (sI (sI h 3 2 (nI p)) 3 3 (nI p)) 5 = 8 from S.1, gg_t (show (8 : Nat) = 8 from rfl), a0, ob_some, if_pos rfl]
  | inr r =>
    obtain ⟨r1, r2, r3, r4⟩ := g2 r q
    refine ⟨fun p' hp => (nomatch hp), fun q' hq => ?_⟩
    have hq : q' = (r.1, ((k, r.2, 0), [])) := by cases hq; rfl
    subst hq
    have K1 := K.at B r.1
    obtain ⟨h'', a0, a1⟩ := K1.rule B hn k r.2 0
    obtain ⟨T1, -, S1⟩ := K1.q B
    refine ⟨h'', r.1, ?_, a1, r2, rfl⟩
    rw [gg_t T.1, n2 r q, b2_some, gg_t T1.1, T1.2.2.2.1, gg_t S1.1, a0, ob_some, if_neg (by rw [nM6 (by omega)]; exact id)]
theorem c_sp (B : KBs h0 b e) (hn : rs.length < 12) : CRn h0 b e rs (fun h => MX10_readSpace h 3) (spR b e) := fun h a i K ae ie ai hl => by
  obtain ⟨T, T3, S⟩ := K.q B
  have e400 := T.2.2.2.2.2.2.2.2.2.1
  obtain ⟨n1, n2⟩ := K.tn (lo := 1) (hi := 40) B ae ai (by omega) (by omega)
  obtain ⟨g1, g2⟩ := nm_g (b := b) (lo := 1) (hi' := 40) ie
  show (∀ p, spR b e i = .inl p → ∃ h', MX10_readSpace h 3 = some (nI 0, h') ∧ YX h0 h' p) ∧ ∀ q, spR b e i = .inr q → ∃ h' a', MX10_readSpace h 3 = some (nI 1, h') ∧ KS h0 h' a' (rs ++ [q.2]) ∧ a' ≤ e ∧ ik b e a' = ik b e q.1
  unfold spR MX10_readSpace
  simp only [ZL]
  cases q : nmP b e 1 40 i with
  | inl p =>
    refine ⟨fun p' hp => ?_, fun q' hq => (nomatch hq)⟩
    have hp : p = p' := by cases hp; rfl
    subst hp
    refine ⟨_, ?_, (K.at B p).fl p⟩
    rw [gg_t T.1, n1 p q, b2_some, if_pos rfl]
  | inr r =>
    obtain ⟨r1, r2, r3, r4⟩ := g2 r q
    have K1 := K.at B r.1
    obtain ⟨T1, -, S1⟩ := K1.q B
    obtain ⟨m1, m2⟩ := K1.tn (i := r.1) (lo := r.2) (hi := 40) B r2 rfl (by omega) (by omega)
    obtain ⟨h3, hh3⟩ : ∃ h3, h3 = sI h 3 2 (nI r.1) := ⟨_, rfl⟩
    rw [← hh3] at K1 T1 S1 m1 m2
    obtain ⟨f1, f2⟩ := nm_g (b := b) (lo := r.2) (hi' := 40) r2
    rw [gg_t T.1, n2 r q, ← hh3, b2_some, if_neg (by rw [nM6 (by omega)]; exact id), gg_t T1.1]
    show (∀ p, (match nmP b e r.2 40 r.1 with
      | .inl p => .inl p
      | .inr s => .inr (s.1, ((1, r.2, s.2), [])) : RuR) = .inl p → _) ∧ ∀ q, (match nmP b e r.2 40 r.1 with
      | .inl p => .inl p
      | .inr s => .inr (s.1, ((1, r.2, s.2), [])) : RuR) = .inr q → _
    cases q2 : nmP b e r.2 40 r.1 with
    | inl p =>
      refine ⟨fun p' hp => ?_, fun q' hq => (nomatch hq)⟩
      have hp : p = p' := by cases hp; rfl
      subst hp
      obtain ⟨h'', a0, a1⟩ := YX.addR2 (u := nI 1) (v := nI r.2) (w := -nI 1) B K1 hn p
      refine ⟨h'', ?_, a1⟩
      rw [m1 p q2, b2_some, show kd (sI (sI h3 3 2 (nI p)) 3 3 (nI p)) 3 = 9 from T1.1, gg_t (show (9 : Nat) = 9 from rfl), show gP (sI (sI h3 3 2 (nI p)) 3 3 (nI p)) 3 5 = 5 from T1.2.2.2.1, show kd (sI (sI h3 3 2 (nI p)) 3 3 (nI p)) 5 = 8 from S1.1, gg_t (show (8 : Nat) = 8 from rfl), a0, ob_some, if_pos rfl]
    | inr s =>
      obtain ⟨s1, s2, s3, s4⟩ := f2 s q2
      refine ⟨fun p' hp => (nomatch hp), fun q' hq => ?_⟩
      have hq : q' = (s.1, ((1, r.2, s.2), [])) := by cases hq; rfl
      subst hq
      have K2 := K1.at B s.1
      obtain ⟨h'', a0, a1⟩ := K2.rule B hn 1 r.2 s.2
      obtain ⟨T2, -, S2⟩ := K2.q B
      refine ⟨h'', s.1, ?_, a1, s2, rfl⟩
      rw [m2 s q2, b2_some, gg_t T2.1, T2.2.2.2.1, gg_t S2.1, a0, ob_some, if_neg (by rw [nM6 (by omega)]; exact id)]
theorem c_cl (B : KBs h0 b e) (hn : rs.length < 12) : CRn h0 b e rs (fun h => MX10_readClose h 3) (clR b e) := fun h a i K ae ie ai hl => by
  obtain ⟨T, T3, S⟩ := K.q B
  have e400 := T.2.2.2.2.2.2.2.2.2.1
  obtain ⟨n1, n2⟩ := K.tn (lo := 0) (hi := 5) B ae ai (by omega) (by omega)
  obtain ⟨g1, g2⟩ := nm_g (b := b) (lo := 0) (hi' := 5) ie
  show (∀ p, clR b e i = .inl p → ∃ h', MX10_readClose h 3 = some (nI 0, h') ∧ YX h0 h' p) ∧ ∀ q, clR b e i = .inr q → ∃ h' a', MX10_readClose h 3 = some (nI 1, h') ∧ KS h0 h' a' (rs ++ [q.2]) ∧ a' ≤ e ∧ ik b e a' = ik b e q.1
  unfold clR MX10_readClose
  simp only [ZL]
  cases q : nmP b e 0 5 i with
  | inl p =>
    refine ⟨fun p' hp => ?_, fun q' hq => (nomatch hq)⟩
    have hp : p = p' := by cases hp; rfl
    subst hp
    refine ⟨_, ?_, (K.at B p).fl p⟩
    rw [gg_t T.1, n1 p q, b2_some, if_pos rfl]
  | inr r =>
    obtain ⟨r1, r2, r3, r4⟩ := g2 r q
    have K1 := K.at B r.1
    obtain ⟨T1, -, S1⟩ := K1.q B
    obtain ⟨h3, hh3⟩ : ∃ h3, h3 = sI h 3 2 (nI r.1) := ⟨_, rfl⟩
    rw [← hh3] at K1 T1 S1
    have tw := c_tkW T1 K1.2.2.1 r2 (k := 1) (by omega)
    obtain ⟨j1, j2⟩ := ik_le (b := b) r2
    rw [gg_t T.1, n2 r q, ← hh3, b2_some, if_neg (by rw [nM6 (by omega)]; exact id), gg_t T1.1, tw]
    show (∀ p, (if wdB b e 1 (ik b e r.1) = true then (match nmP b e 0 600 (ik b e r.1 + sN 1) with
      | .inl p => .inl p
      | .inr s => .inr (s.1, ((6, r.2, s.2), []))) else .inl (ik b e r.1) : RuR) = .inl p → _) ∧ ∀ q, (if wdB b e 1 (ik b e r.1) = true then (match nmP b e 0 600 (ik b e r.1 + sN 1) with
      | .inl p => .inl p
      | .inr s => .inr (s.1, ((6, r.2, s.2), []))) else .inl (ik b e r.1) : RuR) = .inr q → _
    by_cases wk : wdB b e 1 (ik b e r.1) = true
    · have w1 := (wd_i wk).1
      rw [if_pos wk, if_pos wk, wk, show bI true = nI 1 from rfl, b2_some, if_neg (show ¬ nI 1 = nI 0 by decide)]
      have K2 := K1.at B (ik b e r.1 + sN 1)
      obtain ⟨T2, -, S2⟩ := K2.q B
      obtain ⟨m1, m2⟩ := K2.tn (i := ik b e r.1 + sN 1) (lo := 0) (hi := 600) B w1 rfl (by omega) (by omega)
      obtain ⟨h8, hh8⟩ : ∃ h8, h8 = sI h3 3 2 (nI (ik b e r.1 + sN 1)) := ⟨_, rfl⟩
      rw [← hh8] at K2 T2 S2 m1 m2 ⊢
      obtain ⟨f1, f2⟩ := nm_g (b := b) (lo := 0) (hi' := 600) w1
      rw [gg_t T2.1]
      cases q2 : nmP b e 0 600 (ik b e r.1 + sN 1) with
      | inl p =>
        refine ⟨fun p' hp => ?_, fun q' hq => (nomatch hq)⟩
        have hp : p = p' := by cases hp; rfl
        subst hp
        obtain ⟨h'', a0, a1⟩ := YX.addR2 (u := nI 6) (v := nI r.2) (w := -nI 1) B K2 hn p
        refine ⟨h'', ?_, a1⟩
        rw [m1 p q2, b2_some, show kd (sI (sI h8 3 2 (nI p)) 3 3 (nI p)) 3 = 9 from T2.1, gg_t (show (9 : Nat) = 9 from rfl), show gP (sI (sI h8 3 2 (nI p)) 3 3 (nI p)) 3 5 = 5 from T2.2.2.2.1, show kd (sI (sI h8 3 2 (nI p)) 3 3 (nI p)) 5 = 8 from S2.1, gg_t (show (8 : Nat) = 8 from rfl), a0, ob_some, if_pos rfl]
      | inr s =>
        obtain ⟨s1, s2, s3, s4⟩ := f2 s q2
        refine ⟨fun p' hp => (nomatch hp), fun q' hq => ?_⟩
        have hq : q' = (s.1, ((6, r.2, s.2), [])) := by cases hq; rfl
        subst hq
        have K3 := K2.at B s.1
        obtain ⟨h'', a0, a1⟩ := K3.rule B hn 6 r.2 s.2
        obtain ⟨T3, -, S3⟩ := K3.q B
        refine ⟨h'', s.1, ?_, a1, s2, rfl⟩
        rw [m2 s q2, b2_some, gg_t T3.1, T3.2.2.2.1, gg_t S3.1, a0, ob_some, if_neg (by rw [nM6 (by omega)]; exact id)]
    · have wf : wdB b e 1 (ik b e r.1) = false := by
        cases x : wdB b e 1 (ik b e r.1) with
        | true => exact absurd x wk
        | false => rfl
      rw [if_neg wk, if_neg wk, wf, show bI false = nI 0 from rfl, b2_some, if_pos rfl]
      have K2 := K1.at B (ik b e r.1)
      obtain ⟨T2, T23, S2⟩ := K2.q B
      refine ⟨fun p' hp => ?_, fun q' hq => (nomatch hq)⟩
      have hp : p' = ik b e r.1 := by cases hp; rfl
      subst hp
      refine ⟨_, ?_, K2.fl _⟩
      rw [gg_t T2.1, c_fail T2 K2.2.2.1 j2 T23, b2_some, gg_t (of_eq_true zk0), ik_i r2]
/-- if, and a condition, behind a rule that is added -/
theorem c_ifW (B : KBs h0 b e) (K : KS h0 h a (rs ++ [(x, [])])) (hn : rs.length < 12) (ae : a ≤ e) (hc : 2 * ceL rs rs.length ≤ ik b e a) (must : Bool) (X : Option (Int32 × Hp)) (fin : Int32 → Hp → Option (Int32 × Hp)) (f0 : ∀ h, fin (nI 0) h = some (nI 0, h)) (f1 : ∀ h, fin (nI 1) h = some (nI 1, h)) (hX1 : wdB b e 9 (ik b e a) = true → X = b2 (MX10_either 30 (sI h 3 2 (nI (ik b e a + sN 9))) 3 (nI 0)) fin) (hX0 : ¬ wdB b e 9 (ik b e a) = true → X = if must = true then b2 (MX10_failHere (sI h 3 2 (nI (ik b e a))) 3) fin else some (nI 1, sI h 3 2 (nI (ik b e a)))) : (∀ p, ifR b e must x a = .inl p → ∃ h', X = some (nI 0, h') ∧ YX h0 h' p) ∧ ∀ q, ifR b e must x a = .inr q → ∃ h' a', X = some (nI 1, h') ∧ KS h0 h' a' (rs ++ [q.2]) ∧ a' ≤ e ∧ ik b e a' = ik b e q.1 := by
  obtain ⟨T, T3, S⟩ := K.q B
  obtain ⟨j1, j2⟩ := ik_le (b := b) ae
  unfold ifR
  by_cases wk : wdB b e 9 (ik b e a) = true
  · have w1 := (wd_i wk).1
    rw [if_pos wk, hX1 wk]
    have K2 := K.at B (ik b e a + sN 9)
    obtain ⟨c1, c2⟩ := c_eith B K2 hn w1 (by omega)
    cases q : anP b e (atP b e 5) (ik b e a + sN 9) with
    | inl p =>
      obtain ⟨h', k1, k2⟩ := c1 p q
      refine ⟨fun p' hp => ?_, fun q' hq => (nomatch hq)⟩
      have hp : p = p' := by cases hp; rfl
      subst hp
      refine ⟨h', ?_, k2⟩
      show b2 (RX10_atom 30 2 _ 3 (nI 0)) _ = _
      rw [k1, b2_some, f0]
    | inr r =>
      obtain ⟨h', a', k1, k2, k3, k4⟩ := c2 r q
      refine ⟨fun p' hp => (nomatch hp), fun q' hq => ?_⟩
      have hq : q' = (r.1, (x, r.2)) := by cases hq; rfl
      subst hq
      refine ⟨h', a', ?_, k2, k3, k4⟩
      show b2 (RX10_atom 30 2 _ 3 (nI 0)) _ = _
      rw [k1, b2_some, f1]
  · rw [if_neg wk, hX0 wk]
    have K2 := K.at B (ik b e a)
    obtain ⟨T2, T23, S2⟩ := K2.q B
    by_cases z : must = true
    · rw [if_pos z, if_pos z]
      refine ⟨fun p' hp => ?_, fun q' hq => (nomatch hq)⟩
      have hp : p' = ik b e a := by cases hp; rfl
      subst hp
      refine ⟨_, ?_, K2.fl _⟩
      rw [c_fail T2 K2.2.2.1 j2 T23, b2_some, f0, ik_i ae]
    · rw [if_neg z, if_neg z]
      refine ⟨fun p' hp => (nomatch hp), fun q' hq => ?_⟩
      have hq : q' = (ik b e a, (x, [])) := by cases hq; rfl
      subst hq
      exact ⟨_, ik b e a, rfl, K2, j2, rfl⟩
/-- a number, perhaps a condition -/
noncomputable def cNf (k lo hi : Int32) (h : Hp) : Option (Int32 × Hp) := b2 (MX10_readNumbered h 3 k lo hi) fun (t68 : Int32) (h67 : Hp) => if t68 = nI 0 then some (nI 0, h67) else gg (kd h67 3 = 9) <| b2 (MX10_takeWord h67 3 9) fun (t73 : Int32) (h72 : Hp) => if t73 = nI 0 then some (nI 1, h72) else gg (kd h72 3 = 9) <| b2 (MX10_either 30 h72 3 (nI 0)) fun (t78 : Int32) (h77 : Hp) => if t78 = nI 0 then some (nI 0, h77) else some (nI 1, h77)
theorem tkW_t (T : TQ h b e) (ha : gI h 3 2 = nI a) (ae : a ≤ e) (hk : k < 21) (w : wdB b e k (ik b e a) = true) : MX10_takeWord h 3 k = some (nI 1, sI h 3 2 (nI (ik b e a + sN k))) := by
  have := c_tkW T ha ae hk
  rw [if_pos w, w] at this
  exact this
theorem tkW_f (T : TQ h b e) (ha : gI h 3 2 = nI a) (ae : a ≤ e) (hk : k < 21) (w : ¬ wdB b e k (ik b e a) = true) : MX10_takeWord h 3 k = some (nI 0, sI h 3 2 (nI (ik b e a))) := by
  have := c_tkW T ha ae hk
  have wf : wdB b e k (ik b e a) = false := by
    cases x : wdB b e k (ik b e a) with
    | true => exact absurd x w
    | false => rfl
  rw [if_neg w, wf] at this
  exact this
theorem c_nf (B : KBs h0 b e) (hn : rs.length < 12) (hlo : lo < 10000) (hhi : hi < 10000) : CRn h0 b e rs (cNf (nI k) (nI lo) (nI hi)) (nfR b e k lo hi) := fun h a i K ae ie ai hl => by
  obtain ⟨c1, c2⟩ := c_nb (k := k) (lo := lo) (hi := hi) B hn hlo hhi h a i K ae ie ai hl
  obtain ⟨g1, g2⟩ := nm_g (b := b) (lo := lo) (hi' := hi) ie
  unfold nmR at c1 c2
  unfold nfR cNf
  cases q : nmP b e lo hi i with
  | inl p =>
    rw [q] at c1
    obtain ⟨h', k1, k2⟩ := c1 p rfl
    replace k1 : MX10_readNumbered h 3 (nI k) (nI lo) (nI hi) = _ := k1
    refine ⟨fun p' hp => ?_, fun q' hq => (nomatch hq)⟩
    have hp : p = p' := by cases hp; rfl
    subst hp
    exact ⟨h', by rw [k1, b2_some, if_pos rfl], k2⟩
  | inr r =>
    rw [q] at c2
    obtain ⟨r1, r2, r3, r4⟩ := g2 r q
    obtain ⟨h', a', k1, k2, k3, k4⟩ := c2 _ rfl
    replace k1 : MX10_readNumbered h 3 (nI k) (nI lo) (nI hi) = _ := k1
    replace k2 : KS h0 h' a' (rs ++ [((k, r.2, 0), [])]) := k2
    replace k4 : ik b e a' = ik b e r.1 := k4
    obtain ⟨j1, j2⟩ := ik_le (b := b) r2
    obtain ⟨T', -, S'⟩ := KS.q B k2
    have e1 : ifR b e false (k, r.2, 0) r.1 = ifR b e false (k, r.2, 0) a' := by
      unfold ifR
      rw [k4]
    show (∀ p, ifR b e false (k, r.2, 0) r.1 = .inl p → ∃ h', _ ∧ YX h0 h' p) ∧ ∀ q, ifR b e false (k, r.2, 0) r.1 = .inr q → ∃ h' a', _ ∧ KS h0 h' a' (rs ++ [q.2]) ∧ a' ≤ e ∧ ik b e a' = ik b e q.1
    rw [e1, k1, b2_some, if_neg (show ¬ nI 1 = nI 0 by decide), gg_t T'.1]
    refine c_ifW B k2 hn k3 (by omega) false _ (fun t78 h77 => if t78 = nI 0 then some (nI 0, h77) else some (nI 1, h77)) (fun h => if_pos rfl) (fun h => if_neg (by decide)) (fun w => ?_) (fun w => ?_)
    · rw [tkW_t T' k2.2.2.1 k3 (by omega) w, b2_some, if_neg (show ¬ nI 1 = nI 0 by decide), show kd (sI h' 3 2 (nI (ik b e a' + sN 9))) 3 = 9 from T'.1, gg_t (show (9 : Nat) = 9 from rfl)]
    · rw [tkW_f T' k2.2.2.1 k3 (by omega) w, b2_some, if_pos rfl, if_neg (by decide)]
/-- free, if -/
noncomputable def cFr (h : Hp) : Option (Int32 × Hp) := gg (kd h (gP h 3 5) = 8) <| Option.bind (MX9_addRule h (gP h 3 5) (nI 5) (nI 0) (nI 0)) fun (h49 : Hp) => gg (kd h49 3 = 9) <| b2 (MX10_takeWord h49 3 9) fun (t53 : Int32) (h52 : Hp) => if t53 = nI 0 then gg (kd h52 3 = 9) <| b2 (MX10_failHere h52 3) fun (t58 : Int32) (h57 : Hp) => gg (zOk t58 = true) <| some (t58, h57) else gg (kd h52 3 = 9) <| b2 (MX10_either 30 h52 3 (nI 0)) fun (t63 : Int32) (h62 : Hp) => gg (zOk t63 = true) <| some (t63, h62)
theorem c_fr (B : KBs h0 b e) (hn : rs.length < 12) : CRn h0 b e rs cFr (ifR b e true (5, 0, 0)) := fun h a i K ae ie ai hl => by
  obtain ⟨T, T3, S⟩ := K.q B
  obtain ⟨h', a0, a1⟩ := K.rule B hn 5 0 0
  obtain ⟨T', -, S'⟩ := KS.q B a1
  obtain ⟨j1, j2⟩ := ik_le (b := b) ie
  have e1 : ifR b e true (5, 0, 0) i = ifR b e true (5, 0, 0) a := by
    unfold ifR
    rw [ai]
  unfold cFr
  rw [e1, gg_t (show kd h (gP h 3 5) = 8 by rw [T.2.2.2.1]; exact S.1), T.2.2.2.1, a0, ob_some, gg_t T'.1]
  refine c_ifW B a1 hn ae (by omega) true _ (fun t58 h57 => gg (zOk t58 = true) <| some (t58, h57)) (fun h => gg_t (of_eq_true zk0)) (fun h => gg_t (of_eq_true zk1)) (fun w => ?_) (fun w => ?_)
  · rw [tkW_t T' a1.2.2.1 ae (by omega) w, b2_some, if_neg (show ¬ nI 1 = nI 0 by decide), show kd (sI h' 3 2 (nI (ik b e a + sN 9))) 3 = 9 from T'.1, gg_t (show (9 : Nat) = 9 from rfl)]
  · rw [tkW_f T' a1.2.2.1 ae (by omega) w, b2_some, if_pos rfl, show kd (sI h' 3 2 (nI (ik b e a))) 3 = 9 from T'.1, gg_t (show (9 : Nat) = 9 from rfl), if_pos rfl]
theorem c_ru (B : KBs h0 b e) (hn : rs.length < 12) : CRn h0 b e rs (fun h => MX10_readRule h 3) (ruP b e) := fun h a i K ae ie ai hl => by
  obtain ⟨T, T3, S⟩ := K.q B
  obtain ⟨j1, j2⟩ := ik_le (b := b) ie
  obtain ⟨j, hj⟩ : ∃ j, j = ik b e i := ⟨_, rfl⟩
  have ij : ik b e j = j := by rw [hj]; exact ik_i ie
  have K1 := K.at B j
  have aj : ik b e a = j := by rw [ai, hj]
  obtain ⟨hh, hhh⟩ : ∃ hh, hh = sI h 3 2 (nI j) := ⟨_, rfl⟩
  rw [← hhh] at K1
  obtain ⟨T1, T13, S1⟩ := K1.q B
  rw [← hj] at j1 j2
  have sw : ∀ x, sI h 3 2 (nI x) = sI hh 3 2 (nI x) := fun x => by rw [hhh, sI_sI]
  -- the first word
  have first : MX10_takeWord h 3 13 = if wdB b e 13 j = true then some (nI 1, sI hh 3 2 (nI (j + sN 13))) else some (nI 0, hh) := by
    by_cases w : wdB b e 13 j = true
    · have := tkW_t (k := 13) T K.2.2.1 ae (by omega) (by rw [aj]; exact w)
      rw [aj, sw] at this
      rw [if_pos w]
      exact this
    · have := tkW_f (k := 13) T K.2.2.1 ae (by omega) (by rw [aj]; exact w)
      rw [aj, ← hhh] at this
      rw [if_neg w]
      exact this
  -- the branch of word k
  have br : ∀ {k : Nat} {F : Hp → Option (Int32 × Hp)} {f : Nat → RuR}, wdB b e k j = true → CRn h0 b e rs F f → ∀ X, X = F (sI hh 3 2 (nI (j + sN k))) → (∀ p, f (j + sN k) = .inl p → ∃ h', X = some (nI 0, h') ∧ YX h0 h' p) ∧ ∀ q, f (j + sN k) = .inr q → ∃ h' a', X = some (nI 1, h') ∧ KS h0 h' a' (rs ++ [q.2]) ∧ a' ≤ e ∧ ik b e a' = ik b e q.1 := fun {k F f} w C X hX => by
    rw [hX]
    exact C _ (j + sN k) (j + sN k) (K1.at B (j + sN k)) (wd_i w).1 (wd_i w).1 rfl (by omega)
  have t9 : ∀ x, kd (sI hh 3 2 (nI x)) 3 = 9 := fun x => T1.1
  have e9 : (9 : Nat) = 9 := rfl
  show (∀ p, ruP b e i = .inl p → ∃ h', MX10_readRule h 3 = some (nI 0, h') ∧ YX h0 h' p) ∧ ∀ q, ruP b e i = .inr q → ∃ h' a', MX10_readRule h 3 = some (nI 1, h') ∧ KS h0 h' a' (rs ++ [q.2]) ∧ a' ≤ e ∧ ik b e a' = ik b e q.1
  unfold ruP
  rw [← hj]
  unfold MX10_readRule
  simp only [ZL]
  rw [gg_t T.1, first]
  by_cases w13 : wdB b e 13 j = true
  · rw [if_pos w13, if_pos w13, b2_some, if_neg (show ¬ nI 1 = nI 0 by decide), t9, gg_t e9]
    exact br w13 (c_nf (k := 0) (lo := 10) (hi := 400) B hn (by omega) (by omega)) _ rfl
  rw [if_neg w13, if_neg w13, b2_some, if_pos rfl, gg_t T1.1, tkW_j T1 K1.2.2.1 j2 ij (k := 19) (by omega)]
  by_cases w19 : wdB b e 19 j = true
  · rw [if_pos w19, if_pos w19, b2_some, if_neg (show ¬ nI 1 = nI 0 by decide), t9, gg_t e9]
    exact br w19 (c_sp B hn).z _ rfl
  rw [if_neg w19, if_neg w19, b2_some, if_pos rfl, gg_t T1.1, tkW_j T1 K1.2.2.1 j2 ij (k := 17) (by omega)]
  by_cases w17 : wdB b e 17 j = true
  · rw [if_pos w17, if_pos w17, b2_some, if_neg (show ¬ nI 1 = nI 0 by decide), t9, gg_t e9]
    exact br w17 (c_nb (k := 2) (lo := 0) (hi := 999) B hn (by omega) (by omega)).z _ rfl
  rw [if_neg w17, if_neg w17, b2_some, if_pos rfl, gg_t T1.1, tkW_j T1 K1.2.2.1 j2 ij (k := 6) (by omega)]
  by_cases w6 : wdB b e 6 j = true
  · rw [if_pos w6, if_pos w6, b2_some, if_neg (show ¬ nI 1 = nI 0 by decide), t9, gg_t e9]
    exact br w6 (c_nb (k := 3) (lo := 0) (hi := 99) B hn (by omega) (by omega)).z _ rfl
  rw [if_neg w6, if_neg w6, b2_some, if_pos rfl, gg_t T1.1, tkW_j T1 K1.2.2.1 j2 ij (k := 18) (by omega)]
  by_cases w18 : wdB b e 18 j = true
  · rw [if_pos w18, if_pos w18, b2_some, if_neg (show ¬ nI 1 = nI 0 by decide), t9, gg_t e9]
    exact br w18 (c_nf (k := 4) (lo := 0) (hi := 999) B hn (by omega) (by omega)) _ rfl
  rw [if_neg w18, if_neg w18, b2_some, if_pos rfl, gg_t T1.1, tkW_j T1 K1.2.2.1 j2 ij (k := 7) (by omega)]
  by_cases w7 : wdB b e 7 j = true
  · rw [if_pos w7, if_pos w7, b2_some, if_neg (show ¬ nI 1 = nI 0 by decide), t9, gg_t e9]
    exact br w7 (c_fr B hn) _ rfl
  rw [if_neg w7, if_neg w7, b2_some, if_pos rfl, gg_t T1.1, tkW_j T1 K1.2.2.1 j2 ij (k := 3) (by omega)]
  by_cases w3 : wdB b e 3 j = true
  · rw [if_pos w3, if_pos w3, b2_some, if_neg (show ¬ nI 1 = nI 0 by decide), t9, gg_t e9]
    exact br w3 (c_cl B hn).z _ rfl
  rw [if_neg w3, if_neg w3, b2_some, if_pos rfl, gg_t T1.1, c_fail T1 K1.2.2.1 j2 T13, b2_some, gg_t (of_eq_true zk0), ij]
  refine ⟨fun p' hp => ?_, fun q' hq => (nomatch hq)⟩
  have hp : p' = j := by cases hp; rfl
  rw [hp]
  exact ⟨_, rfl, K1.fl _⟩
end
