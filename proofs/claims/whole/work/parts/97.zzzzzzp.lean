/-! style: rules, the class reads them -/
section
variable {h0 h h1 : Hp} {b : Nat → Nat} {e a c k n m j p i lo hi : Nat} {rs : List Rl} {x : Nat × Nat × Nat} {u v w : Int32} {f : Nat → RuR} {F : Hp → Option (Int32 × Hp)} {l : List Op}
/-- a result handed on -/
noncomputable def zWk (F : Hp → Option (Int32 × Hp)) (h : Hp) : Option (Int32 × Hp) := b2 (F h) fun (t : Int32) (h' : Hp) => gg (zOk t = true) <| some (t, h')
theorem CRn.z (C : CRn h0 b e rs F f) : CRn h0 b e rs (zWk F) f := fun h a i K ae ie ai hl => by
  obtain ⟨c1, c2⟩ := C h a i K ae ie ai hl
  refine ⟨fun p hp => ?_, fun q hq => ?_⟩
  · obtain ⟨h', k1, k2⟩ := c1 p hp
    refine ⟨h', ?_, k2⟩
    unfold zWk
    rw [k1, b2_some, gg_t (of_eq_true zk0)]
  · obtain ⟨h', a', k1, k2⟩ := c2 q hq
    refine ⟨h', a', ?_, k2⟩
    unfold zWk
    rw [k1, b2_some, gg_t (of_eq_true zk1)]
/-- a number -/
theorem KS.tn (B : KBs h0 b e) (K : KS h0 h a rs) (ae : a ≤ e) (ai : ik b e a = ik b e i) (hlo : lo < 10000) (hhi : hi < 10000) : (∀ p, nmP b e lo hi i = .inl p → MX10_takeNumber h 3 (nI lo) (nI hi) = some (-nI 1, sI (sI h 3 2 (nI p)) 3 3 (nI p))) ∧ ∀ r, nmP b e lo hi i = .inr r → MX10_takeNumber h 3 (nI lo) (nI hi) = some (nI r.2, sI h 3 2 (nI r.1)) := by
  have T := (K.q B).1
  have := c_tkN (lo := lo) (hi := hi) T K.2.2.1 ae hlo hhi
  rw [nm_ik ai] at this
  refine ⟨fun p hp => ?_, fun r hr => ?_⟩
  · rw [hp] at this; exact this
  · rw [hr] at this; exact this
theorem YX.addR (B : KBs h0 b e) (K : KS h0 h a rs) (hn : rs.length < 12) {h' : Hp} (hh : h' = sI (sI h 3 2 (nI a)) 3 3 (nI p)) : ∃ h'', MX9_addRule h' 5 u v w = some h'' ∧ YX h0 h'' p := by
  have F' : Fr (DSt h0) h0 h' := by rw [hh]; exact (K.1.trans (Fr.sI (Or.inl rfl))).trans (Fr.sI (Or.inl rfl))
  have e5 : gI h' 5 1 = nI rs.length := by rw [hh, gI_sI, if_neg (by decide), gI_sI, if_neg (by decide)]; exact K.2.2.2.1
  obtain ⟨h'', a0, a1, a2, -⟩ := c_addR (u := u) (v := v) (w := w) B.2.2.2 B.2.1 F' e5 hn
  exact ⟨h'', a0, a1, by rw [a2, hh, gI_sI, if_pos rfl, up_at, if_pos rfl]⟩
theorem YX.addR2 (B : KBs h0 b e) (K : KS h0 h a rs) (hn : rs.length < 12) (p : Nat) : ∃ h'', MX9_addRule (sI (sI h 3 2 (nI p)) 3 3 (nI p)) 5 u v w = some h'' ∧ YX h0 h'' p := by
  have K1 := K.at B p
  obtain ⟨h'', a0, a1⟩ := YX.addR (u := u) (v := v) (w := w) (p := p) B K1 hn rfl
  rw [sI_sI] at a0
  exact ⟨h'', a0, a1⟩
theorem c_nb (B : KBs h0 b e) (hn : rs.length < 12) (hlo : lo < 10000) (hhi : hi < 10000) : CRn h0 b e rs (fun h => MX10_readNumbered h 3 (nI k) (nI lo) (nI hi)) (nmR b e k lo hi) := fun h a i K ae ie ai hl => by
  obtain ⟨T, T3, S⟩ := K.q B
  have e400 := T.2.2.2.2.2.2.2.2.2.1
  obtain ⟨n1, n2⟩ := K.tn (lo := lo) (hi := hi) B ae ai hlo hhi
  obtain ⟨g1, g2⟩ := nm_g (b := b) (lo := lo) (hi' := hi) ie
  show (∀ p, nmR b e k lo hi i = .inl p → ∃ h', MX10_readNumbered h 3 (nI k) (nI lo) (nI hi) = some (nI 0, h') ∧ YX h0 h' p) ∧ ∀ q, nmR b e k lo hi i = .inr q → ∃ h' a', MX10_readNumbered h 3 (nI k) (nI lo) (nI hi) = some (nI 1, h') ∧ KS h0 h' a' (rs ++ [q.2]) ∧ a' ≤ e ∧ ik b e a' = ik b e q.1
  unfold nmR MX10_readNumbered
  simp only [ZL]
  cases q : nmP b e lo hi i with
  | inl p =>
    refine ⟨fun p' hp => ?_, fun q' hq => (nomatch hq)⟩
    have hp : p = p' := by cases hp; rfl
    subst hp
    obtain ⟨h'', a0, a1⟩ := YX.addR2 (u := nI k) (v := -nI 1) (w := nI 0) B K hn p
    refine ⟨h'', ?_, a1⟩
    rw [gg_t T.1, n1 p q, b2_some, show kd (sI (sI h 3 2 (nI p)) 3 3 (nI p)) 3 = 9 from T.1, gg_t (show (9 : Nat) = 9 from rfl), show gP (sI (sI h 3 2 (nI p)) 3 3 (nI p)) 3 5 = 5 from T.2.2.2.1, show kd (sI (sI h 3 2 (nI p)) 3 3 (nI p)) 5 = 8 from S.1, gg_t (show (8 : Nat) = 8 from rfl), a0, ob_some, if_pos rfl]
  | inr r =>
    obtain ⟨r1, r2, r3, r4⟩ := g2 r q
    refine ⟨fun p' hp => (nomatch hp), fun q' hq => ?_⟩
    have hq : q' = (r.1, ((k, r.2, 0), [])) := by cases hq; rfl
    subst hq
    have K1 := K.at B r.1
    obtain ⟨h'', a0, a1⟩ := K1.rule B hn k r.2 0
    obtain ⟨T1, -, S1⟩ := K1.q B
    refine ⟨h'', r.1, ?_, a1, r2, rfl⟩
    rw [gg_t T.1, n2 r q, b2_some, gg_t T1.1, T1.2.2.2.1, gg_t S1.1, a0, ob_some, if_neg (by rw [nM6 (by omega)]; exact id)]
theorem c_sp (B : KBs h0 b e) (hn : rs.length < 12) : CRn h0 b e rs (fun h => MX10_readSpace h 3) (spR b e) := fun h a i K ae ie ai hl => by
  obtain ⟨T, T3, S⟩ := K.q B
  have e400 := T.2.2.2.2.2.2.2.2.2.1
  obtain ⟨n1, n2⟩ := K.tn (lo := 1) (hi := 40) B ae ai (by omega) (by omega)
  obtain ⟨g1, g2⟩ := nm_g (b := b) (lo := 1) (hi' := 40) ie
  show (∀ p, spR b e i = .inl p → ∃ h', MX10_readSpace h 3 = some (nI 0, h') ∧ YX h0 h' p) ∧ ∀ q, spR b e i = .inr q → ∃ h' a', MX10_readSpace h 3 = some (nI 1, h') ∧ KS h0 h' a' (rs ++ [q.2]) ∧ a' ≤ e ∧ ik b e a' = ik b e q.1
  unfold spR MX10_readSpace
  simp only [ZL]
  cases q : nmP b e 1 40 i with
  | inl p =>
    refine ⟨fun p' hp => ?_, fun q' hq => (nomatch hq)⟩
    have hp : p = p' := by cases hp; rfl
    subst hp
    refine ⟨_, ?_, (K.at B p).fl p⟩
    rw [gg_t T.1, n1 p q, b2_some, if_pos rfl]
  | inr r =>
    obtain ⟨r1, r2, r3, r4⟩ := g2 r q
    have K1 := K.at B r.1
    obtain ⟨T1, -, S1⟩ := K1.q B
    obtain ⟨m1, m2⟩ := K1.tn (i := r.1) (lo := r.2) (hi := 40) B r2 rfl (by omega) (by omega)
    obtain ⟨h3, hh3⟩ : ∃ h3, h3 = sI h 3 2 (nI r.1) := ⟨_, rfl⟩
    rw [← hh3] at K1 T1 S1 m1 m2
    obtain ⟨f1, f2⟩ := nm_g (b := b) (lo := r.2) (hi' := 40) r2
    rw [gg_t T.1, n2 r q, ← hh3, b2_some, if_neg (by rw [nM6 (by omega)]; exact id), gg_t T1.1]
    show (∀ p, (match nmP b e r.2 40 r.1 with
      | .inl p => .inl p
      | .inr s => .inr (s.1, ((1, r.2, s.2), [])) : RuR) = .inl p → _) ∧ ∀ q, (match nmP b e r.2 40 r.1 with
      | .inl p => .inl p
      | .inr s => .inr (s.1, ((1, r.2, s.2), [])) : RuR) = .inr q → _
    cases q2 : nmP b e r.2 40 r.1 with
    | inl p =>
      refine ⟨fun p' hp => ?_, fun q' hq => (nomatch hq)⟩
      have hp : p = p' := by cases hp; rfl
      subst hp
      obtain ⟨h'', a0, a1⟩ := YX.addR2 (u := nI 1) (v := nI r.2) (w := -nI 1) B K1 hn p
      refine ⟨h'', ?_, a1⟩
      rw [m1 p q2, b2_some, show kd (sI (sI h3 3 2 (nI p)) 3 3 (nI p)) 3 = 9 from T1.1, gg_t (show (9 : Nat) = 9 from rfl), show gP (sI (sI h3 3 2 (nI p)) 3 3 (nI p)) 3 5 = 5 from T1.2.2.2.1, show kd (sI (sI h3 3 2 (nI p)) 3 3 (nI p)) 5 = 8 from S1.1, gg_t (show (8 : Nat) = 8 from rfl), a0, ob_some, if_pos rfl]
    | inr s =>
      obtain ⟨s1, s2, s3, s4⟩ := f2 s q2
      refine ⟨fun p' hp => (nomatch hp), fun q' hq => ?_⟩
      have hq : q' = (s.1, ((1, r.2, s.2), [])) := by cases hq; rfl
      subst hq
      have K2 := K1.at B s.1
      obtain ⟨h'', a0, a1⟩ := K2.rule B hn 1 r.2 s.2
      obtain ⟨T2, -, S2⟩ := K2.q B
      refine ⟨h'', s.1, ?_, a1, s2, rfl⟩
      rw [m2 s q2, b2_some, gg_t T2.1, T2.2.2.2.1, gg_t S2.1, a0, ob_some, if_neg (by rw [nM6 (by omega)]; exact id)]
theorem c_cl (B : KBs h0 b e) (hn : rs.length < 12) : CRn h0 b e rs (fun h => MX10_readClose h 3) (clR b e) := fun h a i K ae ie ai hl => by
  obtain ⟨T, T3, S⟩ := K.q B
  have e400 := T.2.2.2.2.2.2.2.2.2.1
  obtain ⟨n1, n2⟩ := K.tn (lo := 0) (hi := 5) B ae ai (by omega) (by omega)
  obtain ⟨g1, g2⟩ := nm_g (b := b) (lo := 0) (hi' := 5) ie
  show (∀ p, clR b e i = .inl p → ∃ h', MX10_readClose h 3 = some (nI 0, h') ∧ YX h0 h' p) ∧ ∀ q, clR b e i = .inr q → ∃ h' a', MX10_readClose h 3 = some (nI 1, h') ∧ KS h0 h' a' (rs ++ [q.2]) ∧ a' ≤ e ∧ ik b e a' = ik b e q.1
  unfold clR MX10_readClose
  simp only [ZL]
  cases q : nmP b e 0 5 i with
  | inl p =>
    refine ⟨fun p' hp => ?_, fun q' hq => (nomatch hq)⟩
    have hp : p = p' := by cases hp; rfl
    subst hp
    refine ⟨_, ?_, (K.at B p).fl p⟩
    rw [gg_t T.1, n1 p q, b2_some, if_pos rfl]
  | inr r =>
    obtain ⟨r1, r2, r3, r4⟩ := g2 r q
    have K1 := K.at B r.1
    obtain ⟨T1, -, S1⟩ := K1.q B
    obtain ⟨h3, hh3⟩ : ∃ h3, h3 = sI h 3 2 (nI r.1) := ⟨_, rfl⟩
    rw [← hh3] at K1 T1 S1
    have tw := c_tkW T1 K1.2.2.1 r2 (k := 1) (by omega)
    obtain ⟨j1, j2⟩ := ik_le (b := b) r2
    rw [gg_t T.1, n2 r q, ← hh3, b2_some, if_neg (by rw [nM6 (by omega)]; exact id), gg_t T1.1, tw]
    show (∀ p, (if wdB b e 1 (ik b e r.1) = true then (match nmP b e 0 600 (ik b e r.1 + sN 1) with
      | .inl p => .inl p
      | .inr s => .inr (s.1, ((6, r.2, s.2), []))) else .inl (ik b e r.1) : RuR) = .inl p → _) ∧ ∀ q, (if wdB b e 1 (ik b e r.1) = true then (match nmP b e 0 600 (ik b e r.1 + sN 1) with
      | .inl p => .inl p
      | .inr s => .inr (s.1, ((6, r.2, s.2), []))) else .inl (ik b e r.1) : RuR) = .inr q → _
    by_cases wk : wdB b e 1 (ik b e r.1) = true
    · have w1 := (wd_i wk).1
      rw [if_pos wk, if_pos wk, wk, show bI true = nI 1 from rfl, b2_some, if_neg (show ¬ nI 1 = nI 0 by decide)]
      have K2 := K1.at B (ik b e r.1 + sN 1)
      obtain ⟨T2, -, S2⟩ := K2.q B
      obtain ⟨m1, m2⟩ := K2.tn (i := ik b e r.1 + sN 1) (lo := 0) (hi := 600) B w1 rfl (by omega) (by omega)
      obtain ⟨h8, hh8⟩ : ∃ h8, h8 = sI h3 3 2 (nI (ik b e r.1 + sN 1)) := ⟨_, rfl⟩
      rw [← hh8] at K2 T2 S2 m1 m2 ⊢
      obtain ⟨f1, f2⟩ := nm_g (b := b) (lo := 0) (hi' := 600) w1
      rw [gg_t T2.1]
      cases q2 : nmP b e 0 600 (ik b e r.1 + sN 1) with
      | inl p =>
        refine ⟨fun p' hp => ?_, fun q' hq => (nomatch hq)⟩
        have hp : p = p' := by cases hp; rfl
        subst hp
        obtain ⟨h'', a0, a1⟩ := YX.addR2 (u := nI 6) (v := nI r.2) (w := -nI 1) B K2 hn p
        refine ⟨h'', ?_, a1⟩
        rw [m1 p q2, b2_some, show kd (sI (sI h8 3 2 (nI p)) 3 3 (nI p)) 3 = 9 from T2.1, gg_t (show (9 : Nat) = 9 from rfl), show gP (sI (sI h8 3 2 (nI p)) 3 3 (nI p)) 3 5 = 5 from T2.2.2.2.1, show kd (sI (sI h8 3 2 (nI p)) 3 3 (nI p)) 5 = 8 from S2.1, gg_t (show (8 : Nat) = 8 from rfl), a0, ob_some, if_pos rfl]
      | inr s =>
        obtain ⟨s1, s2, s3, s4⟩ := f2 s q2
        refine ⟨fun p' hp => (nomatch hp), fun q' hq => ?_⟩
        have hq : q' = (s.1, ((6, r.2, s.2), [])) := by cases hq; rfl
        subst hq
        have K3 := K2.at B s.1
        obtain ⟨h'', a0, a1⟩ := K3.rule B hn 6 r.2 s.2
        obtain ⟨T3, -, S3⟩ := K3.q B
        refine ⟨h'', s.1, ?_, a1, s2, rfl⟩
        rw [m2 s q2, b2_some, gg_t T3.1, T3.2.2.2.1, gg_t S3.1, a0, ob_some, if_neg (by rw [nM6 (by omega)]; exact id)]
    · have wf : wdB b e 1 (ik b e r.1) = false := by
        cases x : wdB b e 1 (ik b e r.1) with
        | true => exact absurd x wk
        | false => rfl
      rw [if_neg wk, if_neg wk, wf, show bI false = nI 0 from rfl, b2_some, if_pos rfl]
      have K2 := K1.at B (ik b e r.1)
      obtain ⟨T2, T23, S2⟩ := K2.q B
      refine ⟨fun p' hp => ?_, fun q' hq => (nomatch hq)⟩
      have hp : p' = ik b e r.1 := by cases hp; rfl
      subst hp
      refine ⟨_, ?_, K2.fl _⟩
      rw [gg_t T2.1, c_fail T2 K2.2.2.1 j2 T23, b2_some, gg_t (of_eq_true zk0), ik_i r2]
/-- if, and a condition, behind a rule that is added -/
theorem c_ifW (B : KBs h0 b e) (K : KS h0 h a (rs ++ [(x, [])])) (hn : rs.length < 12) (ae : a ≤ e) (hc : 2 * ceL rs rs.length ≤ a) (must : Bool) (X : Option (Int32 × Hp)) (hX : X = b2 (MX10_takeWord h 3 9) fun (t : Int32) (h2 : Hp) => if t = nI 0 then (if must = true then b2 (MX10_failHere h2 3) fun (t58 : Int32) (h57 : Hp) => gg (zOk t58 = true) <| some (t58, h57) else some (nI 1, h2)) else b2 (MX10_either 30 h2 3 (nI 0)) fun (t63 : Int32) (h62 : Hp) => gg (zOk t63 = true) <| some (t63, h62)) : (∀ p, ifR b e must x a = .inl p → ∃ h', X = some (nI 0, h') ∧ YX h0 h' p) ∧ ∀ q, ifR b e must x a = .inr q → ∃ h' a', X = some (nI 1, h') ∧ KS h0 h' a' (rs ++ [q.2]) ∧ a' ≤ e ∧ ik b e a' = ik b e q.1 := by
  obtain ⟨T, T3, S⟩ := K.q B
  obtain ⟨j1, j2⟩ := ik_le (b := b) ae
  have tw := c_tkW T K.2.2.1 ae (k := 9) (by omega)
  rw [hX, tw]
  unfold ifR
  by_cases wk : wdB b e 9 (ik b e a) = true
  · have w1 := (wd_i wk).1
    rw [if_pos wk, if_pos wk, wk, show bI true = nI 1 from rfl, b2_some, if_neg (show ¬ nI 1 = nI 0 by decide)]
    have K2 := K.at B (ik b e a + sN 9)
    obtain ⟨c1, c2⟩ := c_eith B K2 hn w1 (by omega)
    cases q : anP b e (atP b e 5) (ik b e a + sN 9) with
    | inl p =>
      obtain ⟨h', k1, k2⟩ := c1 p q
      refine ⟨fun p' hp => ?_, fun q' hq => (nomatch hq)⟩
      have hp : p = p' := by cases hp; rfl
      subst hp
      refine ⟨h', ?_, k2⟩
      show b2 (RX10_atom 30 2 _ 3 (nI 0)) _ = _
      rw [k1, b2_some, gg_t (of_eq_true zk0)]
    | inr r =>
      obtain ⟨h', a', k1, k2, k3, k4⟩ := c2 r q
      refine ⟨fun p' hp => (nomatch hp), fun q' hq => ?_⟩
      have hq : q' = (r.1, (x, r.2)) := by cases hq; rfl
      subst hq
      refine ⟨h', a', ?_, k2, k3, k4⟩
      show b2 (RX10_atom 30 2 _ 3 (nI 0)) _ = _
      rw [k1, b2_some, gg_t (of_eq_true zk1)]
  · have wf : wdB b e 9 (ik b e a) = false := by
      cases x : wdB b e 9 (ik b e a) with
      | true => exact absurd x wk
      | false => rfl
    rw [if_neg wk, if_neg wk, wf, show bI false = nI 0 from rfl, b2_some, if_pos rfl]
    have K2 := K.at B (ik b e a)
    obtain ⟨T2, T23, S2⟩ := K2.q B
    by_cases z : must = true
    · rw [if_pos z, if_pos z]
      refine ⟨fun p' hp => ?_, fun q' hq => (nomatch hq)⟩
      have hp : p' = ik b e a := by cases hp; rfl
      subst hp
      refine ⟨_, ?_, K2.fl _⟩
      rw [c_fail T2 K2.2.2.1 j2 T23, b2_some, gg_t (of_eq_true zk0), ik_i ae]
    · rw [if_neg z, if_neg z]
      refine ⟨fun p' hp => (nomatch hp), fun q' hq => ?_⟩
      have hq : q' = (ik b e a, (x, [])) := by cases hq; rfl
      subst hq
      exact ⟨_, ik b e a, rfl, K2, j2, rfl⟩
/-- a number, perhaps a condition -/
noncomputable def cNf (k lo hi : Int32) (h : Hp) : Option (Int32 × Hp) := b2 (MX10_readNumbered h 3 k lo hi) fun (t68 : Int32) (h67 : Hp) => if t68 = nI 0 then some (nI 0, h67) else gg (kd h67 3 = 9) <| b2 (MX10_takeWord h67 3 9) fun (t73 : Int32) (h72 : Hp) => if t73 = nI 0 then some (nI 1, h72) else gg (kd h72 3 = 9) <| b2 (MX10_either 30 h72 3 (nI 0)) fun (t78 : Int32) (h77 : Hp) => if t78 = nI 0 then some (nI 0, h77) else some (nI 1, h77)
end
